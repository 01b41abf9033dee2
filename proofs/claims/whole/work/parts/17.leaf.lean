/-! ===== L3: leaves ===== -/
/-- an int is one of n numbers from a on -/
def iz (x : Int32) (a n : Nat) : Bool := decide ((a : Int) ≤ x.toInt) && decide (x.toInt < (a : Int) + n)
theorem iz_iff (x : Int32) (a n : Nat) : iz x a n = true ↔ (a : Int) ≤ x.toInt ∧ x.toInt < (a : Int) + n := by
  unfold iz
  rw [Bool.and_eq_true, decide_eq_true_eq, decide_eq_true_eq]
theorem iz_nI {k : Nat} (a n : Nat) (h : k < 2 ^ 31) : iz (nI k) a n = decide (a ≤ k ∧ k < a + n) := by
  have e : iz (nI k) a n = true ↔ decide (a ≤ k ∧ k < a + n) = true := by
    rw [iz_iff, nI_toInt h, decide_eq_true_eq]
    omega
  exact Bool.eq_iff_iff.mpr e
theorem iz_jN {k : Nat} (a n : Nat) (h0 : 0 < k) (h : k < 2 ^ 31) : iz (jN k) a n = false := by
  unfold iz
  rw [jN_toInt h, decide_eq_false (show ¬ ((a : Int) ≤ -(k : Int)) by omega), Bool.false_and]
theorem iz_of {x : Int32} {a n : Nat} (h : iz x a n = true) : ∃ k, k < n ∧ a + k < 2 ^ 31 ∧ x = nI (a + k) := by
  rw [iz_iff] at h
  obtain ⟨j, hj, rfl⟩ := nI_of (x := x) (by rw [i_lt]; show ¬ _ < (0 : Int); omega)
  rw [nI_toInt hj] at h
  exact ⟨j - a, by omega, by omega, by rw [show a + (j - a) = j by omega]⟩
theorem iz_0 {x : Int32} {n : Nat} (h : iz x 0 n = true) : ∃ k, k < n ∧ k < 2 ^ 31 ∧ x = nI k := by
  obtain ⟨k, h1, h2, h3⟩ := iz_of h
  exact ⟨k, h1, by omega, by rw [h3, Nat.zero_add]⟩
theorem bI_dec (p : Prop) (i : Decidable p) : (@ite _ p i (nI 1) (nI 0) : Int32) = bI (decide p) := by
  unfold bI
  by_cases h : p
  · rw [if_pos h, if_pos (decide_eq_true h)]
  · rw [if_neg h, if_neg (by rw [decide_eq_false h]; decide)]
theorem q_in (x : Int32) {a b : Nat} (ha : a < 2 ^ 31) (hb : b < 2 ^ 31) : M_in x (nI a) (nI b) = some (bI (iz x a (b + 1 - a))) := by
  unfold M_in M_in_j14 M_in_j15
  simp only [i_lt, nI_toInt ha, nI_toInt hb]
  by_cases h1 : x.toInt < a
  · rw [if_pos h1, show iz x a (b + 1 - a) = false by unfold iz; rw [decide_eq_false (by omega), Bool.false_and]]
    rfl
  · rw [if_neg h1]
    by_cases h2 : (b : Int) < x.toInt
    · rw [if_pos h2, show iz x a (b + 1 - a) = false by unfold iz; rw [decide_eq_false (show ¬ (x.toInt < (a : Int) + ((b + 1 - a : Nat) : Int)) by omega), Bool.and_false]]
      rfl
    · rw [if_neg h2, (iz_iff x a (b + 1 - a)).mpr ⟨by omega, by omega⟩]
      rfl
theorem q_in0 (x : Int32) {n : Nat} (hn : n < 2 ^ 31) : M_in x (nI 0) (nI n - nI 1) = some (bI (iz x 0 n)) := by
  rcases Nat.eq_zero_or_pos n with h | h
  · subst h
    unfold M_in M_in_j14 M_in_j15
    rw [show iz x 0 0 = false by
      unfold iz
      by_cases h2 : (0 : Int) ≤ x.toInt
      · rw [decide_eq_false (show ¬ (x.toInt < ((0 : Nat) : Int) + ((0 : Nat) : Int)) by omega), Bool.and_false]
      · rw [decide_eq_false (show ¬ (((0 : Nat) : Int) ≤ x.toInt) by omega), Bool.false_and]]
    by_cases h1 : x < nI 0
    · rw [if_pos h1]; rfl
    · rw [if_neg h1, if_pos]
      · rfl
      · rw [i_lt] at h1 ⊢
        have e0 : (nI 0).toInt = 0 := rfl
        have e1 : (nI 0 - nI 1).toInt = -1 := by decide +kernel
        rw [e0] at h1
        rw [e1]
        omega
  · rw [pk_sub h, q_in x (by omega) (by omega)]
    congr 3
    omega
theorem q_has (x : Int32) {k : Nat} (hk : k < 32) : M_has x (nI k) = some (bI (bt x k)) := by
  unfold M_has M_has_j14
  have h := sr_1 x hk
  rw [show (1 : Int32) = nI 1 from rfl, h]
  cases bt x k
  · rw [if_neg (show ¬ bI false = nI 1 by decide +kernel)]; rfl
  · rw [if_pos (show bI true = nI 1 from rfl)]; rfl
theorem q_gr {a b : Nat} (ha : a < 2 ^ 31) (hb : b < 2 ^ 31) : M_greater (nI a) (nI b) = some (nI (max a b)) := by
  unfold M_greater M_greater_j10
  by_cases h : a ≤ b
  · rw [if_pos ((nI_leI ha hb).mpr h), Nat.max_eq_right h]
  · rw [if_neg (fun e => h ((nI_leI ha hb).mp e)), Nat.max_eq_left (by omega)]
theorem q_gs {a b : Nat} (ha : a < 2 ^ 30) (hb : b < 2 ^ 30) : M_greater (nI 0) (nI a - nI b) = some (nI (a - b)) := by
  unfold M_greater M_greater_j10
  have e := pk_sub_toInt ha hb
  have e0 : (nI 0).toInt = 0 := rfl
  by_cases h : b ≤ a
  · rw [if_pos (by rw [i_le, e, e0]; omega), pk_sub h]
  · rw [if_neg (by rw [i_le, e, e0]; omega), show a - b = 0 by omega]
theorem q_mx {a b : Nat} (ha : a < 2 ^ 30) (hb : b < 2 ^ 30) : mx (nI 0) (nI a - nI b) = nI (a - b) := by
  unfold mx
  have e := pk_sub_toInt ha hb
  have e0 : (nI 0).toInt = 0 := rfl
  by_cases h : b < a
  · rw [if_pos (by rw [i_lt, e, e0]; omega), pk_sub (by omega)]
  · rw [if_neg (by rw [i_lt, e, e0]; omega), show a - b = 0 by omega]
theorem q_ones (x : Int32) : M_ones x = some (nI (pc x)) := by
  apply ok_to
  unfold M_ones M_ones_l4
  refine lp_for _ 10 (fun k s => s = (nI (cT (bt x) k), nI k)) _ ?_ ?_ 0 _ (by omega) rfl
  · rintro k s hk rfl
    have h1 := cT_le (bt x) k
    unfold M_ones_b4
    simp (disch := omega) only [KK, NN, q_has x, sb, bI_ite]
    rw [if_neg (by omega)]
    unfold M_ones_j24
    by_cases hb : bt x k = true
    · rw [if_pos hb]
      refine ok_mk ?_
      show _ = _
      rw [cT_s, if_pos hb]
      simp only [KK, NN, bnd_eq]
    · rw [if_neg hb]
      refine ok_mk ?_
      show _ = _
      rw [cT_s, if_neg hb]
      simp only [KK, NN, bnd_eq]
  · rintro s rfl
    unfold M_ones_b4 M_ones_j32
    simp (disch := omega) only [KK, NN]
    rw [if_pos (by omega)]
    exact ⟨_, rfl, rfl⟩
theorem q_isOf (x : Int32) {a n : Nat} (ha : a < 2 ^ 30) (hn : n < 2 ^ 30) : K_isOf x (nI a) (nI n) = some (bI (iz x a n)) := by
  unfold K_isOf K_isOf_j16 K_isOf_j17
  have hx := x.toInt_lt
  simp only [i_lt, nI_toInt (show a < 2 ^ 31 by omega)]
  by_cases h1 : x.toInt < a
  · rw [if_pos h1, show iz x a n = false by unfold iz; rw [decide_eq_false (by omega), Bool.false_and]]
    rfl
  · rw [if_neg h1]
    have e : (x - nI a).toInt = x.toInt - a := by
      rw [Int32.toInt_sub, nI_toInt (by omega)]
      exact Int.bmod_eq_of_le (by omega) (by omega)
    simp only [i_le, e, nI_toInt (show n < 2 ^ 31 by omega)]
    by_cases h2 : (n : Int) ≤ x.toInt - a
    · rw [if_pos h2, show iz x a n = false by unfold iz; rw [decide_eq_false (show ¬ (x.toInt < (a : Int) + (n : Int)) by omega), Bool.and_false]]
      rfl
    · rw [if_neg h2, (iz_iff x a n).mpr ⟨by omega, by omega⟩]
      rfl
/-- whether a bit is in a set, for any place -/
def ib (x y : Int32) : Bool := iz y 0 31 && bt x y.toNatClampNeg
theorem ib_nI (x : Int32) {k : Nat} (hk : k < 31) : ib x (nI k) = bt x k := by
  unfold ib
  rw [iz_nI 0 31 (by omega), decide_eq_true (by omega), Bool.true_and, nI_clamp (by omega)]
theorem q_isIn' (x y : Int32) : K_isIn x y = some (bI (ib x y)) := by
  unfold K_isIn K_isIn_j22 K_isIn_j23 ib
  have e0 : (0 : Int32).toInt = 0 := rfl
  have e1 : (31 : Int32).toInt = 31 := rfl
  simp only [i_lt, i_le, e0, e1]
  by_cases h1 : y.toInt < 0
  · rw [if_pos h1, show iz y 0 31 = false by unfold iz; rw [decide_eq_false (by omega), Bool.false_and], Bool.false_and]
    rfl
  · rw [if_neg h1]
    by_cases h2 : (31 : Int) ≤ y.toInt
    · rw [if_pos h2, show iz y 0 31 = false by unfold iz; rw [decide_eq_false (show ¬ (y.toInt < ((0 : Nat) : Int) + ((31 : Nat) : Int)) by omega), Bool.and_false], Bool.false_and]
      rfl
    · have h3 : iz y 0 31 = true := (iz_iff y 0 31).mpr ⟨by omega, by omega⟩
      obtain ⟨k, hk, -, rfl⟩ := iz_0 h3
      rw [if_neg h2, h3, Bool.true_and, nI_clamp (by omega)]
      have h := sr_1 x (show k < 32 by omega)
      rw [show (1 : Int32) = nI 1 from rfl, h]
      cases bt x k
      · rw [if_pos (show bI false = 0 from rfl)]; rfl
      · rw [if_neg (show ¬ bI true = 0 by decide +kernel)]; rfl
theorem q_isIn (x : Int32) {k : Nat} (hk : k < 31) : K_isIn x (nI k) = some (bI (bt x k)) := by
  rw [q_isIn', ib_nI x hk]
theorem q_bits {x : Int32} (h : lo 10 x) : J_bitCount x = some (nI (pc x)) := by
  obtain ⟨n, hn, rfl⟩ := lo_ex h
  exact (by decide +kernel : ∀ n, n < 1024 → J_bitCount (nI n) = some (nI (pc (nI n)))) n hn
def fil (h : Hp) (a : Nat) (v : Int32) : Hp := (fun k i => if k = a ∧ i < ln a then v else h.1 k i, h.2)
theorem fil_at {h : Hp} {a : Nat} {v : Int32} {i : Nat} (hi : i < ln a) : (fil h a v).1 a i = v := if_pos ⟨rfl, hi⟩
theorem fil_c {h : Hp} {a k : Nat} {v : Int32} (i : Nat) (hk : k ≠ a) : (fil h a v).1 k i = h.1 k i := if_neg (fun e => hk e.1)
theorem fil_2 {h : Hp} {a : Nat} {v : Int32} : (fil h a v).2 = h.2 := rfl
theorem q_fill (h : Hp) {a : Nat} (v : Int32) (hk : kd a = 20) (hl : ln a < 2 ^ 31) : J_fill h a v = some (fil h a v) := by
  apply ok_to
  unfold J_fill
  rw [hk, if_pos (by omega), bnd_eq]
  unfold J_fill_l5
  refine lp_for _ (ln a) (fun k s => s = (nI k, ((fun c i => if c = a ∧ i < k then v else h.1 c i, h.2) : Hp))) _ ?_ ?_ 0 _ (by omega) ?_
  · rintro k s hk1 rfl
    unfold J_fill_b5
    rw [show Int32.ofNat (ln a) = nI (ln a) from rfl, hk]
    simp (disch := omega) only [KK, NN, bnd_eq]
    rw [if_neg (by omega), if_pos ⟨trivial, hk1⟩]
    refine ok_mk ?_
    show _ = _
    refine Prod.ext rfl ?_
    refine Prod.ext ?_ rfl
    funext c i
    show (if c = a ∧ i = k then v else if c = a ∧ i < k then v else h.1 c i) = if c = a ∧ i < k + 1 then v else h.1 c i
    by_cases h1 : c = a ∧ i = k
    · rw [if_pos h1, if_pos ⟨h1.1, by omega⟩]
    · rw [if_neg h1]
      by_cases h2 : c = a ∧ i < k
      · rw [if_pos h2, if_pos ⟨h2.1, by omega⟩]
      · rw [if_neg h2, if_neg]
        rintro ⟨h3, h4⟩
        by_cases h5 : i = k
        · exact h1 ⟨h3, h5⟩
        · exact h2 ⟨h3, by omega⟩
  · rintro s rfl
    unfold J_fill_b5 J_fill_j20
    rw [show Int32.ofNat (ln a) = nI (ln a) from rfl]
    simp (disch := omega) only [NN]
    rw [if_pos (by omega)]
    exact ⟨_, rfl, rfl⟩
  · refine Prod.ext rfl ?_
    refine Prod.ext ?_ rfl
    funext c i
    show h.1 c i = if c = a ∧ i < 0 then v else h.1 c i
    rw [if_neg (fun e => Nat.not_lt_zero _ e.2)]
