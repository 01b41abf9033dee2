/-! ===== L3: the code's houses and tables ===== -/
theorem kd_hi {a : Nat} (h : 281 ≤ a) : kd a = 99 := by
  unfold kd
  have e : KD.length = 281 := by decide +kernel
  rw [List.getD_eq_getElem?_getD, List.getElem?_eq_none (by omega)]
  rfl
theorem hs_kd {a : Nat} (h : kd a = 1) : kd (a + 1) = 20 ∧ kd (a + 2) = 20 ∧ kd (a + 3) = 20 ∧ kd (a + 4) = 20 ∧ kd (a + 5) = 20 ∧ ln (a + 1) = 5 ∧ ln (a + 2) = 5 ∧ ln (a + 3) = 5 ∧ ln (a + 4) = 8 ∧ ln (a + 5) = 8 := by
  rcases Nat.lt_or_ge a 281 with h1 | h1
  · exact (by decide +kernel : ∀ a, a < 281 → kd a = 1 → kd (a + 1) = 20 ∧ kd (a + 2) = 20 ∧ kd (a + 3) = 20 ∧ kd (a + 4) = 20 ∧ kd (a + 5) = 20 ∧ ln (a + 1) = 5 ∧ ln (a + 2) = 5 ∧ ln (a + 3) = 5 ∧ ln (a + 4) = 8 ∧ ln (a + 5) = 8) a h1 h
  · rw [kd_hi h1] at h
    omega
theorem bn_kd {a : Nat} (h : kd a = 0) : kd (a + 1) = 20 ∧ kd (a + 2) = 20 ∧ kd (a + 3) = 20 ∧ ln (a + 1) = 12 ∧ ln (a + 2) = 12 ∧ ln (a + 3) = 12 := by
  rcases Nat.lt_or_ge a 281 with h1 | h1
  · exact (by decide +kernel : ∀ a, a < 281 → kd a = 0 → kd (a + 1) = 20 ∧ kd (a + 2) = 20 ∧ kd (a + 3) = 20 ∧ ln (a + 1) = 12 ∧ ln (a + 2) = 12 ∧ ln (a + 3) = 12) a h1 h
  · rw [kd_hi h1] at h
    omega
theorem rg {α : Type} (x : Int32) {n : Nat} (hn : n < 2 ^ 31) (A B : α) : (if x < nI 0 then A else if nI n ≤ x then A else B) = if iz x 0 n = true then B else A := by
  have e0 : (nI 0).toInt = 0 := rfl
  by_cases h : iz x 0 n = true
  · rw [if_pos h]
    rw [iz_iff] at h
    rw [if_neg (by rw [i_lt, e0]; omega), if_neg (by rw [i_le, nI_toInt hn]; omega)]
  · rw [if_neg h]
    rw [iz_iff] at h
    by_cases h1 : x < nI 0
    · rw [if_pos h1]
    · rw [if_neg h1]
      rw [i_lt, e0] at h1
      rw [if_pos (by rw [i_le, nI_toInt hn]; omega)]
theorem g01 : ((nI 0 = nI 0 ∨ nI 0 = nI 1) = True) ∧ ((nI 1 = nI 0 ∨ nI 1 = nI 1) = True) := ⟨eq_true (Or.inl rfl), eq_true (Or.inr rfl)⟩
theorem b_ti (b : Bool) : (if b = true then some (nI 1) else some (nI 0) : Option Int32) = some (bI b) := by cases b <;> rfl
theorem q_hasTable {h : Hp} {a : Nat} {n : Inn} (H : CH h a n) (hw : wI n) (x : Int32) : H_hasTable h a x = some (bI (iz x 0 (nT n))) := by
  obtain ⟨hk, h5, h6, -, -⟩ := H
  have hn := hw.1
  unfold H_hasTable H_hasTable_j16 H_hasTable_j17
  rw [if_pos hk, h5]
  simp (disch := omega) only [KK, K1, K2, NN, bnd_eq, sb, smr, bI_ite, if_pos, if_neg, if_true, if_false, or_true, true_or, true_and, and_true, g01, rg x, g01, if_true, b_ti]
theorem q_hasGuest {h : Hp} {a : Nat} {n : Inn} (H : CH h a n) (hw : wI n) (x : Int32) : H_hasGuest h a x = some (bI (iz x 0 (nG n))) := by
  obtain ⟨hk, h5, h6, -, -⟩ := H
  have hn := hw.2.2.1
  unfold H_hasGuest H_hasGuest_j16 H_hasGuest_j17
  rw [if_pos hk, h6]
  simp (disch := omega) only [KK, K1, K2, NN, bnd_eq, sb, smr, bI_ite, if_pos, if_neg, if_true, if_false, or_true, true_or, true_and, and_true, g01, rg x, g01, if_true, b_ti]
theorem q_seatsOf {h : Hp} {a : Nat} {n : Inn} (H : CH h a n) (hw : wI n) {t : Nat} (ht : t < nT n) : H_seatsOf h a (nI t) = some (nI (nS n t)) := by
  have e := q_hasTable H hw (nI t)
  obtain ⟨hk, h5, h6, hT, hG⟩ := H
  have hn := hw.1
  obtain ⟨k1, k2, k3, k4, k5, l1, l2, l3, l4, l5⟩ := hs_kd hk
  rw [iz_nI 0 (nT n) (by omega), decide_eq_true (by omega)] at e
  unfold H_seatsOf H_seatsOf_j18
  simp (disch := omega) only [KK, K1, K2, NN, bnd_eq, sb, smr, bI_ite, if_pos, if_neg, if_true, if_false, or_true, true_or, true_and, and_true, g01, e, sb, bI_ite, if_pos, (hT t ht).1]
theorem q_keepsOf {h : Hp} {a : Nat} {n : Inn} (H : CH h a n) (hw : wI n) {t : Nat} (ht : t < 5) : H_keepsOf h a (nI t) = some (nI (kp n t)) := by
  have e := q_hasTable H hw (nI t)
  obtain ⟨hk, h5, h6, hT, hG⟩ := H
  have hn := hw.1
  obtain ⟨k1, k2, k3, k4, k5, l1, l2, l3, l4, l5⟩ := hs_kd hk
  rw [iz_nI 0 (nT n) (by omega)] at e
  unfold H_keepsOf H_keepsOf_j18 kp
  rcases Nat.lt_or_ge t (nT n) with h1 | h1
  · rw [decide_eq_true (by omega)] at e
    simp (disch := omega) only [KK, K1, K2, NN, bnd_eq, sb, smr, bI_ite, if_pos, if_neg, if_true, if_false, or_true, true_or, true_and, and_true, g01, e, sb, bI_ite, if_pos, (hT t h1).2.1]
  · rw [decide_eq_false (by omega)] at e
    simp (disch := omega) only [KK, K1, K2, NN, bnd_eq, sb, smr, bI_ite, if_pos, if_neg, if_true, if_false, or_true, true_or, true_and, and_true, g01, e, sb, bI_ite, if_pos, if_neg, Bool.false_eq_true, if_false]
theorem q_priceOf {h : Hp} {a : Nat} {n : Inn} (H : CH h a n) (hw : wI n) {t : Nat} (ht : t < nT n) : H_priceOf h a (nI t) = some (nP n t) := by
  have e := q_hasTable H hw (nI t)
  obtain ⟨hk, h5, h6, hT, hG⟩ := H
  have hn := hw.1
  obtain ⟨k1, k2, k3, k4, k5, l1, l2, l3, l4, l5⟩ := hs_kd hk
  rw [iz_nI 0 (nT n) (by omega), decide_eq_true (by omega)] at e
  unfold H_priceOf H_priceOf_j18
  simp (disch := omega) only [KK, K1, K2, NN, bnd_eq, sb, smr, bI_ite, if_pos, if_neg, if_true, if_false, or_true, true_or, true_and, and_true, g01, e, sb, bI_ite, if_pos, (hT t ht).2.2]
theorem q_quarrelsOf {h : Hp} {a : Nat} {n : Inn} (H : CH h a n) (hw : wI n) {g : Nat} (hg : g < nG n) : H_quarrelsOf h a (nI g) = some (nQ n g) := by
  have e := q_hasGuest H hw (nI g)
  obtain ⟨hk, h5, h6, hT, hG⟩ := H
  have hn := hw.2.2.1
  obtain ⟨k1, k2, k3, k4, k5, l1, l2, l3, l4, l5⟩ := hs_kd hk
  rw [iz_nI 0 (nG n) (by omega), decide_eq_true (by omega)] at e
  unfold H_quarrelsOf H_quarrelsOf_j18
  simp (disch := omega) only [KK, K1, K2, NN, bnd_eq, sb, smr, bI_ite, if_pos, if_neg, if_true, if_false, or_true, true_or, true_and, and_true, g01, e, sb, bI_ite, if_pos, (hG g (by omega)).1]
theorem q_lovesOf {h : Hp} {a : Nat} {n : Inn} (H : CH h a n) (hw : wI n) {g : Nat} (hg : g < nG n) : H_lovesOf h a (nI g) = some (nL n g) := by
  have e := q_hasGuest H hw (nI g)
  obtain ⟨hk, h5, h6, hT, hG⟩ := H
  have hn := hw.2.2.1
  obtain ⟨k1, k2, k3, k4, k5, l1, l2, l3, l4, l5⟩ := hs_kd hk
  rw [iz_nI 0 (nG n) (by omega), decide_eq_true (by omega)] at e
  unfold H_lovesOf H_lovesOf_j18
  simp (disch := omega) only [KK, K1, K2, NN, bnd_eq, sb, smr, bI_ite, if_pos, if_neg, if_true, if_false, or_true, true_or, true_and, and_true, g01, e, sb, bI_ite, if_pos, (hG g (by omega)).2]
theorem pc_le (x : Int32) : pc x ≤ 10 := cT_le _ 10
theorem cp_le (f : Nat → Int32) (x y : Int32) : ∀ k, cp f x y k ≤ 10 * k
  | 0 => Nat.le_refl _
  | k + 1 => by
    have h1 := cp_le f x y k
    have h2 := pc_le (f k &&& y)
    show cp f x y k + (if bt x k = true then pc (f k &&& y) else 0) ≤ _
    split <;> omega
theorem q_couplesOf {h : Hp} {a : Nat} (hk : kd a = 20) (hl : ln a = 8) {f : Nat → Int32} (hf : ∀ g, g < 8 → h.1 a g = f g) (hlo : ∀ g, g < 8 → lo 10 (f g)) (x y : Int32) : H_couplesOf h a x y = some (nI (cp f x y 8)) := by
  apply ok_to
  unfold H_couplesOf H_couplesOf_l5
  refine lp_for _ 8 (fun k s => s = (nI (cp f x y k), nI k)) _ ?_ ?_ 0 _ (by omega) rfl
  · rintro k s hk1 rfl
    have hc := cp_le f x y k
    unfold H_couplesOf_b5 H_couplesOf_j33
    rw [show Int32.ofNat (ln a) = nI (ln a) from rfl]
    have e1 := sr_1 x (show k < 32 by omega)
    have e2 := q_bits (lo_al y (hlo k hk1))
    simp (disch := omega) only [KK, K1, K2, NN, bnd_eq, sb, smr, bI_ite, if_pos, if_neg, if_true, if_false, or_true, true_or, true_and, and_true, g01, bnd_eq, sb, if_pos, if_neg, e1, bI_ite, hf k hk1, e2]
    show Okk _ (Sum.elim (fun s => s = (nI (cp f x y k + (if bt x k = true then pc (f k &&& y) else 0)), nI (k + 1))) _)
    by_cases hb : bt x k = true
    · rw [if_pos hb, if_pos hb]
      exact ok_mk rfl
    · rw [if_neg hb, if_neg hb]
      exact ok_mk rfl
  · rintro s rfl
    unfold H_couplesOf_b5 H_couplesOf_j39
    rw [show Int32.ofNat (ln a) = nI (ln a) from rfl]
    simp (disch := omega) only [KK, K1, K2, NN, bnd_eq, sb, smr, bI_ite, if_pos, if_neg, if_true, if_false, or_true, true_or, true_and, and_true, g01, if_pos, smr]
    exact ⟨_, rfl, rfl⟩
theorem wI_lo {n : Inn} (hw : wI n) {g : Nat} (hg : g < 8) : lo 10 (nQ n g) ∧ lo 10 (nL n g) := ⟨lo_mo (hw.2.2.2.2 g hg).1 (by have := hw.2.2.1; omega), lo_mo (hw.2.2.2.2 g hg).2.1 (by have := hw.2.2.1; omega)⟩
theorem q_strifeOf {h : Hp} {a : Nat} {n : Inn} (H : CH h a n) (hw : wI n) (x y : Int32) : H_strifeOf h a x y = some (nI (cp (nQ n) x y 8)) := by
  obtain ⟨hk, h5, h6, hT, hG⟩ := H
  obtain ⟨k1, k2, k3, k4, k5, l1, l2, l3, l4, l5⟩ := hs_kd hk
  unfold H_strifeOf
  rw [if_pos hk, q_couplesOf k4 l4 (fun g hg => (hG g hg).1) (fun g hg => (wI_lo hw hg).1)]
  rfl
theorem q_joyOf {h : Hp} {a : Nat} {n : Inn} (H : CH h a n) (hw : wI n) (x y : Int32) : H_joyOf h a x y = some (nI (cp (nL n) x y 8)) := by
  obtain ⟨hk, h5, h6, hT, hG⟩ := H
  obtain ⟨k1, k2, k3, k4, k5, l1, l2, l3, l4, l5⟩ := hs_kd hk
  unfold H_joyOf
  rw [if_pos hk, q_couplesOf k5 l5 (fun g hg => (hG g hg).2) (fun g hg => (wI_lo hw hg).2)]
  rfl
/-- whether no two of a set quarrel -/
def pk (n : Inn) (x : Int32) : Bool := decide (cp (nQ n) x x 8 = 0)
theorem q_isPeaceful {h : Hp} {a : Nat} {n : Inn} (H : CH h a n) (hw : wI n) (x : Int32) : H_isPeaceful h a x = some (bI (pk n x)) := by
  have hc := cp_le (nQ n) x x 8
  have e := q_strifeOf H hw x x
  obtain ⟨hk, h5, h6, hT, hG⟩ := H
  unfold H_isPeaceful H_isPeaceful_j14 pk
  simp (disch := omega) only [KK, K1, K2, NN, bnd_eq, sb, smr, bI_ite, if_pos, if_neg, if_true, if_false, or_true, true_or, true_and, and_true, g01, sb, if_pos hk, e, g01, if_true]
  by_cases h0 : cp (nQ n) x x 8 = 0
  · rw [if_pos h0, decide_eq_true h0]; rfl
  · rw [if_neg h0, decide_eq_false h0]; rfl
theorem q_hasCouple {h : Hp} {a : Nat} {n : Inn} (H : CH h a n) (hw : wI n) (x y : Int32) : H_hasCouple h a x y = some (bI (iz x 0 (nG n) && iz y 0 (nG n) && decide (x ≠ y))) := by
  have e1 := q_hasGuest H hw x
  have e2 := q_hasGuest H hw y
  obtain ⟨hk, h5, h6, hT, hG⟩ := H
  unfold H_hasCouple H_hasCouple_j25 H_hasCouple_j26
  simp only [KK, sb, if_pos hk, e1, e2, bI_ite, g01, if_true]
  cases iz x 0 (nG n) <;> cases iz y 0 (nG n)
  · rfl
  · rfl
  · rfl
  · by_cases hx : x = y
    · rw [if_pos rfl, if_pos rfl, if_pos hx, decide_eq_false (fun e => e hx)]; rfl
    · rw [if_pos rfl, if_pos rfl, if_neg hx, decide_eq_true hx]; rfl
