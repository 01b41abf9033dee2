/-! ===== L3: seatings: what they are ===== -/
theorem spd_pre {T g m r q i : Nat} (hq : r / T ^ m = q) (hi : i < g) : spd T (g + m) r i = spd T g q i := by
  unfold spd
  rw [show g + m - 1 - i = m + (g - 1 - i) by omega, Nat.pow_add, ← Nat.div_div_eq_div_mul, hq]
theorem spd_last {T g q t : Nat} (ht : t < T) : spd T (g + 1) (q * T + t) g = t := by
  unfold spd
  rw [show g + 1 - 1 - g = 0 by omega, Nat.pow_zero, Nat.div_one, Nat.mul_comm, Nat.mul_add_mod, Nat.mod_eq_of_lt ht]
theorem spd_init {T g q t i : Nat} (ht : t < T) (hi : i < g) : spd T (g + 1) (q * T + t) i = spd T g q i := by
  refine spd_pre (m := 1) ?_ hi
  rw [Nat.pow_one, Nat.mul_comm, Nat.mul_add_div (by omega), Nat.div_eq_of_lt ht, Nat.add_zero]
theorem dS_s (p : Nat → Nat) (t k : Nat) : dS p t (k + 1) = if p k = t then dS p t k ||| sh (nI 1) (nI k) else dS p t k := rfl
theorem dS_cg {p q : Nat → Nat} (t : Nat) : ∀ k, (∀ i, i < k → p i = q i) → dS p t k = dS q t k
  | 0, _ => rfl
  | k + 1, h => by rw [dS_s, dS_s, h k (by omega), dS_cg t k (fun i hi => h i (by omega))]
theorem dS_lo (p : Nat → Nat) (t : Nat) {k : Nat} (hk : k ≤ 31) : lo k (dS p t k) := fun i hi => by
  rw [dS_b p t k hk i, decide_eq_false (by omega)]
theorem dS_pc (p : Nat → Nat) (t : Nat) {k : Nat} (hk : k < 8) : pc (dS p t (k + 1)) = pc (dS p t k) + (if p k = t then 1 else 0) := by
  rw [dS_s]
  by_cases c : p k = t
  · rw [if_pos c, if_pos c]
    unfold pc
    rw [cT_bit (by rw [dS_b p t k (by omega), decide_eq_false (by omega)]) (by omega) 10 (by omega), if_pos (by omega)]
  · rw [if_neg c, if_neg c]
    rfl
/-! wishes: their numbers -/
def wk (f : Nat → Pst) (j : Nat) : Nat := (f j).1.toNatClampNeg
def wg (f : Nat → Pst) (j : Nat) : Nat := (f j).2.1.toNatClampNeg
def wx (f : Nat → Pst) (j : Nat) : Nat := (f j).2.2.toNatClampNeg
theorem wW_n {f : Nat → Pst} {j : Nat} (h : wW (f j)) : (f j).1 = nI (wk f j) ∧ (f j).2.1 = nI (wg f j) ∧ (f j).2.2 = nI (wx f j) ∧ wk f j < 4 ∧ wg f j < 8 ∧ (if wk f j < 2 then wx f j < 10 else wx f j < 8 ∧ wg f j ≠ wx f j) ∧ wx f j < 10 := by
  obtain ⟨k, g, x, h1, h2, h3, h4, h5, h6⟩ := h
  have hx : x < 10 := by
    by_cases c : k < 2
    · rw [if_pos c] at h6; exact h6
    · rw [if_neg c] at h6; omega
  have e1 : wk f j = k := by unfold wk; rw [h3, nI_clamp (by omega)]
  have e2 : wg f j = g := by unfold wg; rw [h4, nI_clamp (by omega)]
  have e3 : wx f j = x := by unfold wx; rw [h5, nI_clamp (by omega)]
  rw [e1, e2, e3]
  exact ⟨h3, h4, h5, h1, h2, h6, hx⟩
/-- the tables where a word comes round, or doesn't -/
def tw (n : Inn) (s : St) (x : Nat) (b : Bool) : Int32 := oT (fun t => if t < nT n ∧ bt (bV (sB s t)) x = b then sh (nI 1) (nI t) else nI 0) 5
theorem tw_b {n : Inn} (s : St) (x : Nat) (b : Bool) (hT : nT n ≤ 5) {t : Nat} (ht : t < 32) : bt (tw n s x b) t = true ↔ t < nT n ∧ bt (bV (sB s t)) x = b := by
  unfold tw
  rw [b_oT]
  constructor
  · rintro ⟨j, hj, h1⟩
    by_cases c : j < nT n ∧ bt (bV (sB s j)) x = b
    · rw [if_pos c, b_sh (by omega) t ht, decide_eq_true_eq] at h1
      subst h1
      exact c
    · rw [if_neg c] at h1
      exact absurd ((b_0 t).symm.trans h1) (by decide)
  · intro c
    refine ⟨t, by omega, ?_⟩
    rw [if_pos c, b_sh (by omega) t ht]
    exact decide_eq_true rfl
def al (n : Inn) (s : St) (f : Nat → Pst) (g : Nat) : Nat → Int32
  | 0 => nI 31
  | j + 1 => if wk f j < 2 ∧ wg f j = g then al n s f g j &&& tw n s (wx f j) (decide (wk f j = 0)) else al n s f g j
def ap (f : Nat → Pst) (K g : Nat) : Nat → Int32
  | 0 => nI 0
  | j + 1 => if wk f j = K then (if wg f j = g then ap f K g j ||| sh (nI 1) (nI (wx f j)) else if wx f j = g then ap f K g j ||| sh (nI 1) (nI (wg f j)) else ap f K g j) else ap f K g j
theorem al_s (n : Inn) (s : St) (f : Nat → Pst) (g j : Nat) : al n s f g (j + 1) = if wk f j < 2 ∧ wg f j = g then al n s f g j &&& tw n s (wx f j) (decide (wk f j = 0)) else al n s f g j := rfl
theorem ap_s (f : Nat → Pst) (K g j : Nat) : ap f K g (j + 1) = if wk f j = K then (if wg f j = g then ap f K g j ||| sh (nI 1) (nI (wx f j)) else if wx f j = g then ap f K g j ||| sh (nI 1) (nI (wg f j)) else ap f K g j) else ap f K g j := rfl
theorem al_b (n : Inn) (s : St) (f : Nat → Pst) (g : Nat) {t : Nat} (ht : t < 5) : ∀ m, bt (al n s f g m) t = true ↔ ∀ j, j < m → wk f j < 2 → wg f j = g → bt (tw n s (wx f j) (decide (wk f j = 0))) t = true
  | 0 => ⟨fun _ j hj => absurd hj (by omega), fun _ => (by decide +kernel : ∀ t, t < 5 → bt (nI 31) t = true) t ht⟩
  | m + 1 => by
    have ih := al_b n s f g ht m
    rw [al_s]
    by_cases c : wk f m < 2 ∧ wg f m = g
    · rw [if_pos c, b_and, Bool.and_eq_true, ih]
      constructor
      · rintro ⟨h1, h2⟩ j hj k1 k2
        rcases Nat.lt_or_ge j m with h3 | h3
        · exact h1 j h3 k1 k2
        · obtain rfl : j = m := by omega
          exact h2
      · intro h1
        exact ⟨fun j hj => h1 j (by omega), h1 m (by omega) c.1 c.2⟩
    · rw [if_neg c, ih]
      constructor
      · intro h1 j hj k1 k2
        rcases Nat.lt_or_ge j m with h3 | h3
        · exact h1 j h3 k1 k2
        · obtain rfl : j = m := by omega
          exact absurd ⟨k1, k2⟩ c
      · exact fun h1 j hj => h1 j (by omega)
theorem ap_b (f : Nat → Pst) {K : Nat} (hK : 2 ≤ K) (g : Nat) {i : Nat} (hi : i < 32) : ∀ m, (∀ j, j < m → wW (f j)) → (bt (ap f K g m) i = true ↔ ∃ j, j < m ∧ wk f j = K ∧ ((wg f j = g ∧ wx f j = i) ∨ (wx f j = g ∧ wg f j = i)))
  | 0, _ => by
    constructor
    · intro h
      exact absurd ((b_0 i).symm.trans h) (by decide)
    · rintro ⟨j, hj, -⟩
      omega
  | m + 1, hw => by
    have ih := ap_b f hK g hi m (fun j hj => hw j (by omega))
    obtain ⟨-, -, -, -, w5, w6, w7⟩ := wW_n (hw m (by omega))
    have back : (∃ j, j < m ∧ wk f j = K ∧ ((wg f j = g ∧ wx f j = i) ∨ (wx f j = g ∧ wg f j = i))) → ∃ j, j < m + 1 ∧ wk f j = K ∧ ((wg f j = g ∧ wx f j = i) ∨ (wx f j = g ∧ wg f j = i)) := fun ⟨j, hj, r⟩ => ⟨j, by omega, r⟩
    have forw : (∃ j, j < m + 1 ∧ wk f j = K ∧ ((wg f j = g ∧ wx f j = i) ∨ (wx f j = g ∧ wg f j = i))) → (∃ j, j < m ∧ wk f j = K ∧ ((wg f j = g ∧ wx f j = i) ∨ (wx f j = g ∧ wg f j = i))) ∨ (wk f m = K ∧ ((wg f m = g ∧ wx f m = i) ∨ (wx f m = g ∧ wg f m = i))) := by
      rintro ⟨j, hj, r⟩
      rcases Nat.lt_or_ge j m with h3 | h3
      · exact Or.inl ⟨j, h3, r⟩
      · obtain rfl : j = m := by omega
        exact Or.inr r
    rw [ap_s]
    by_cases c1 : wk f m = K
    case neg =>
      rw [if_neg c1, ih]
      refine ⟨back, fun h => ?_⟩
      rcases forw h with h | ⟨h, -⟩
      · exact h
      · exact absurd h c1
    rw [if_pos c1]
    rw [c1, if_neg (by omega)] at w6
    by_cases c2 : wg f m = g
    · rw [if_pos c2, b_or, Bool.or_eq_true, ih, b_sh (by omega) i hi, decide_eq_true_eq]
      constructor
      · rintro (h | h)
        · exact back h
        · exact ⟨m, by omega, c1, Or.inl ⟨c2, h.symm⟩⟩
      · intro h
        rcases forw h with h | ⟨-, (⟨-, h⟩ | ⟨h, -⟩)⟩
        · exact Or.inl h
        · exact Or.inr h.symm
        · omega
    rw [if_neg c2]
    by_cases c3 : wx f m = g
    · rw [if_pos c3, b_or, Bool.or_eq_true, ih, b_sh (by omega) i hi, decide_eq_true_eq]
      constructor
      · rintro (h | h)
        · exact back h
        · exact ⟨m, by omega, c1, Or.inr ⟨c3, h.symm⟩⟩
      · intro h
        rcases forw h with h | ⟨-, (⟨h, -⟩ | ⟨-, h⟩)⟩
        · exact Or.inl h
        · exact absurd h c2
        · exact Or.inr h.symm
    · rw [if_neg c3, ih]
      refine ⟨back, fun h => ?_⟩
      rcases forw h with h | ⟨-, (⟨h, -⟩ | ⟨h, -⟩)⟩
      · exact h
      · exact absurd h c2
      · exact absurd h c3
/-- whether one of the wishes is of guests who are here -/
def hrW (n : Inn) (f : Nat → Pst) (j : Nat) : Bool := decide (wg f j < nG n) && (decide (wk f j < 2) || decide (wx f j < nG n))
/-- whether guest g may sit where p says, those before him sitting -/
def stO (n : Inn) (s : St) (f : Nat → Pst) (m : Nat) (p : Nat → Nat) (g : Nat) : Bool := bt (al n s f g m) (p g) && (decide (pc (dS p (p g) g) < nS n (p g)) && (decide (ap f 2 g m &&& dS p (p g) g = nI 0) && decide ((ap f 3 g m &&& (sh (nI 1) (nI g) - nI 1)) &&& (dS p (p g) g ^^^ jN 1) = nI 0)))
def isF (n : Inn) (s : St) (f : Nat → Pst) (p : Nat → Nat) (j : Nat) : Bool := decide (wg f j < nG n) && (if wk f j < 2 then decide (bt (bV (sB s (p (wg f j)))) (wx f j) = decide (wk f j = 0)) else decide (wx f j < nG n) && decide (decide (p (wg f j) = p (wx f j)) = decide (wk f j = 3)))
theorem alB_t {p : Nat → Bool} : ∀ k, alB p k = true ↔ ∀ i, i < k → p i = true
  | 0 => ⟨fun _ i hi => absurd hi (by omega), fun _ => rfl⟩
  | k + 1 => by
    have ih := alB_t (p := p) k
    show (alB p k && p k) = true ↔ _
    rw [Bool.and_eq_true, ih]
    constructor
    · rintro ⟨h1, h2⟩ i hi
      rcases Nat.lt_or_ge i k with h3 | h3
      · exact h1 i h3
      · obtain rfl : i = k := by omega
        exact h2
    · exact fun h => ⟨fun i hi => h i (by omega), h k (by omega)⟩
theorem m1_b : ∀ g, g < 9 → ∀ i, i < 32 → bt (sh (nI 1) (nI g) - nI 1) i = decide (i < g) := by decide +kernel
theorem st_ap {p : Nat → Nat} {f : Nat → Pst} {m g : Nat} (hg : g < 8) : ap f 2 g m &&& dS p (p g) g = nI 0 ↔ ∀ i, i < g → bt (ap f 2 g m) i = true → p i ≠ p g := by
  constructor
  · intro e i hi hb c
    have h1 : bt (ap f 2 g m &&& dS p (p g) g) i = false := by rw [e]; exact b_0 i
    rw [b_and, hb, dS_b p _ g (by omega), decide_eq_true ⟨hi, c⟩] at h1
    exact absurd h1 (by decide)
  · intro e
    refine b_ext (fun i hi => ?_)
    rw [b_and, show bt (nI 0) i = false from b_0 i, dS_b p _ g (by omega)]
    cases hb : bt (ap f 2 g m) i
    · rfl
    · rw [decide_eq_false (fun c => e i c.1 hb c.2)]; rfl
theorem st_be {p : Nat → Nat} {f : Nat → Pst} {m g : Nat} (hg : g < 8) : (ap f 3 g m &&& (sh (nI 1) (nI g) - nI 1)) &&& (dS p (p g) g ^^^ jN 1) = nI 0 ↔ ∀ i, i < g → bt (ap f 3 g m) i = true → p i = p g := by
  rw [s_b]
  constructor
  · intro e i hi hb
    have h1 := e i (by omega) (by rw [b_and, hb, m1_b g (by omega) i (by omega), decide_eq_true hi]; rfl)
    rw [dS_b p _ g (by omega), decide_eq_true_eq] at h1
    exact h1.2
  · intro e i hi hb
    rw [b_and, m1_b g (by omega) i hi, Bool.and_eq_true, decide_eq_true_eq] at hb
    rw [dS_b p _ g (by omega), decide_eq_true_eq]
    exact ⟨hb.2, e i hb.2 hb.1⟩
theorem seat_cnt {S : Nat → Nat} {p : Nat → Nat} {T : Nat} : ∀ k, k ≤ 8 → (∀ i, i < k → p i < T) → ((∀ g, g < k → pc (dS p (p g) g) < S (p g)) ↔ ∀ t, t < T → pc (dS p t k) ≤ S t)
  | 0, _, _ => ⟨fun _ t _ => by rw [show pc (dS p t 0) = 0 from cT_f _ 10 (fun i _ => b_0 i)]; omega, fun _ g hg => absurd hg (by omega)⟩
  | k + 1, hk, hp => by
    have ih := seat_cnt (S := S) (p := p) (T := T) k (by omega) (fun i hi => hp i (by omega))
    constructor
    · intro h t ht
      have h1 := ih.mp (fun g hg => h g (by omega)) t ht
      have h2 := h k (by omega)
      rw [dS_pc p t (by omega)]
      by_cases c : p k = t
      · rw [if_pos c]
        rw [c] at h2
        omega
      · rw [if_neg c]; omega
    · intro h g hg
      have h1 := ih.mpr (fun t ht => by
        have := h t ht
        rw [dS_pc p t (by omega)] at this
        omega)
      rcases Nat.lt_or_ge g k with h3 | h3
      · exact h1 g h3
      · obtain rfl : g = k := by omega
        have := h (p g) (hp g (by omega))
        rw [dS_pc p _ (by omega), if_pos rfl] at this
        omega
/-- the row can be, told guest by guest and told at once -/
theorem seat_ok {n : Inn} {s : St} {f : Nat → Pst} {m : Nat} {p : Nat → Nat} (hw : wI n) (hG : nG n ≤ 6) (D : ∀ j, j < m → wW (f j)) (hp : ∀ g, g < nG n → p g < nT n) : (alB (hrW n f) m && alB (stO n s f m p) (nG n)) = (alB (fun t => decide (pc (dS p t (nG n)) ≤ nS n t)) (nT n) && alB (isF n s f p) m) := by
  have hT := hw.1
  refine Bool.eq_iff_iff.mpr ?_
  rw [Bool.and_eq_true, Bool.and_eq_true, alB_t, alB_t, alB_t, alB_t]
  have hc := seat_cnt (S := nS n) (p := p) (T := nT n) (nG n) (by omega) hp
  constructor
  · rintro ⟨h1, h2⟩
    have h2' : ∀ g, g < nG n → bt (al n s f g m) (p g) = true ∧ pc (dS p (p g) g) < nS n (p g) ∧ (∀ i, i < g → bt (ap f 2 g m) i = true → p i ≠ p g) ∧ (∀ i, i < g → bt (ap f 3 g m) i = true → p i = p g) := fun g hg => by
      have := h2 g hg
      unfold stO at this
      rw [Bool.and_eq_true, Bool.and_eq_true, Bool.and_eq_true, decide_eq_true_eq, decide_eq_true_eq, decide_eq_true_eq, st_ap (by omega), st_be (by omega)] at this
      exact this
    refine ⟨fun t ht => decide_eq_true (hc.mp (fun g hg => (h2' g hg).2.1) t ht), fun j hj => ?_⟩
    have h3 := h1 j hj
    obtain ⟨-, -, -, w4, w5, w6, w7⟩ := wW_n (D j hj)
    unfold hrW at h3
    rw [Bool.and_eq_true, decide_eq_true_eq, Bool.or_eq_true, decide_eq_true_eq, decide_eq_true_eq] at h3
    unfold isF
    rw [decide_eq_true h3.1, Bool.true_and]
    by_cases c : wk f j < 2
    · rw [if_pos c]
      have h4 := (al_b n s f (wg f j) (t := p (wg f j)) (by have := hp _ h3.1; omega) m).mp (h2' _ h3.1).1 j hj c rfl
      rw [tw_b s _ _ hT (by have := hp _ h3.1; omega)] at h4
      exact decide_eq_true h4.2
    · rw [if_neg c]
      rw [if_neg c] at w6
      have h5 : wx f j < nG n := by
        rcases h3.2 with h | h
        · exact absurd h c
        · exact h
      rw [decide_eq_true h5, Bool.true_and]
      refine decide_eq_true ?_
      rcases Nat.lt_or_ge (wg f j) (wx f j) with h6 | h6
      · obtain ⟨-, -, a3, a4⟩ := h2' (wx f j) h5
        by_cases c3 : wk f j = 3
        · rw [decide_eq_true c3]
          exact decide_eq_true (a4 (wg f j) h6 ((ap_b f (by omega) _ (by omega) m D).mpr ⟨j, hj, c3, Or.inr ⟨rfl, rfl⟩⟩))
        · rw [decide_eq_false c3]
          exact decide_eq_false (a3 (wg f j) h6 ((ap_b f (by omega) _ (by omega) m D).mpr ⟨j, hj, by omega, Or.inr ⟨rfl, rfl⟩⟩))
      · obtain ⟨-, -, a3, a4⟩ := h2' (wg f j) h3.1
        by_cases c3 : wk f j = 3
        · rw [decide_eq_true c3]
          exact decide_eq_true (a4 (wx f j) (by omega) ((ap_b f (by omega) _ (by omega) m D).mpr ⟨j, hj, c3, Or.inl ⟨rfl, rfl⟩⟩)).symm
        · rw [decide_eq_false c3]
          exact decide_eq_false (fun e => a3 (wx f j) (by omega) ((ap_b f (by omega) _ (by omega) m D).mpr ⟨j, hj, by omega, Or.inl ⟨rfl, rfl⟩⟩) e.symm)
  · rintro ⟨h1, h2⟩
    have h2' : ∀ j, j < m → wg f j < nG n ∧ (wk f j < 2 → bt (bV (sB s (p (wg f j)))) (wx f j) = decide (wk f j = 0)) ∧ (¬ wk f j < 2 → wx f j < nG n ∧ decide (p (wg f j) = p (wx f j)) = decide (wk f j = 3)) := fun j hj => by
      have := h2 j hj
      unfold isF at this
      rw [Bool.and_eq_true, decide_eq_true_eq] at this
      refine ⟨this.1, fun c => ?_, fun c => ?_⟩
      · have h3 := this.2
        rw [if_pos c, decide_eq_true_eq] at h3
        exact h3
      · have h3 := this.2
        rw [if_neg c, Bool.and_eq_true, decide_eq_true_eq, decide_eq_true_eq] at h3
        exact h3
    refine ⟨fun j hj => ?_, fun g hg => ?_⟩
    · obtain ⟨a1, a2, a3⟩ := h2' j hj
      unfold hrW
      rw [decide_eq_true a1, Bool.true_and]
      by_cases c : wk f j < 2
      · rw [decide_eq_true c]; rfl
      · rw [decide_eq_true (a3 c).1, Bool.or_true]
    · unfold stO
      rw [Bool.and_eq_true, Bool.and_eq_true, Bool.and_eq_true, decide_eq_true_eq, decide_eq_true_eq, decide_eq_true_eq, st_ap (by omega), st_be (by omega)]
      refine ⟨?_, hc.mpr (fun t ht => of_decide_eq_true (h1 t ht)) g hg, fun i hi hb => ?_, fun i hi hb => ?_⟩
      · refine (al_b n s f g (by have := hp g hg; omega) m).mpr (fun j hj k1 k2 => ?_)
        rw [tw_b s _ _ hT (by have := hp g hg; omega)]
        refine ⟨hp g hg, ?_⟩
        have := (h2' j hj).2.1 k1
        rw [k2] at this
        exact this
      · obtain ⟨j, hj, k1, k2⟩ := (ap_b f (by omega) g (by omega) m D).mp hb
        have := ((h2' j hj).2.2 (by omega)).2
        rw [decide_eq_false (show ¬ wk f j = 3 by omega), decide_eq_false_iff_not] at this
        rcases k2 with ⟨e1, e2⟩ | ⟨e1, e2⟩
        · rw [e1, e2] at this
          exact fun e => this e.symm
        · rw [e1, e2] at this
          exact this
      · obtain ⟨j, hj, k1, k2⟩ := (ap_b f (by omega) g (by omega) m D).mp hb
        have := ((h2' j hj).2.2 (by omega)).2
        rw [decide_eq_true k1, decide_eq_true_eq] at this
        rcases k2 with ⟨e1, e2⟩ | ⟨e1, e2⟩
        · rw [e1, e2] at this
          exact this.symm
        · rw [e1, e2] at this
          exact this
