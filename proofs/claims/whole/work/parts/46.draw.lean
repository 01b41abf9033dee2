/-! ===== L3: evenings drawn by a seed: the code ===== -/
/-- of the first guests, those drawn for t; those of them who find a seat of m; how many find none -/
def dS (T : Nat → Nat) (t : Nat) : Nat → Int32
  | 0 => nI 0
  | k + 1 => if T k = t then dS T t k ||| sh (nI 1) (nI k) else dS T t k
def dW (m : Nat) (T : Nat → Nat) (t : Nat) : Nat → Int32
  | 0 => nI 0
  | k + 1 => if T k = t ∧ pc (dW m T t k) < m then dW m T t k ||| sh (nI 1) (nI k) else dW m T t k
def dL (m : Nat) (T : Nat → Nat) (t : Nat) : Nat → Nat
  | 0 => 0
  | k + 1 => if T k = t ∧ ¬ pc (dW m T t k) < m then dL m T t k + 1 else dL m T t k
theorem dS_b (T : Nat → Nat) (t : Nat) : ∀ k, k ≤ 31 → ∀ i, bt (dS T t k) i = decide (i < k ∧ T i = t)
  | 0, _, i => by
    show bt (nI 0) i = _
    rw [show bt (nI 0) i = false from b_0 i, decide_eq_false (by omega)]
  | k + 1, hk, i => by
    have ih := dS_b T t k (by omega) i
    show bt (if T k = t then _ else _) i = _
    by_cases hi : i < 32
    · by_cases c : T k = t
      · rw [if_pos c, b_or, ih, b_sh (by omega) i hi]
        by_cases c2 : i = k
        · subst c2
          rw [decide_eq_true (rfl : i = i), Bool.or_true, decide_eq_true ⟨by omega, c⟩]
        · rw [decide_eq_false c2, Bool.or_false]
          exact decide_eq_decide.mpr ⟨fun h => ⟨by omega, h.2⟩, fun h => ⟨by omega, h.2⟩⟩
      · rw [if_neg c, ih]
        refine decide_eq_decide.mpr ⟨fun h => ⟨by omega, h.2⟩, fun h => ⟨?_, h.2⟩⟩
        by_cases c2 : i = k
        · subst c2
          exact absurd h.2 c
        · omega
    · rw [b_big (by omega), decide_eq_false (by omega)]
theorem dW_lo (m : Nat) (T : Nat → Nat) (t : Nat) : ∀ k, k ≤ 31 → lo k (dW m T t k)
  | 0, _ => lo_0 0
  | k + 1, hk => by
    have ih := dW_lo m T t k (by omega)
    show lo (k + 1) (if _ then _ else _)
    exact lo_if (lo_or (lo_mo ih (by omega)) (lo_sh (by omega) (by omega))) (lo_mo ih (by omega))
theorem dW_T (m : Nat) (T : Nat → Nat) (t : Nat) : ∀ k, k ≤ 31 → ∀ i, bt (dW m T t k) i = true → T i = t
  | 0, _, i, h => by
    rw [show bt (dW m T t 0) i = false from b_0 i] at h
    exact absurd h Bool.false_ne_true
  | k + 1, hk, i, h => by
    have ih := dW_T m T t k (by omega) i
    by_cases hi : i < 32
    · by_cases c : T k = t ∧ pc (dW m T t k) < m
      · have h' : bt (dW m T t k ||| sh (nI 1) (nI k)) i = true := by
          have e : dW m T t (k + 1) = dW m T t k ||| sh (nI 1) (nI k) := if_pos c
          rw [← e]; exact h
        rw [b_or, b_sh (by omega) i hi] at h'
        by_cases c2 : i = k
        · subst c2
          exact c.1
        · rw [decide_eq_false c2, Bool.or_false] at h'
          exact ih h'
      · have e : dW m T t (k + 1) = dW m T t k := if_neg c
        rw [e] at h
        exact ih h
    · rw [b_big (by omega)] at h
      exact absurd h Bool.false_ne_true
theorem dW_pc (m : Nat) (T : Nat → Nat) (t : Nat) : ∀ k, k ≤ 8 → pc (dW m T t k) ≤ m ∧ pc (dS T t k) = pc (dW m T t k) + dL m T t k
  | 0, _ => by
    have e : pc (nI 0) = 0 := by decide +kernel
    exact ⟨by show pc (nI 0) ≤ m; omega, by show pc (nI 0) = pc (nI 0) + 0; omega⟩
  | k + 1, hk => by
    obtain ⟨i1, i2⟩ := dW_pc m T t k (by omega)
    have f1 : bt (dW m T t k) k = false := dW_lo m T t k (by omega) k (Nat.le_refl k)
    have f2 : bt (dS T t k) k = false := by rw [dS_b T t k (by omega), decide_eq_false (by omega)]
    have g1 : pc (dW m T t k ||| sh (nI 1) (nI k)) = pc (dW m T t k) + 1 := by
      have := cT_bit f1 (by omega) 10 (by omega)
      rw [if_pos (by omega)] at this
      exact this
    have g2 : pc (dS T t k ||| sh (nI 1) (nI k)) = pc (dS T t k) + 1 := by
      have := cT_bit f2 (by omega) 10 (by omega)
      rw [if_pos (by omega)] at this
      exact this
    show pc (if T k = t ∧ pc (dW m T t k) < m then _ else _) ≤ m ∧ pc (if T k = t then _ else _) = pc (if T k = t ∧ pc (dW m T t k) < m then _ else _) + (if T k = t ∧ ¬ pc (dW m T t k) < m then dL m T t k + 1 else dL m T t k)
    by_cases c : T k = t
    · by_cases c2 : pc (dW m T t k) < m
      · rw [if_pos ⟨c, c2⟩, if_pos c, if_neg (fun h => h.2 c2), g1, g2]
        exact ⟨by omega, by omega⟩
      · rw [if_neg (fun h => c2 h.2), if_pos c, if_pos ⟨c, c2⟩, g2]
        exact ⟨i1, by omega⟩
    · rw [if_neg (fun h => c h.1), if_neg c, if_neg (fun h => c h.1)]
      exact ⟨i1, i2⟩
/-- who speak, of the first k -/
def lwb (x : Int32) : Nat → Int32
  | 0 => nI 0
  | k + 1 => if bt x k = true then lwb x k ||| sh (nI 1) (nI k) else lwb x k
theorem lwb_b (x : Int32) : ∀ k, k ≤ 31 → ∀ i, bt (lwb x k) i = (decide (i < k) && bt x i)
  | 0, _, i => by
    show bt (nI 0) i = _
    rw [show bt (nI 0) i = false from b_0 i, decide_eq_false (by omega), Bool.false_and]
  | k + 1, hk, i => by
    have ih := lwb_b x k (by omega) i
    show bt (if bt x k = true then _ else _) i = _
    by_cases hi : i < 32
    · by_cases c2 : i = k
      · subst c2
        by_cases c : bt x i = true
        · rw [if_pos c, b_or, b_sh (by omega) i hi, decide_eq_true (rfl : i = i), Bool.or_true, c, decide_eq_true (by omega)]; rfl
        · rw [if_neg c, ih, decide_eq_false (by omega), eq_false_of_ne_true c, Bool.and_false, Bool.and_false]
      · have e : decide (i < k) = decide (i < k + 1) := decide_eq_decide.mpr (by omega)
        by_cases c : bt x k = true
        · rw [if_pos c, b_or, b_sh (by omega) i hi, decide_eq_false c2, Bool.or_false, ih, e]
        · rw [if_neg c, ih, e]
    · rw [b_big (by omega), b_big (x := x) (by omega), Bool.and_false]
theorem lwb_all {x : Int32} {k : Nat} (hk : k ≤ 31) (h : lo k x) : lwb x k = x := by
  refine b_ext (fun i _ => ?_)
  rw [lwb_b x k hk]
  by_cases c : i < k
  · rw [decide_eq_true c, Bool.true_and]
  · rw [h i (by omega), Bool.and_false]
/-- they sit, and those of ws say what is theirs -/
def dSp (n : Inn) (s : St) (t : Nat) (who ws : Int32) : St := sMk (up (sB s) t (bSt (sitB (sB s t) who) who ws)) (dH who ws (sH (dSit n s t who))) (sP (dSit n s t who)) (sM (dSit n s t who)) (sD (dSit n s t who)) (sN (dSit n s t who)) (sF (dSit n s t who)) (sJ (dSit n s t who))
def dT (n : Inn) (s : St) (t : Nat) (who : Int32) : St := if who = nI 0 then s else dSp n s t who who
theorem bSt_i (x : Bn) : bSt x (bS x) (bW x) = x := rfl
theorem dH_0 (who : Int32) (f : Nat → Int32) : dH who (nI 0) f = f := by
  funext g
  unfold dH
  rw [or_z]
  split <;> rfl
theorem dSp_0 {n : Inn} {s : St} {t : Nat} {who : Int32} (h0 : bW (sB s t) = nI 0) : dSp n s t who (nI 0) = dSit n s t who := by
  have e : bSt (sitB (sB s t) who) who (nI 0) = sitB (sB s t) who := by
    rw [← h0]
    rfl
  unfold dSp
  rw [dH_0, e]
  rfl
theorem dSp_say {n : Inn} {s : St} {t g : Nat} {who ws : Int32} (ht : tabOf (dSp n s t who ws) g = t) : dSay (dSp n s t who ws) g g = dSp n s t who (ws ||| sh (nI 1) (nI g)) := by
  unfold dSay
  rw [ht]
  have e1 : sB (dSp n s t who ws) t = bSt (sitB (sB s t) who) who ws := up_at _ _ _
  have e2 : ∀ x, up (sB (dSp n s t who ws)) t x = up (sB s) t x := by
    intro x
    funext i
    by_cases c : i = t
    · subst c
      rw [up_at, up_at]
    · rw [up_ne _ _ c, up_ne _ _ c]
      exact up_ne _ _ c
  rw [e1, e2]
  have e3 : dH who (sh (nI 1) (nI g)) (sH (dSp n s t who ws)) = dH who (ws ||| sh (nI 1) (nI g)) (sH (dSit n s t who)) := by
    funext i
    show dH who (sh (nI 1) (nI g)) (dH who ws (sH (dSit n s t who))) i = _
    unfold dH
    by_cases c : bt who i = true
    · rw [if_pos c, if_pos c, if_pos c, Int32.or_assoc]
    · rw [if_neg c, if_neg c, if_neg c]
  show sMk _ (dH who (sh (nI 1) (nI g)) (sH (dSp n s t who ws))) _ _ _ _ _ _ = _
  rw [e3]
  rfl
theorem q_sit0 {h : Hp} {n : Inn} {s : St} {t : Nat} (X : CX h n) (hw : wI n) (C : CS h s) (ht : t < nT n) : S_sitDown h (nI t) (nI 0) = some (nI 0, h) := by
  have hT5 := hw.1
  obtain ⟨e1, e2⟩ := el_st t (by omega)
  unfold S_sitDown S_sitDown_j32
  rw [q_bat X hw ht, sb, if_neg (by omega), if_pos e2, (C.1 t (by omega)).2.2.1]
  by_cases h1 : bS (sB s t) = nI 0
  · rw [if_pos (show bS (sB s t) = 0 from h1), if_pos (show nI 0 = (0 : Int32) from rfl)]; rfl
  · rw [if_neg (show ¬ bS (sB s t) = 0 from h1)]; rfl
theorem pst_tr {h h1 h2 : Hp} (a : Fr pst h h1) (b : Fr pst h1 h2) : Fr pst h h2 := fr_tr a b
theorem seat_z {s : St} {who : Int32} (hd : who &&& seatAll s = nI 0) {g : Nat} (hg : bt who g = true) : ∀ i, i < 5 → bt (bS (sB s i)) g = false := by
  intro i hi
  refine eq_false_of_ne_true (fun c => ?_)
  have e : bt (seatAll s) g = true := (b_oT _ g 5).mpr ⟨i, hi, c⟩
  have : bt (who &&& seatAll s) g = false := by rw [hd]; exact b_0 g
  rw [b_and, hg, e] at this
  exact Bool.false_ne_true this.symm
theorem tabOf_sp {n : Inn} {s : St} {t g : Nat} {who ws : Int32} (ht : t < 5) (hd : who &&& seatAll s = nI 0) (hg : bt who g = true) : tabOf (dSp n s t who ws) g = t := by
  unfold tabOf
  refine fF_at' _ ?_ ?_ 5 ht
  · intro i hi
    show bt (bS (up (sB s) t _ i)) g = false
    rw [up_ne _ _ (by omega)]
    exact seat_z hd hg i (by omega)
  · show bt (bS (up (sB s) t _ t)) g = true
    rw [up_at]
    exact hg
theorem okSit_d {n : Inn} {s : St} {t : Nat} {who : Int32} (hw : wI n) (ht : t < nT n) (h0 : bS (sB s t) = nI 0) (hlo : lo (nG n) who) (hd : who &&& seatAll s = nI 0) (hp : pc who ≤ nS n t) : okSit n s t who = true := by
  have hG := hw.2.2.1
  unfold okSit
  rw [decide_eq_true ht, decide_eq_true h0, decide_eq_true (lo_hA (by omega) hlo), decide_eq_true hd, decide_eq_true hp]; rfl
theorem wS_sp {n : Inn} {s : St} {t : Nat} {who ws : Int32} (hw : wI n) (W : wS n s) (ht : t < nT n) (hne : who ≠ nI 0) (hlo : lo (nG n) who) (ok : okSit n s t who = true) (hws : lo 10 ws) : wS n (dSp n s t who ws) := by
  have hT5 := hw.1
  have W1 := wS_sit hw W (by omega) hne ok
  have e1 : sB (dSit n s t who) t = sitB (sB s t) who := up_at _ _ _
  have Bt := (W1.1 t (by omega)).1
  rw [e1] at Bt
  have e2 : dSp n s t who ws = sMk (up (sB (dSit n s t who)) t (bSt (sitB (sB s t) who) who ws)) (dH who ws (sH (dSit n s t who))) (sP (dSit n s t who)) (sM (dSit n s t who)) (sD (dSit n s t who)) (sN (dSit n s t who)) (sF (dSit n s t who)) (sJ (dSit n s t who)) := by
    unfold dSp
    rw [show up (sB (dSit n s t who)) t (bSt (sitB (sB s t) who) who ws) = up (sB s) t (bSt (sitB (sB s t) who) who ws) from by
      funext i
      by_cases c : i = t
      · subst c
        rw [up_at, up_at]
      · rw [up_ne _ _ c, up_ne _ _ c]
        exact up_ne _ _ c]
  rw [e2]
  refine wS_up W1 ht ⟨Bt.1, Bt.2.1, hlo, hws, fun h => absurd h hne, Bt.2.2.2.2.2⟩ ?_
  intro g hg
  obtain ⟨a1, a2, a3⟩ := W1.2 g hg
  refine ⟨?_, a2, a3⟩
  unfold dH
  exact lo_if (lo_or a1 hws) a1
theorem q_seatDrawn {h : Hp} {n : Inn} {s : St} {t : Nat} {T : Nat → Nat} (X : CX h n) (hw : wI n) (C : CS h s) (W : wS n s) (ht : t < nT n) (h0 : bS (sB s t) = nI 0) (hd : dW (nS n t) T t (nG n) &&& seatAll s = nI 0) : Okk (S_seatDrawn h (nI t) (dS T t (nG n))) (fun r => r.1 = nI (dL (nS n t) T t (nG n)) ∧ CS r.2 (dT n s t (dW (nS n t) T t (nG n))) ∧ Fr pst h r.2) := by
  obtain ⟨a, ha, h6, H, hk, h5, hg⟩ := cx_g X
  have hG := hw.2.2.1
  have hT5 := hw.1
  have hS8 := (hw.2.2.2.1 t ht).2.1
  obtain ⟨pW, pL⟩ := dW_pc (nS n t) T t (nG n) hG
  have loW := dW_lo (nS n t) T t (nG n) (by omega)
  have loS : lo 10 (dS T t (nG n)) := fun i hi => by rw [dS_b T t (nG n) (by omega), decide_eq_false (by omega)]
  have hW0 : bW (sB s t) = nI 0 := (W.1 t (by omega)).1.2.2.2.2.1 h0
  have isD : ∀ k, k < nG n → K_isIn (dS T t (nG n)) (nI k) = some (bI (decide (T k = t))) := by
    intro k hk
    rw [q_isIn _ (by omega), dS_b T t (nG n) (by omega)]
    congr 2
    exact decide_eq_decide.mpr ⟨fun h => h.2, fun h => ⟨hk, h⟩⟩
  unfold S_seatDrawn S_seatDrawn_l5
  refine lp_for _ (nG n) (fun k q => q = (dW (nS n t) T t k, nI k)) _ ?_ ?_ 0 _ (by omega) rfl
  · rintro k q hk1 rfl
    unfold S_seatDrawn_b5 S_seatDrawn_j48
    dsimp only
    rw [h6, nI_clamp (by omega), if_pos hk, hg, if_neg (show ¬ nI (nG n) ≤ nI k from fun c => by rw [i_le, nI_toInt (by omega), nI_toInt (by omega)] at c; omega), isD k hk1, sb, bI_it0, q_bits (lo_mo (dW_lo (nS n t) T t k (by omega)) (by omega)), sb, q_seatsOf H hw ht, sb]
    have pk := pc_le (dW (nS n t) T t k)
    by_cases c : T k = t
    · rw [if_pos (by rw [decide_eq_true c])]
      by_cases c2 : pc (dW (nS n t) T t k) < nS n t
      · rw [if_neg (show ¬ nI (nS n t) ≤ nI (pc (dW (nS n t) T t k)) from fun c => by rw [i_le, nI_toInt (by omega), nI_toInt (by omega)] at c; omega), bnd_eq, bnd_eq]
        refine ok_mk ?_
        show (_, _) = (dW (nS n t) T t (k + 1), _)
        rw [show dW (nS n t) T t (k + 1) = dW (nS n t) T t k ||| sh (nI 1) (nI k) from if_pos ⟨c, c2⟩, show nI k + (1 : Int32) = nI (k + 1) from nI_add _ _]
        rfl
      · rw [if_pos (show nI (nS n t) ≤ nI (pc (dW (nS n t) T t k)) by rw [i_le, nI_toInt (by omega), nI_toInt (by omega)]; omega), bnd_eq]
        refine ok_mk ?_
        show (_, _) = (dW (nS n t) T t (k + 1), _)
        rw [show dW (nS n t) T t (k + 1) = dW (nS n t) T t k from if_neg (fun h => c2 h.2), show nI k + (1 : Int32) = nI (k + 1) from nI_add _ _]
    · rw [if_neg (by rw [decide_eq_false c]; exact Bool.false_ne_true), bnd_eq]
      refine ok_mk ?_
      show (_, _) = (dW (nS n t) T t (k + 1), _)
      rw [show dW (nS n t) T t (k + 1) = dW (nS n t) T t k from if_neg (fun h => c h.1), show nI k + (1 : Int32) = nI (k + 1) from nI_add _ _]
  · rintro q rfl
    unfold S_seatDrawn_b5 S_seatDrawn_j54
    dsimp only
    rw [h6, nI_clamp (by omega), if_pos hk, hg, if_pos (show nI (nG n) ≤ nI (nG n) by rw [i_le]; omega)]
    refine okmr ?_
    generalize hwho : dW (nS n t) T t (nG n) = who at *
    -- what is answered
    have fin : ∀ g, S_seatDrawn_j100 (dS T t (nG n)) who g = some (nI (dL (nS n t) T t (nG n)), g) := by
      intro g
      unfold S_seatDrawn_j100
      have p1 := pc_le who
      have p2 := pc_le (dS T t (nG n))
      rw [q_bits loS, sb, q_bits (lo_mo loW (by omega)), sb, pk_sub (by omega), pL, show pc who + dL (nS n t) T t (nG n) - pc who = dL (nS n t) T t (nG n) by omega]
    by_cases hz : who = nI 0
    · subst hz
      rw [q_sit0 X hw C ht]
      show Okk (S_seatDrawn_l64 (dS T t (nG n)) (nI 0) 0 h) _
      unfold S_seatDrawn_l64
      refine lp_for _ (nG n) (fun k q => q = (nI k, h)) _ ?_ ?_ 0 _ (by omega) rfl
      · rintro k q hk1 rfl
        unfold S_seatDrawn_b64 S_seatDrawn_j94
        dsimp only
        rw [h6, nI_clamp (by omega), if_pos hk, hg, if_neg (show ¬ nI (nG n) ≤ nI k from fun c => by rw [i_le, nI_toInt (by omega), nI_toInt (by omega)] at c; omega), q_isIn _ (by omega), sb, bI_it0, show bt (nI 0) k = false from b_0 k, if_neg Bool.false_ne_true, bnd_eq]
        rw [show nI k + (1 : Int32) = nI (k + 1) from nI_add _ _]
        exact ok_mk rfl
      · rintro q rfl
        unfold S_seatDrawn_b64
        dsimp only
        rw [h6, nI_clamp (by omega), if_pos hk, hg, if_pos (show nI (nG n) ≤ nI (nG n) by rw [i_le]; omega), fin]
        refine okmr (ok_mk ⟨rfl, ?_, fr_rfl⟩)
        unfold dT
        rw [if_pos rfl]
        exact C
    · have ok := okSit_d hw ht h0 loW hd pW
      refine okb (q_sitDown X hw C W (by omega) (lo_mo loW hG) hz) ?_
      rintro ⟨r1, g⟩ ⟨e1, e2, e3⟩
      rw [ok, if_pos rfl] at e2
      dsimp only at e2 e3
      show Okk (S_seatDrawn_l64 (dS T t (nG n)) who 0 g) _
      unfold S_seatDrawn_l64
      refine lp_for _ (nG n) (fun k q => q.1 = nI k ∧ CS q.2 (dSp n s t who (lwb who k)) ∧ Fr pst h q.2) _ ?_ ?_ 0 _ (by omega) ⟨rfl, by rw [show lwb who 0 = nI 0 from rfl, dSp_0 hW0]; exact e2, e3⟩
      · rintro k ⟨q1, q2⟩ hk1 ⟨f1, f2, f3⟩
        dsimp only at f1 f2 f3
        subst f1
        have X2 := cx_st X f3
        obtain ⟨a', ha', h6', H', hk', h5', hg'⟩ := cx_g X2
        unfold S_seatDrawn_b64 S_seatDrawn_j94
        dsimp only
        rw [h6', nI_clamp (by omega), if_pos hk', hg', if_neg (show ¬ nI (nG n) ≤ nI k from fun c => by rw [i_le, nI_toInt (by omega), nI_toInt (by omega)] at c; omega), q_isIn _ (by omega), sb, bI_it0]
        by_cases c : bt who k = true
        · rw [if_pos c]
          refine okb (q_speak X2 hw f2 (show k < 8 by omega) (show k < 10 by omega)) ?_
          rintro ⟨r1', g'⟩ ⟨y1, y2, y3⟩
          have et := tabOf_sp (n := n) (ws := lwb who k) (show t < 5 by omega) hd c
          have oks : okSay n (dSp n s t who (lwb who k)) k = true := by
            unfold okSay
            rw [et, decide_eq_true hk1, decide_eq_true ht]; rfl
          rw [oks, if_pos rfl, dSp_say et] at y2
          dsimp only at y2 y3
          dsimp only
          rw [bnd_eq]
          refine ok_mk ⟨nI_add _ _, ?_, fr_tr f3 y3⟩
          rw [show lwb who (k + 1) = lwb who k ||| sh (nI 1) (nI k) from if_pos c]
          exact y2
        · rw [if_neg c, bnd_eq]
          refine ok_mk ⟨nI_add _ _, ?_, f3⟩
          rw [show lwb who (k + 1) = lwb who k from if_neg c]
          exact f2
      · rintro ⟨q1, q2⟩ ⟨f1, f2, f3⟩
        dsimp only at f1 f2 f3
        subst f1
        have X2 := cx_st X f3
        obtain ⟨a', ha', h6', H', hk', h5', hg'⟩ := cx_g X2
        unfold S_seatDrawn_b64
        dsimp only
        rw [h6', nI_clamp (by omega), if_pos hk', hg', if_pos (show nI (nG n) ≤ nI (nG n) by rw [i_le]; omega), fin]
        refine okmr (ok_mk ⟨rfl, ?_, f3⟩)
        unfold dT
        rw [if_neg hz]
        rw [lwb_all (by omega) loW] at f2
        exact f2
