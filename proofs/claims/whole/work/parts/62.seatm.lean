/-! ===== L3: seatings: the model ===== -/
def pSm : Nat → Nat → Prop := fun c _ => c = 274 ∨ c = 275
theorem psm_x {h h' : Hp} {n : Inn} {s : St} (F : Fr pSm h h') (X : MX h n) (C : MS h s) : MX h' n ∧ MS h' s := ⟨mx_fr X (fun c i hc => F c i (by show ¬ (c = 274 ∨ c = 275); omega)), ms_fr C (fun c i hc => F c i (by show ¬ (c = 274 ∨ c = 275); omega))⟩
theorem tl_psm {h h' : Hp} (F : Fr pSm h h') : Tl h h' := tl_fr F (fun c i hc => by
  have hc' : c = 274 ∨ c = 275 := hc
  omega)
theorem q_mghosts {h : Hp} {n : Inn} {s : St} (hw : wI n) (C : MS h s) (W : wS n s) {t : Nat} (ht : t < 5) : M_ghostsAt h (nI t) = some (bG (sB s t)) := by
  obtain ⟨m1, m2, m3, m4, m5⟩ := C.1 t ht
  have hk := kp_le hw t
  have hL := (W.1 t ht).1.1
  have hu := (W.1 t ht).1.2.1
  unfold M_ghostsAt M_ghostsAt_j29 bG
  rw [if_pos (show inb (nI t) (ln 266) from nI_in (by show t < 5; omega) (by show 5 < 2 ^ 31; omega))]
  simp only [nI_clamp (show t < 2 ^ 31 by omega), m1, m2]
  rcases Nat.eq_zero_or_pos (bL (sB s t)) with c | c
  · rw [if_pos (show nI (bL (sB s t)) = 0 by rw [c]; rfl), if_neg (show ¬ bU (sB s t) < bL (sB s t) by omega)]
    rfl
  · rw [if_neg (show ¬ nI (bL (sB s t)) = 0 from ne_nI (b := 0) (by omega) (by omega) (by omega)), if_pos (show inb (nI t) (ln 267) from nI_in (by show t < 5; omega) (by show 5 < 2 ^ 31; omega)), show ((16 : Int32) * nI t) + nI (bU (sB s t)) = nI (16 * t + bU (sB s t)) by rw [show (16 : Int32) * nI t = nI (16 * t) from pk_mul 16 _, nI_add], if_pos (show inb (nI (16 * t + bU (sB s t))) (ln 263) from nI_in (by show 16 * t + bU (sB s t) < 80; omega) (by show 80 < 2 ^ 31; omega)), nI_clamp (show 16 * t + bU (sB s t) < 2 ^ 31 by omega), (m5 (bU (sB s t)) (by omega)).1, if_pos (show bU (sB s t) < bL (sB s t) by omega)]
theorem m1_add {G k : Nat} (h : k < G) : nI (G - 1 - k) + (-1 : Int32) = (if k + 1 < G then nI (G - 1 - (k + 1)) else jN 1) := by
  by_cases c : k + 1 < G
  · rw [if_pos c, show (-1 : Int32) = jN 1 from rfl, NN.2.2.2.1 _ (by omega), show G - 1 - k - 1 = G - 1 - (k + 1) by omega]
  · rw [if_neg c, show G - 1 - k = 0 by omega]
    rfl
theorem q_lay {h : Hp} {n : Inn} {r : Nat} (X : MX h n) (hw : wI n) (hT1 : 1 ≤ nT n) (hr : r < 2 ^ 30) : Okk (M_laySeats h (nI r)) (fun q => q.1 = bI (alB (fun t => decide (pc (dS (spd (nT n) (nG n) r) t (nG n)) ≤ nS n t)) (nT n)) ∧ (∀ g, g < nG n → q.2.1 274 g = nI (spd (nT n) (nG n) r g)) ∧ (∀ t, t < nT n → q.2.1 275 t = dS (spd (nT n) (nG n) r) t (nG n)) ∧ Fr pSm h q.2) := by
  have hT := hw.1
  have hG1 := hw.2.1
  have hG8 := hw.2.2.1
  have l4 : ln 274 = 8 := by decide +kernel
  have l5 : ln 275 = 5 := by decide +kernel
  have g2 : ∀ z : Hp, Fr pSm h z → z.1 251 24 = nI (nT n) ∧ z.1 251 25 = nI (nG n) := fun z F => by
    rw [F 251 24 (by show ¬ (251 = 274 ∨ 251 = 275); omega), F 251 25 (by show ¬ (251 = 274 ∨ 251 = 275); omega)]
    exact mx_g X
  unfold M_laySeats M_laySeats_l7
  refine lp_for _ (nT n) (fun t z => z.1 = nI t ∧ (∀ i, i < t → z.2.1 275 i = nI 0) ∧ Fr pSm h z.2) _ ?_ ?_ 0 _ (by omega) ⟨rfl, fun i hi => absurd hi (by omega), fr_rfl⟩
  · rintro t ⟨z1, z2⟩ ht ⟨rfl, hz, F⟩
    dsimp only at hz F
    unfold M_laySeats_b7
    dsimp only
    rw [(g2 z2 F).1, if_neg (show ¬ nI (nT n) ≤ nI t from fun e => by rw [i_le, nI_toInt (by omega), nI_toInt (by omega)] at e; omega), l5, if_pos (nI_in (show t < 5 by omega) (by omega)), bnd_eq, bnd_eq, nI_clamp (show t < 2 ^ 31 by omega), show nI t + (1 : Int32) = nI (t + 1) from nI_add _ _]
    refine ok_mk ⟨rfl, fun i hi => ?_, fr_tr F (fr_wr (Or.inr rfl))⟩
    dsimp only
    by_cases c : i = t
    · subst c
      exact wr_at _ _ _ _
    · rw [wr_p _ _ _ _ c, hz i (by omega)]
  · rintro ⟨z1, z2⟩ ⟨rfl, hz, F⟩
    dsimp only at hz F
    unfold M_laySeats_b7 M_laySeats_j30
    dsimp only
    rw [(g2 z2 F).1, (g2 z2 F).2, if_pos (show nI (nT n) ≤ nI (nT n) by rw [i_le]; omega), bnd_eq, show nI (nG n) - (1 : Int32) = nI (nG n - 1) from pk_sub (b := 1) (by omega)]
    refine okmr ?_
    unfold M_laySeats_l38
    refine lp_for _ (nG n) (fun k y => y.1 = nI (r / nT n ^ k) ∧ y.2.1 = (if k < nG n then nI (nG n - 1 - k) else jN 1) ∧ (∀ i, i < nG n → nG n - 1 - i < k → y.2.2.1 274 i = nI (spd (nT n) (nG n) r i)) ∧ (∀ t, t < nT n → ∀ i, i < 32 → bt (y.2.2.1 275 t) i = decide ((i < nG n ∧ nG n - 1 - i < k) ∧ spd (nT n) (nG n) r i = t)) ∧ Fr pSm h y.2.2) _ ?_ ?_ 0 _ (by omega) ⟨by rw [Nat.pow_zero, Nat.div_one], by rw [if_pos (show 0 < nG n by omega)]; rfl, fun i _ c => absurd c (by omega), fun t ht i hi => ?_, F⟩
    · rintro k ⟨y1, y2, y3⟩ hk ⟨e1, e2, e3, e4, F3⟩
      dsimp only at e1 e2 e3 e4 F3
      rw [if_pos hk] at e2
      subst e1 e2
      have hd : r / nT n ^ k ≤ r := Nat.div_le_self _ _
      have hz0 : ¬ nI (nT n) = 0 := ne_nI (b := 0) (by omega) (by omega) (by omega)
      have ed : r / nT n ^ k % nT n = spd (nT n) (nG n) r (nG n - 1 - k) := by
        unfold spd
        rw [show nG n - 1 - (nG n - 1 - k) = k by omega]
      have dlt : spd (nT n) (nG n) r (nG n - 1 - k) < nT n := spd_lt hT1 _ _ _
      have F4 : Fr pSm h (wr y3 274 (nG n - 1 - k) (nI (spd (nT n) (nG n) r (nG n - 1 - k)))) := fr_tr F3 (fr_wr (Or.inl rfl))
      unfold M_laySeats_b38
      dsimp only
      rw [if_neg (show ¬ nI (nG n - 1 - k) < 0 from fun c => by rw [i_lt, nI_toInt (by omega)] at c; have : (0 : Int32).toInt = 0 := rfl; omega), (g2 y3 F3).1, if_pos hz0, l4, l5, if_pos (nI_in (show nG n - 1 - k < 8 by omega) (by omega)), bnd_eq]
      simp only [nI_clamp (show nG n - 1 - k < 2 ^ 31 by omega)]
      rw [show rm (nI (r / nT n ^ k)) (nI (nT n)) = nI (r / nT n ^ k % nT n) from pk_rem (by omega) (by omega) (by omega), ed, (g2 _ F4).1, if_pos hz0, bnd_eq, pk_div (by omega) (by omega) (by omega), if_pos (nI_in (show nG n - 1 - k < 8 by omega) (by omega))]
      simp only [wr_at, nI_clamp (show spd (nT n) (nG n) r (nG n - 1 - k) < 2 ^ 31 by omega)]
      rw [if_pos (nI_in (show spd (nT n) (nG n) r (nG n - 1 - k) < 5 by omega) (by omega)), if_pos (nI_in (show spd (nT n) (nG n) r (nG n - 1 - k) < 5 by omega) (by omega)), bnd_eq, bnd_eq]
      refine ok_mk ⟨?_, m1_add hk, fun i hi hik => ?_, fun t ht i hi => ?_, fr_tr F4 (fr_wr (Or.inr rfl))⟩
      · show nI (r / nT n ^ k / nT n) = nI (r / nT n ^ (k + 1))
        rw [Nat.div_div_eq_div_mul, Nat.pow_succ]
      · dsimp only
        rw [wr_c _ _ _ _ (by omega)]
        by_cases c : i = nG n - 1 - k
        · rw [c, wr_at]
        · rw [wr_p _ _ _ _ c, e3 i hi (by omega)]
      · dsimp only
        have eb := e4 t ht i hi
        by_cases c : t = spd (nT n) (nG n) r (nG n - 1 - k)
        · rw [← c, wr_at, wr_c _ _ _ _ (by omega), b_or, eb, show (1 : Int32) = nI 1 from rfl, b_sh (show nG n - 1 - k < 32 by omega) i hi]
          by_cases c2 : i = nG n - 1 - k
          · rw [decide_eq_true c2, Bool.or_true, decide_eq_true]
            exact ⟨⟨by omega, by omega⟩, by rw [c2, ← c]⟩
          · rw [decide_eq_false c2, Bool.or_false]
            by_cases c3 : (i < nG n ∧ nG n - 1 - i < k) ∧ spd (nT n) (nG n) r i = t
            · rw [decide_eq_true c3, decide_eq_true ⟨⟨c3.1.1, by omega⟩, c3.2⟩]
            · rw [decide_eq_false c3, decide_eq_false (fun e => c3 ⟨⟨e.1.1, by omega⟩, e.2⟩)]
        · rw [wr_p _ _ _ _ c, wr_c _ _ _ _ (by omega), eb]
          by_cases c3 : (i < nG n ∧ nG n - 1 - i < k) ∧ spd (nT n) (nG n) r i = t
          · rw [decide_eq_true c3, decide_eq_true ⟨⟨c3.1.1, by omega⟩, c3.2⟩]
          · rw [decide_eq_false c3, decide_eq_false]
            rintro ⟨⟨a1, a2⟩, a3⟩
            by_cases c4 : i = nG n - 1 - k
            · subst c4
              exact c a3.symm
            · exact c3 ⟨⟨a1, by omega⟩, a3⟩
    · rintro ⟨y1, y2, y3⟩ ⟨e1, e2, e3, e4, F3⟩
      dsimp only at e1 e2 e3 e4 F3
      rw [if_neg (by omega)] at e2
      subst e1 e2
      unfold M_laySeats_b38 M_laySeats_j88
      dsimp only
      rw [if_pos (show jN 1 < 0 by decide +kernel)]
      refine okmr ?_
      have e5 : ∀ t, t < nT n → y3.1 275 t = dS (spd (nT n) (nG n) r) t (nG n) := fun t ht => b_ext (fun i hi => by
        rw [e4 t ht i hi, dS_b _ _ (nG n) (by omega)]
        by_cases c : i < nG n ∧ spd (nT n) (nG n) r i = t
        · rw [decide_eq_true c, decide_eq_true ⟨⟨c.1, by omega⟩, c.2⟩]
        · rw [decide_eq_false c, decide_eq_false (fun e => c ⟨e.1.1, e.2⟩)])
      unfold M_laySeats_l91
      refine lp_for _ (nT n) (fun t q => q = (bI (alB (fun t => decide (pc (dS (spd (nT n) (nG n) r) t (nG n)) ≤ nS n t)) t), nI t)) _ ?_ ?_ 0 _ (by omega) rfl
      · rintro t q ht rfl
        have X3 : MX y3 n := mx_fr X (fun c i hc => F3 c i (by show ¬ (c = 274 ∨ c = 275); omega))
        have hS := (hw.2.2.2.1 t ht).2.1
        have hp := pc_le (dS (spd (nT n) (nG n) r) t (nG n))
        have ea : alB (fun t => decide (pc (dS (spd (nT n) (nG n) r) t (nG n)) ≤ nS n t)) (t + 1) = (alB (fun t => decide (pc (dS (spd (nT n) (nG n) r) t (nG n)) ≤ nS n t)) t && decide (pc (dS (spd (nT n) (nG n) r) t (nG n)) ≤ nS n t)) := rfl
        unfold M_laySeats_b91 M_laySeats_j128 M_laySeats_j129
        dsimp only
        rw [(g2 y3 F3).1, if_neg (show ¬ nI (nT n) ≤ nI t from fun e => by rw [i_le, nI_toInt (by omega), nI_toInt (by omega)] at e; omega), bnd_eq, bnd_eq, show nI t + (1 : Int32) = nI (t + 1) from nI_add _ _, bI_it0, ea]
        cases alB (fun t => decide (pc (dS (spd (nT n) (nG n) r) t (nG n)) ≤ nS n t)) t
        · rw [if_neg (by decide)]
          exact ok_mk rfl
        · rw [if_pos rfl, l5, if_pos (nI_in (show t < 5 by omega) (by omega)), nI_clamp (show t < 2 ^ 31 by omega), e5 t ht, q_ones, sb, show M_ofTable y3 (nI t) (0 : Int32) = _ from (q_ofT X3 hw ht).1, sb, Bool.true_and]
          by_cases c : pc (dS (spd (nT n) (nG n) r) t (nG n)) ≤ nS n t
          · rw [if_neg (show ¬ nI (nS n t) < nI (pc (dS (spd (nT n) (nG n) r) t (nG n))) from fun e => by rw [i_lt, nI_toInt (by omega), nI_toInt (by omega)] at e; omega), decide_eq_true c]
            exact ok_mk rfl
          · rw [if_pos (show nI (nS n t) < nI (pc (dS (spd (nT n) (nG n) r) t (nG n))) by rw [i_lt, nI_toInt (by omega), nI_toInt (by omega)]; omega), decide_eq_false c]
            exact ok_mk rfl
      · rintro q rfl
        unfold M_laySeats_b91 M_laySeats_j136
        dsimp only
        rw [(g2 y3 F3).1, if_pos (show nI (nT n) ≤ nI (nT n) by rw [i_le]; omega), show ∀ (b : Bool) (x y : Option _), (if bI b = (0 : Int32) ∨ bI b = (1 : Int32) then x else y) = x from fun b _ _ => if_pos (of_eq_true (bI_g b))]
        exact okmr (ok_mk ⟨rfl, fun g hg => e3 g hg (by omega), e5, F3⟩)
    · dsimp only
      rw [hz t ht, show bt (nI 0) i = false from b_0 i, decide_eq_false (by omega)]
/-- what the model looks at to weigh a row -/
def Sat (n : Inn) (s : St) (f : Nat → Pst) (m k : Nat) (p : Nat → Nat) (h : Hp) : Prop := MX h n ∧ MS h s ∧ MW h k m f ∧ h.1 251 43 = nI k ∧ (∀ g, g < nG n → h.1 274 g = nI (p g)) ∧ ∀ t, t < nT n → h.1 275 t = dS p t (nG n)
theorem q_isFul {h : Hp} {n : Inn} {s : St} {f : Nat → Pst} {m k j : Nat} {p : Nat → Nat} (hw : wI n) (W : wS n s) (A : Sat n s f m k p h) (hp : ∀ g, g < nG n → p g < nT n) (hj : j < m) (D : wW (f j)) : M_isFulfilled h (nI j) = some (bI (isF n s f p j)) := by
  obtain ⟨X, C, E, he, h4, h5⟩ := A
  have hT := hw.1
  have hG8 := hw.2.2.1
  obtain ⟨w1, w2, w3, w4, w5, w6, w7⟩ := wW_n D
  obtain ⟨g1, g2⟩ := q_wishOf E he
  obtain ⟨a1, a2, a3⟩ := g2 j hj
  have l4 : ln 274 = 8 := lnm.2.2.2.2.2.2.2.2.2.2.2.2.2.2.2.2.2.2.2.2.2.2.1
  have iG : ∀ g, g < 10 → M_isGuest h (nI g) = some (bI (decide (g < nG n))) := fun g hg => by
    rw [q_isGuest X hw, iz_nI 0 _ (by omega), show decide (0 ≤ g ∧ g < 0 + nG n) = decide (g < nG n) by congr 1; apply propext; omega]
  have j154 : ∀ a b : Bool, M_isFulfilled_j154 (bI a) (bI b) h = some (bI (decide (a = b))) := by
    intro a b
    cases a <;> cases b <;> rfl
  have j83 : ∀ a b : Bool, M_isFulfilled_j83 (bI a) (bI b) h = some (bI (decide (a = b))) := by
    intro a b
    cases a <;> cases b <;> rfl
  have j140 : ∀ b : Bool, M_isFulfilled_j140 (nI (wk f j)) (bI b) h = some (bI (decide (b = decide (wk f j = 0)))) := by
    intro b
    unfold M_isFulfilled_j140
    by_cases c : wk f j = 0
    · rw [if_pos (show nI (wk f j) = 0 by rw [c]; rfl), decide_eq_true c]
      exact j154 b true
    · rw [if_neg (show ¬ nI (wk f j) = 0 from ne_nI (b := 0) (by omega) (by omega) c), decide_eq_false c]
      exact j154 b false
  have j72 : ∀ b : Bool, M_isFulfilled_j72 (nI (wk f j)) (bI b) h = some (bI (decide (b = decide (wk f j = 3)))) := by
    intro b
    unfold M_isFulfilled_j72
    by_cases c : wk f j = 3
    · rw [if_pos (show nI (wk f j) = (3 : Int32) by rw [c]; rfl), decide_eq_true c]
      exact j83 b true
    · rw [if_neg (show ¬ nI (wk f j) = (3 : Int32) from ne_nI (b := 3) (by omega) (by omega) c), decide_eq_false c]
      exact j83 b false
  unfold M_isFulfilled isF
  rw [show M_wishOf h (nI j) (1 : Int32) = some (f j).2.1 from a2, sb, show M_wishOf h (nI j) (2 : Int32) = some (f j).2.2 from a3, sb, show M_wishOf h (nI j) (0 : Int32) = some (f j).1 from a1, sb, w1, w2, w3, iG _ (by omega), sb, bI_it0]
  by_cases c1 : wg f j < nG n
  case neg =>
    rw [decide_eq_false c1, if_neg (by decide), Bool.false_and]
    rfl
  rw [decide_eq_true c1, if_pos rfl, Bool.true_and]
  have hpg := hp _ c1
  by_cases c2 : wk f j < 2
  · rw [if_pos (show nI (wk f j) < (2 : Int32) from (nI_ltI (b := 2) (by omega) (by omega)).mpr c2), if_pos c2]
    unfold M_isFulfilled_j46 M_isFulfilled_j139
    obtain ⟨m1, m2, m3, m4, m5⟩ := C.1 (p (wg f j)) (by omega)
    have hk := kp_le hw (p (wg f j))
    have hL := (W.1 (p (wg f j)) (by omega)).1.1
    have hu := (W.1 (p (wg f j)) (by omega)).1.2.1
    rw [if_pos (show nI (wk f j) < (2 : Int32) from (nI_ltI (b := 2) (by omega) (by omega)).mpr c2), l4, if_pos (nI_in (show wg f j < 8 by omega) (by omega)), bnd_eq]
    simp only [nI_clamp (show wg f j < 2 ^ 31 by omega), h4 _ c1]
    rw [if_pos (show inb (nI (p (wg f j))) (ln 266) from nI_in (by show p (wg f j) < 5; omega) (by show 5 < 2 ^ 31; omega))]
    simp only [nI_clamp (show p (wg f j) < 2 ^ 31 by omega), m1, m2]
    have eV : bt (bV (sB s (p (wg f j)))) (wx f j) = if bU (sB s (p (wg f j))) < bL (sB s (p (wg f j))) then bt (bR (sB s (p (wg f j))) (bU (sB s (p (wg f j))))).2.1 (wx f j) else false := by
      unfold bV
      by_cases c : bU (sB s (p (wg f j))) < bL (sB s (p (wg f j)))
      · rw [if_pos c, if_pos c]
      · rw [if_neg c, if_neg c]
        exact b_0 _
    rw [eV]
    rcases Nat.eq_zero_or_pos (bL (sB s (p (wg f j)))) with c | c
    · rw [if_pos (show nI (bL (sB s (p (wg f j)))) ≤ 0 by rw [c]; decide +kernel), if_neg (show ¬ bU (sB s (p (wg f j))) < bL (sB s (p (wg f j))) by omega)]
      exact j140 false
    · rw [if_neg (show ¬ nI (bL (sB s (p (wg f j)))) ≤ 0 from fun e => by rw [i_le, nI_toInt (by omega)] at e; have : (0 : Int32).toInt = 0 := rfl; omega), if_pos (show inb (nI (p (wg f j))) (ln 267) from nI_in (by show p (wg f j) < 5; omega) (by show 5 < 2 ^ 31; omega)), show ((16 : Int32) * nI (p (wg f j))) + nI (bU (sB s (p (wg f j)))) = nI (16 * p (wg f j) + bU (sB s (p (wg f j)))) by rw [show (16 : Int32) * nI (p (wg f j)) = nI (16 * p (wg f j)) from pk_mul 16 _, nI_add], if_pos (show inb (nI (16 * p (wg f j) + bU (sB s (p (wg f j))))) (ln 264) from nI_in (by show 16 * p (wg f j) + bU (sB s (p (wg f j))) < 80; omega) (by show 80 < 2 ^ 31; omega)), nI_clamp (show 16 * p (wg f j) + bU (sB s (p (wg f j))) < 2 ^ 31 by omega), (m5 _ (show bU (sB s (p (wg f j))) < bL (sB s (p (wg f j))) by omega)).2.1, q_has _ (show wx f j < 32 by omega), sb, bI_it0, if_pos (show bU (sB s (p (wg f j))) < bL (sB s (p (wg f j))) by omega)]
      cases bt (bR (sB s (p (wg f j))) (bU (sB s (p (wg f j))))).2.1 (wx f j)
      · rw [if_neg (by decide)]
        exact j140 false
      · rw [if_pos rfl]
        exact j140 true
  · rw [if_neg c2] at w6
    rw [if_neg (show ¬ nI (wk f j) < (2 : Int32) from fun e => c2 ((nI_ltI (b := 2) (by omega) (by omega)).mp e)), if_neg c2, iG _ (by omega), sb, bI_it0]
    by_cases c3 : wx f j < nG n
    case neg =>
      rw [decide_eq_false c3, if_neg (by decide), Bool.false_and]
      rfl
    rw [decide_eq_true c3, if_pos rfl, Bool.true_and]
    have hpx := hp _ c3
    unfold M_isFulfilled_j46
    rw [if_neg (show ¬ nI (wk f j) < (2 : Int32) from fun e => c2 ((nI_ltI (b := 2) (by omega) (by omega)).mp e)), l4, if_pos (nI_in (show wg f j < 8 by omega) (by omega)), if_pos (nI_in (show wx f j < 8 by omega) (by omega)), nI_clamp (show wg f j < 2 ^ 31 by omega), nI_clamp (show wx f j < 2 ^ 31 by omega), h4 _ c1, h4 _ c3]
    by_cases c4 : p (wg f j) = p (wx f j)
    · rw [if_pos (show nI (p (wg f j)) = nI (p (wx f j)) by rw [c4]), decide_eq_true c4]
      exact j72 true
    · rw [if_neg (fun e => c4 ((nI_eq (by omega) (by omega)).mp e)), decide_eq_false c4]
      exact j72 false
theorem q_areFul {h : Hp} {n : Inn} {s : St} {f : Nat → Pst} {m k : Nat} {p : Nat → Nat} (hw : wI n) (W : wS n s) (A : Sat n s f m k p h) (hp : ∀ g, g < nG n → p g < nT n) (D : ∀ j, j < m → wW (f j)) : M_areFulfilled h = some (bI (alB (isF n s f p) m)) := by
  have hm := A.2.2.1.2.1
  have g1 := (q_wishOf A.2.2.1 A.2.2.2.1).1
  apply ok_to
  unfold M_areFulfilled M_areFulfilled_l4
  refine lp_for _ m (fun j q => q = (bI (alB (isF n s f p) j), nI j)) _ ?_ ?_ 0 _ (by omega) rfl
  · rintro j q hj rfl
    have ea : alB (isF n s f p) (j + 1) = (alB (isF n s f p) j && isF n s f p j) := rfl
    unfold M_areFulfilled_b4 M_areFulfilled_j28 M_areFulfilled_j29
    dsimp only
    rw [g1, sb, if_neg (show ¬ nI m ≤ nI j from fun e => by rw [i_le, nI_toInt (by omega), nI_toInt (by omega)] at e; omega), bI_it0, bnd_eq, bnd_eq, show nI j + (1 : Int32) = nI (j + 1) from nI_add _ _, ea]
    cases alB (isF n s f p) j
    · rw [if_neg (by decide)]
      exact ok_mk rfl
    · rw [if_pos rfl, q_isFul hw W A hp hj (D j hj), sb, bI_it0, Bool.true_and]
      cases isF n s f p j
      · rw [if_neg (by decide)]
        exact ok_mk rfl
      · rw [if_pos rfl]
        exact ok_mk rfl
  · rintro q rfl
    unfold M_areFulfilled_b4 M_areFulfilled_j36
    dsimp only
    rw [g1, sb, if_pos (show nI m ≤ nI m by rw [i_le]; omega), show ∀ (b : Bool) (x y : Option _), (if bI b = (0 : Int32) ∨ bI b = (1 : Int32) then x else y) = x from fun b _ _ => if_pos (of_eq_true (bI_g b))]
    exact okmr (ok_mk rfl)
theorem q_mharm {h : Hp} {n : Inn} {s : St} {f : Nat → Pst} {m k : Nat} {p : Nat → Nat} (hw : wI n) (W : wS n s) (A : Sat n s f m k p h) : M_harm h = some (nI (nsm (roH n s p (nG n)) (nT n))) := by
  obtain ⟨X, C, E, he, h4, h5⟩ := A
  have hT := hw.1
  have l5 : ln 275 = 5 := by decide +kernel
  apply ok_to
  unfold M_harm M_harm_l4
  refine lp_for _ (nT n) (fun t q => q = (nI (nsm (roH n s p (nG n)) t), nI t)) _ ?_ ?_ 0 _ (by omega) rfl
  · rintro t q ht rfl
    have b1 := cp_le (nQ n) (dS p t (nG n)) (dS p t (nG n)) 8
    unfold M_harm_b4
    dsimp only
    rw [(mx_g X).1, if_neg (show ¬ nI (nT n) ≤ nI t from fun e => by rw [i_le, nI_toInt (by omega), nI_toInt (by omega)] at e; omega), l5, if_pos (nI_in (show t < 5 by omega) (by omega)), q_mghosts hw C W (by omega), sb]
    simp only [nI_clamp (show t < 2 ^ 31 by omega), h5 t ht]
    rw [show M_couples h (dS p t (nG n)) (bG (sB s t)) (17 : Int32) = _ from (q_mcoup X hw _ _).1, sb, if_pos (nI_in (show t < 5 by omega) (by omega)), if_pos (nI_in (show t < 5 by omega) (by omega)), show M_couples h (dS p t (nG n)) (dS p t (nG n)) (17 : Int32) = _ from (q_mcoup X hw _ _).1, sb, bnd_eq, bnd_eq, show nI (cp (nQ n) (dS p t (nG n)) (dS p t (nG n)) 8) / (2 : Int32) = nI (cp (nQ n) (dS p t (nG n)) (dS p t (nG n)) 8 / 2) from pk_div (d := 2) (by omega) (by omega) (by omega), nI_add, nI_add, show nI t + (1 : Int32) = nI (t + 1) from nI_add _ _]
    exact ok_mk rfl
  · rintro q rfl
    unfold M_harm_b4 M_harm_j59
    dsimp only
    rw [(mx_g X).1, if_pos (show nI (nT n) ≤ nI (nT n) by rw [i_le]; omega)]
    exact okmr (ok_mk rfl)
theorem q_mpays {h : Hp} {n : Inn} {s : St} {f : Nat → Pst} {m k : Nat} {p : Nat → Nat} (hw : wI n) (W : wS n s) (A : Sat n s f m k p h) : M_pays h = some (nI (nsm (roP n s p (nG n)) (nT n))) := by
  obtain ⟨X, C, E, he, h4, h5⟩ := A
  have hT := hw.1
  have l5 : ln 275 = 5 := by decide +kernel
  apply ok_to
  unfold M_pays M_pays_l4
  refine lp_for _ (nT n) (fun t q => q = (nI (nsm (roP n s p (nG n)) t), nI t)) _ ?_ ?_ 0 _ (by omega) rfl
  · rintro t q ht rfl
    have es : nsm (roP n s p (nG n)) (t + 1) = nsm (roP n s p (nG n)) t + roP n s p (nG n) t := rfl
    unfold M_pays_b4 M_pays_j51
    dsimp only
    rw [(mx_g X).1, if_neg (show ¬ nI (nT n) ≤ nI t from fun e => by rw [i_le, nI_toInt (by omega), nI_toInt (by omega)] at e; omega), l5, if_pos (nI_in (show t < 5 by omega) (by omega))]
    simp only [nI_clamp (show t < 2 ^ 31 by omega), h5 t ht, bnd_eq]
    have eo : roP n s p (nG n) t = if dS p t (nG n) = nI 0 then 0 else pr n t * (pc (dS p t (nG n)) + pc (bG (sB s t))) := rfl
    rw [es, eo, show nI t + (1 : Int32) = nI (t + 1) from nI_add _ _]
    by_cases c : dS p t (nG n) = nI 0
    · rw [if_pos (show dS p t (nG n) = 0 from c), if_pos c]
      exact ok_mk (Prod.ext (nI_add _ 0) rfl)
    · rw [if_neg (show ¬ dS p t (nG n) = 0 from c), if_neg c, show M_ofTable h (nI t) (2 : Int32) = some (nP n t) from (q_ofT X hw ht).2.2, sb, if_pos (nI_in (show t < 5 by omega) (by omega)), q_ones, sb, q_mghosts hw C W (by omega), sb, q_ones, sb, (pr_n hw ht).1, nI_add, pk_mul]
      exact ok_mk (Prod.ext (nI_add _ _) rfl)
  · rintro q rfl
    unfold M_pays_b4 M_pays_j59
    dsimp only
    rw [(mx_g X).1, if_pos (show nI (nT n) ≤ nI (nT n) by rw [i_le]; omega)]
    exact okmr (ok_mk rfl)
