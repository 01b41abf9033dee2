/-! ===== L3: the model's deeds ===== -/
theorem q_msits {h : Hp} {n : Inn} {s : St} {t : Nat} {who : Int32} (H : MX h n) (hw : wI n) (C : MS h s) (W : wS n s) (ht : t < nT n) (hlo : lo 8 who) (hne : who ≠ nI 0) (hs : bS (sB s t) = nI 0) : Okk (M_sitsDown h (nI t) who) (fun h' => MS h' (dSit n s t who) ∧ Fr pms h h') := by
  have hn := hw.1
  have hfF := lo_ne hlo (by omega) hne
  have Wt := (W.1 t (by omega)).1
  have hk6 := kp_le hw t
  obtain ⟨hl, hu⟩ := wB_u Wt (by omega)
  have hW0 : bW (sB s t) = nI 0 := Wt.2.2.2.2.1 hs
  unfold M_sitsDown
  simp (disch := omega) only [KK, K1, K2, NN, bnd_eq, sb, smr, bI_ite, if_pos, if_neg, if_true, if_false, or_true, true_or, true_and, and_true, g01, lnm]
  generalize hm : wr (wr h 268 t who) 269 t (nI 0) = m
  have Fm : Fr (fun c i => (c = 268 ∨ c = 269) ∧ i = t) h m := by
    rw [← hm]
    exact fr_tr (fr_wr ⟨Or.inl rfl, rfl⟩) (fr_wr ⟨Or.inr rfl, rfl⟩)
  have mo : ∀ c i, (c ≠ 268 ∧ c ≠ 269) ∨ i ≠ t → m.1 c i = h.1 c i := fun c i hc => Fm c i (by show ¬ ((c = 268 ∨ c = 269) ∧ i = t); omega)
  have mS : m.1 268 t = who := by rw [← hm]; simp (disch := omega) only [KK, K1, K2, NN, bnd_eq, sb, smr, bI_ite, if_pos, if_neg, if_true, if_false, or_true, true_or, true_and, and_true, g01, wr_at, wr_c, wr_p, ]
  have mW : m.1 269 t = nI 0 := by rw [← hm]; simp (disch := omega) only [KK, K1, K2, NN, bnd_eq, sb, smr, bI_ite, if_pos, if_neg, if_true, if_false, or_true, true_or, true_and, and_true, g01, wr_at, wr_c, wr_p, ]
  refine okb (q_mmeet who who) ?_
  rintro h1 ⟨p1, F1⟩
  have o1 : ∀ c i, c ≠ 273 → h1.1 c i = m.1 c i := fun c i hc => F1 c i hc
  have H1 : MX h1 n := mx_fr H (fun c i hc => by rw [o1 c i (by omega), mo c i (by omega)])
  have eP := (q_ofT H1 hw ht).2.2
  -- the loop that lets all pay
  unfold M_sitsDown_l22
  refine lp_for _ 8 (fun k q => q.1 = nI k ∧ Fr (fun c _ => c = 271) h1 q.2 ∧ ∀ g, g < 8 → q.2.1 271 g = if g < k ∧ bt who g = true then sP s g + nP n t else sP s g) _ ?_ ?_ 0 _ (by omega) ?_
  · rintro k ⟨q1, q2⟩ hk ⟨rfl, hF, hv⟩
    dsimp only at hF hv ⊢
    have hvk := hv k hk
    rw [if_neg (fun e => absurd e.1 (by omega))] at hvk
    have H2 : MX q2 n := mx_fr H1 (fun c i hc => hF c i (by show ¬ c = 271; omega))
    have key : ∀ v, sP s k + v = (if bt who k = true then sP s k + nP n t else sP s k) → Okk (M_sitsDown_j53 (nI t) who (nI k) (nI k) (sP s k) v q2) (Sum.elim (fun q => q.1 = nI (k + 1) ∧ Fr (fun c _ => c = 271) h1 q.2 ∧ ∀ g, g < 8 → q.2.1 271 g = if g < k + 1 ∧ bt who g = true then sP s g + nP n t else sP s g) (fun h' => MS h' (dSit n s t who) ∧ Fr pms h h')) := by
      intro v hv1
      unfold M_sitsDown_j53
      simp (disch := omega) only [KK, K1, K2, NN, bnd_eq, sb, smr, bI_ite, if_pos, if_neg, if_true, if_false, or_true, true_or, true_and, and_true, g01, lnm]
      refine ok_mk ⟨rfl, fr_tr hF (fr_wr rfl), ?_⟩
      intro g hg
      by_cases e : g = k
      · subst e
        simp (disch := omega) only [KK, K1, K2, NN, bnd_eq, sb, smr, bI_ite, if_pos, if_neg, if_true, if_false, or_true, true_or, true_and, and_true, g01, wr_at, wr_c, wr_p, ]
        rw [hv1]
        by_cases hb : bt who g = true
        · rw [if_pos hb, if_pos ⟨by omega, hb⟩]
        · rw [if_neg hb, if_neg (fun e => hb e.2)]
      · simp (disch := omega) only [KK, K1, K2, NN, bnd_eq, sb, smr, bI_ite, if_pos, if_neg, if_true, if_false, or_true, true_or, true_and, and_true, g01, wr_at, wr_c, wr_p, hv g hg]
        by_cases h1 : g < k ∧ bt who g = true
        · rw [if_pos h1, if_pos ⟨by omega, h1.2⟩]
        · rw [if_neg h1, if_neg (fun e2 => h1 ⟨by omega, e2.2⟩)]
    unfold M_sitsDown_b22
    simp (disch := omega) only [KK, K1, K2, NN, bnd_eq, sb, smr, bI_ite, if_pos, if_neg, if_true, if_false, or_true, true_or, true_and, and_true, g01, lnm, q_has who (show k < 32 by omega), hvk, (q_ofT H2 hw ht).2.2]
    by_cases hb : bt who k = true
    · rw [if_pos hb]
      exact key _ (by rw [if_pos hb])
    · rw [if_neg hb]
      exact key _ (by rw [if_neg hb, ad_z])
  · rintro ⟨q1, q2⟩ ⟨rfl, hF, hv⟩
    dsimp only at hF hv ⊢
    have o2 : ∀ c i, c ≠ 271 → c ≠ 273 → q2.1 c i = m.1 c i := fun c i a1 a2 => by rw [hF c i a1, o1 c i a2]
    have H2 : MX q2 n := mx_fr H1 (fun c i hc => hF c i (by show ¬ c = 271; omega))
    obtain ⟨b3, b4, b5, b6, bR'⟩ := C.1 t (by omega)
    have B2 : MB q2 t (bSt (sB s t) who (nI 0)) := by
      refine ⟨?_, ?_, ?_, ?_, ?_⟩
      · rw [o2 266 t (by omega) (by omega), mo 266 t (by omega), b3]; rfl
      · rw [o2 267 t (by omega) (by omega), mo 267 t (by omega), b4]; rfl
      · rw [o2 268 t (by omega) (by omega), mS]; rfl
      · rw [o2 269 t (by omega) (by omega), mW]; rfl
      · intro i hi
        rw [o2 263 _ (by omega) (by omega), mo 263 _ (by omega), o2 264 _ (by omega) (by omega), mo 264 _ (by omega), o2 265 _ (by omega) (by omega), mo 265 _ (by omega)]
        exact bR' i hi
    -- what comes out, whatever the last step is
    have fin : ∀ h4 : Hp, h4.1 267 t = nI (bU (bTn (sB s t))) → (∀ g, g < 8 → h4.1 270 g = dH who (bV (sB s t)) (sH s) g ∧ h4.1 271 g = dP who (bG (sB s t)) (nP n t) (sP s) g ∧ h4.1 273 g = dM who (bG (sB s t)) (sM s) g) → (∀ i, i < 64 → h4.1 272 i = dD who (bG (sB s t)) (nP n t) (sD s) i) → h4.1 251 39 = sF s + nI (cp (nQ n) who (bG (sB s t)) 8) → h4.1 251 40 = sJ s + nI (cp (nL n) who (bG (sB s t)) 8) → Fr (fun c i => (c = 267 ∧ i = t) ∨ c = 270 ∨ c = 271 ∨ c = 272 ∨ c = 273 ∨ (c = 251 ∧ 39 ≤ i ∧ i ≤ 40)) q2 h4 → MS h4 (dSit n s t who) ∧ Fr pms h h4 := by
      intro h4 z1 z2 z3 z4 z5 F4
      have o4 : ∀ c i, ¬ ((c = 267 ∧ i = t) ∨ c = 270 ∨ c = 271 ∨ c = 272 ∨ c = 273 ∨ (c = 251 ∧ 39 ≤ i ∧ i ≤ 40)) → h4.1 c i = q2.1 c i := fun c i hc => F4 c i hc
      refine ⟨⟨?_, z2, z3, ?_, z4, z5⟩, ?_⟩
      · intro u hu5
        show MB h4 u (up (sB s) t (sitB (sB s t) who) u)
        by_cases e : u = t
        · subst e
          rw [up_at]
          obtain ⟨c3, c4, c5, c6, cR⟩ := B2
          refine ⟨?_, z1, ?_, ?_, ?_⟩
          · rw [o4 266 u (by omega), c3]; rfl
          · rw [o4 268 u (by omega), c5]; rfl
          · rw [o4 269 u (by omega), c6]
            show nI 0 = bW (sB s u)
            exact hW0.symm
          · intro i hi
            rw [o4 263 _ (by omega), o4 264 _ (by omega), o4 265 _ (by omega)]
            exact cR i hi
        · rw [up_ne _ _ e]
          have Wu := (W.1 u hu5).1
          have hk7 := kp_le hw u
          have hlu := Wu.1
          refine mb_fr (C.1 u hu5) (by omega) (fun c i hc => ?_)
          rw [o4 c i (by omega), o2 c i (by omega) (by omega), mo c i (by omega)]
      · rw [o4 251 38 (by omega), o2 251 38 (by omega) (by omega), mo 251 38 (by omega), C.2.2.2.1]
        rfl
      · intro c i hc
        have hc' : ¬ ((c = 251 ∧ 38 ≤ i ∧ i ≤ 40) ∨ (263 ≤ c ∧ c ≤ 273)) := hc
        rw [o4 c i (by omega), o2 c i (by omega) (by omega), mo c i (by omega)]
    have v270 : ∀ g, g < 8 → q2.1 270 g = sH s g := fun g hg => by rw [o2 270 g (by omega) (by omega), mo 270 g (by omega), (C.2.1 g hg).1]
    have v272 : ∀ i, i < 64 → q2.1 272 i = sD s i := fun i hi => by rw [o2 272 i (by omega) (by omega), mo 272 i (by omega), C.2.2.1 i hi]
    have v273 : ∀ g, g < 8 → q2.1 273 g = mm who who (sM s) g := fun g hg => by
      rw [hF 273 g (by show ¬ (273 : Nat) = 271; omega), p1 g hg]
      unfold mm
      rw [mo 273 g (by omega), (C.2.1 g hg).2.2]
    have v39 : q2.1 251 39 = sF s := by rw [o2 251 39 (by omega) (by omega), mo 251 39 (by omega), C.2.2.2.2.1]
    have v40 : q2.1 251 40 = sJ s := by rw [o2 251 40 (by omega) (by omega), mo 251 40 (by omega), C.2.2.2.2.2]
    have v271 : ∀ g, g < 8 → q2.1 271 g = if bt who g = true then sP s g + nP n t else sP s g := by
      intro g hg
      rw [hv g hg]
      by_cases h1 : bt who g = true
      · rw [if_pos ⟨hg, h1⟩, if_pos h1]
      · rw [if_neg (fun e => h1 e.2), if_neg h1]
    unfold M_sitsDown_b22 M_sitsDown_j61 M_sitsDown_j76
    have e266 : q2.1 266 t = nI (bL (sB s t)) := B2.1
    simp (disch := omega) only [KK, K1, K2, NN, bnd_eq, sb, smr, bI_ite, if_pos, if_neg, if_true, if_false, or_true, true_or, true_and, and_true, g01, lnm, e266]
    refine okmr ?_
    by_cases h0 : bL (sB s t) ≤ 0
    · rw [if_pos h0]
      have hU0 : bU (sB s t) = 0 := by have := Wt.2.1; omega
      have eG : bG (sB s t) = nI 0 := if_neg (by omega)
      have eV : bV (sB s t) = nI 0 := if_neg (by omega)
      have cz : ∀ f : Nat → Int32, cp f who (nI 0) 8 = 0 := by
        intro f
        have : ∀ k, cp f who (nI 0) k = 0 := by
          intro k
          induction k with
          | zero => rfl
          | succ k ih =>
            show cp f who (nI 0) k + (if bt who k = true then pc (f k &&& nI 0) else 0) = 0
            rw [ih, show pc (f k &&& nI 0) = 0 by unfold pc; apply cT_f; intro i hi; rw [b_and, show bt (nI 0) i = false from b_0 i, Bool.and_false]]
            split <;> rfl
        exact this 8
      refine ok_mk (fin q2 ?_ ?_ ?_ ?_ ?_ fr_rfl)
      · rw [B2.2.1]
        show nI (bU (sB s t)) = nI (if bU (sB s t) + 1 < bL (sB s t) then bU (sB s t) + 1 else 0)
        rw [if_neg (by omega), hU0]
      · intro g hg
        refine ⟨?_, ?_, ?_⟩
        · rw [v270 g hg, eV]
          unfold dH
          by_cases h1 : bt who g = true
          · rw [if_pos h1, or_z]
          · rw [if_neg h1]
        · rw [v271 g hg, eG]
          unfold dP
          by_cases h1 : g = fF (bt who) 8
          · rw [if_pos h1, aT_z _ _ (bt (nI 0)) 8 (fun i _ => b_0 i)]
          · rw [if_neg h1]
        · rw [v273 g hg, eG, mm_d0 hg (W.2 g hg).2.2]
      · intro i hi
        rw [v272 i hi, eG]
        unfold dD
        rw [if_neg]
        rintro ⟨-, h2⟩
        rw [show bt (nI 0) (i % 8) = false from b_0 _] at h2
        exact absurd h2 (by decide)
      · rw [v39, eG, cz, ad_z]
      · rw [v40, eG, cz, ad_z]
    · rw [if_neg h0]
      have hU1 : bU (sB s t) < bL (sB s t) := by have := Wt.2.1; omega
      refine okb (q_repeats H2 hw ht B2 hl hU1 hfF) ?_
      rintro h4 ⟨z1, z2, z3, z4, z5, F4⟩
      refine ok_mk (fin h4 z1 ?_ ?_ ?_ ?_ F4)
      · intro g hg
        obtain ⟨y1, y2, y3⟩ := z2 g hg
        refine ⟨?_, ?_, ?_⟩
        · rw [y1]
          unfold dH
          rw [v270 g hg]
          rfl
        · rw [y2, v271 g hg]
          rfl
        · rw [y3]
          have e1 : mm who (bG (sB s t)) (q2.1 273) g = mm who (bG (sB s t)) (mm who who (sM s)) g := by
            unfold mm
            rw [v273 g hg]
            rfl
          exact e1.trans (mm_dM hg (W.2 g hg).2.2)
      · intro i hi
        rw [z3 i hi]
        unfold dD
        rw [v272 i hi]
        rfl
      · rw [z4, v39]; rfl
      · rw [z5, v40]; rfl
  · refine ⟨rfl, fr_rfl, ?_⟩
    intro g hg
    rw [if_neg (fun e => absurd e.1 (by omega))]
    show h1.1 271 g = _
    rw [o1 271 g (by omega), mo 271 g (by omega), (C.2.1 g hg).2.1]
theorem q_mseat {h : Hp} {s : St} (C : MS h s) : M_allSeated h = some (seatAll s) := by
  apply ok_to
  unfold M_allSeated M_allSeated_l4 seatAll
  refine lp_for _ 5 (fun k s1 => s1 = (oT (fun t => bS (sB s t)) k, nI k)) _ ?_ ?_ 0 _ (by omega) rfl
  · rintro k s1 hk1 rfl
    unfold M_allSeated_b4
    simp (disch := omega) only [KK, K1, K2, NN, bnd_eq, sb, smr, bI_ite, if_pos, if_neg, if_true, if_false, or_true, true_or, true_and, and_true, g01, lnm, (C.1 k hk1).2.2.1]
    exact ok_mk rfl
  · rintro s1 rfl
    unfold M_allSeated_b4 M_allSeated_j24
    simp (disch := omega) only [KK, K1, K2, NN, bnd_eq, sb, smr, bI_ite, if_pos, if_neg, if_true, if_false, or_true, true_or, true_and, and_true, g01]
    exact ⟨_, rfl, rfl⟩
theorem b_and0 {x y : Int32} : (x &&& y = nI 0) = (x &&& y = 0) := rfl
theorem sh_nI {k : Nat} (hk : k < 31) : sh (nI 1) (nI k) = nI (2 ^ k) := by
  apply b_ext
  intro i hi
  rw [b_sh (by omega) i hi, b_nI _ i hi, Nat.testBit_two_pow]
  congr 1
  apply propext
  omega
theorem p_lt {k m : Nat} (hk : k < m) : 2 ^ k < 2 ^ m := Nat.pow_lt_pow_right (by decide) hk
theorem q_sits {h : Hp} {n : Inn} {s : St} {t : Nat} {who : Int32} (H : MX h n) (hw : wI n) (C : MS h s) (W : wS n s) (ht : t < 5) (hlo : lo 8 who) (hne : who ≠ nI 0) : Okk (M_sits h (nI t) who) (fun r => r.1 = bI (okSit n s t who) ∧ MS r.2 (if okSit n s t who = true then dSit n s t who else s) ∧ Fr pms h r.2) := by
  have no : okSit n s t who = false → Okk (some ((nI 0), h)) (fun r : Int32 × Hp => r.1 = bI (okSit n s t who) ∧ MS r.2 (if okSit n s t who = true then dSit n s t who else s) ∧ Fr pms h r.2) := by
    intro e
    rw [e]
    exact ok_mk ⟨rfl, C, fr_rfl⟩
  unfold M_sits M_sits_j49
  rw [q_isTable H hw, sb, iz_nI 0 (nT n) (by omega)]
  by_cases htn : t < nT n
  case neg =>
    rw [decide_eq_false (by omega), if_pos (show bI false = 0 from rfl)]
    exact no (by unfold okSit; rw [decide_eq_false htn, Bool.false_and])
  rw [decide_eq_true (by omega), if_neg (show ¬ bI true = 0 by decide +kernel)]
  simp (disch := omega) only [KK, K1, K2, NN, bnd_eq, sb, smr, bI_ite, if_pos, if_neg, if_true, if_false, or_true, true_or, true_and, and_true, g01, lnm, (C.1 t ht).2.2.1, q_mseat C]
  by_cases h1 : bS (sB s t) = nI 0
  case neg =>
    rw [if_neg h1]
    exact no (by unfold okSit; rw [decide_eq_true htn, decide_eq_false h1]; rfl)
  rw [if_pos h1]
  by_cases h3 : who &&& seatAll s = nI 0
  case neg =>
    rw [if_neg h3]
    refine no ?_
    unfold okSit
    rw [decide_eq_true htn, decide_eq_true h1, decide_eq_false h3, Bool.false_and, Bool.and_false]
    rfl
  rw [if_pos h3]
  obtain ⟨w, hw256, rfl⟩ := lo_ex hlo
  have hG := hw.2.2.1
  obtain ⟨kk, hkk, g3, g4, g5, -⟩ := id H
  rw [g5, sh_nI (by omega)]
  have hp8 : (2 : Nat) ^ nG n ≤ 2 ^ 8 := Nat.pow_le_pow_right (by decide) hG
  have hiff : sr (nI w) (nI (nG n)) = nI 0 ↔ w < 2 ^ nG n := by
    constructor
    · intro e
      have l1 := hA_lo (by omega) e
      obtain ⟨v, hv, e2⟩ := lo_ex l1
      rw [nI_eq (by omega) (by omega)] at e2
      omega
    · intro e
      exact lo_hA (by omega) (lo_nI (by omega) e)
  by_cases h2 : w < 2 ^ nG n
  case neg =>
    rw [if_pos (by rw [nI_leI (by omega) (by omega)]; omega)]
    exact no (by unfold okSit; rw [decide_eq_true htn, decide_eq_true h1, decide_eq_false (fun e => h2 (hiff.mp e))]; rfl)
  rw [if_neg (by rw [nI_leI (by omega) (by omega)]; omega), q_ones, sb, (q_ofT H hw htn).1, sb]
  have hpc := pc_le (nI w)
  have hS := hw.2.2.2.1 t htn
  by_cases h4 : pc (nI w) ≤ nS n t
  case neg =>
    rw [if_neg (by rw [nI_leI (by omega) (by omega)]; exact h4)]
    exact no (by unfold okSit; rw [decide_eq_true htn, decide_eq_true h1, decide_eq_true (hiff.mpr h2), decide_eq_true h3, decide_eq_false h4]; rfl)
  have ok : okSit n s t (nI w) = true := by unfold okSit; rw [decide_eq_true htn, decide_eq_true h1, decide_eq_true (hiff.mpr h2), decide_eq_true h3, decide_eq_true h4]; rfl
  rw [if_pos (by rw [nI_leI (by omega) (by omega)]; exact h4), ok, if_pos rfl]
  refine okb (q_msits H hw C W htn hlo hne h1) ?_
  rintro h5 ⟨C5, F5⟩
  exact ok_mk ⟨rfl, C5, F5⟩
theorem q_mtab {h : Hp} {n : Inn} {s : St} {g : Nat} (H : MX h n) (hw : wI n) (C : MS h s) (W : wS n s) (hg : g < 31) : M_tableOf h (nI g) = some (if tabOf s g < nT n then nI (tabOf s g) else jN 1) ∧ (tabOf s g < nT n ∨ tabOf s g = 5) := by
  have hn := hw.1
  obtain ⟨kk, hkk, g3, g4, g5, -⟩ := id H
  have hz : ∀ t, nT n ≤ t → t < 5 → bt (bS (sB s t)) g = false := by
    intro t h1 h2
    rw [(W.1 t h2).2 h1]
    exact b_0 g
  have h2 : tabOf s g < nT n ∨ tabOf s g = 5 := by
    have h3 := fF_le (fun t => bt (bS (sB s t)) g) 5
    rcases Nat.lt_or_ge (tabOf s g) 5 with h4 | h4
    · rcases Nat.lt_or_ge (tabOf s g) (nT n) with h5 | h5
      · exact Or.inl h5
      · have h6 := fF_at (fun t => bt (bS (sB s t)) g) 5 h4
        have h7 := hz (tabOf s g) h5 h4
        exact absurd (h6.symm.trans h7) (by decide)
    · have h8 : tabOf s g ≤ 5 := h3
      exact Or.inr (by omega)
  refine ⟨?_, h2⟩
  apply ok_to
  unfold M_tableOf M_tableOf_l2
  refine lp_for _ (nT n) (fun k s1 => s1 = nI k ∧ ∀ i, i < k → bt (bS (sB s i)) g = false) _ ?_ ?_ 0 _ (by omega) ⟨rfl, fun i hi => absurd hi (Nat.not_lt_zero i)⟩
  · rintro k s1 hk ⟨rfl, hf⟩
    unfold M_tableOf_b2 M_tableOf_j23
    rw [g4]
    simp (disch := omega) only [KK, K1, K2, NN, bnd_eq, sb, smr, bI_ite, if_pos, if_neg, if_true, if_false, or_true, true_or, true_and, and_true, g01, lnm, (C.1 k (by omega)).2.2.1, q_has (bS (sB s k)) (show g < 32 by omega)]
    by_cases hb : bt (bS (sB s k)) g = true
    · rw [if_pos hb]
      have e : tabOf s g = k := fF_at' (fun t => bt (bS (sB s t)) g) hf hb 5 (by omega)
      refine ok_mk ?_
      show nI k = _
      rw [e, if_pos hk]
    · rw [if_neg hb]
      refine ok_mk ⟨rfl, ?_⟩
      intro i hi
      by_cases e : i = k
      · subst e
        exact eq_false_of_ne_true hb
      · exact hf i (by omega)
  · rintro s1 ⟨rfl, hf⟩
    have e : ¬ tabOf s g < nT n := by
      intro h5
      have h6 := fF_at (fun t => bt (bS (sB s t)) g) 5 (show tabOf s g < 5 by omega)
      have h7 := hf (tabOf s g) h5
      exact absurd (h6.symm.trans h7) (by decide)
    unfold M_tableOf_b2 M_tableOf_j31
    rw [g4]
    simp (disch := omega) only [KK, K1, K2, NN, bnd_eq, sb, smr, bI_ite, if_pos, if_neg, if_true, if_false, or_true, true_or, true_and, and_true, g01]
    exact ⟨_, rfl, rfl⟩
theorem ms_b {h h' : Hp} {n : Inn} {s : St} {t : Nat} {x : Bn} (hw : wI n) (W : wS n s) (C : MS h s) (F : Fr (pm t) h h') (B : MB h' t x) (ht : t < 5) : MS h' (sMk (up (sB s) t x) (sH s) (sP s) (sM s) (sD s) (sN s) (sF s) (sJ s)) := by
  obtain ⟨hb, hg, hd, hN, hF, hJ⟩ := C
  refine ⟨?_, ?_, ?_, ?_, ?_, ?_⟩
  · intro u hu
    show MB h' u (up (sB s) t x u)
    by_cases e : u = t
    · subst e
      rw [up_at]
      exact B
    · rw [up_ne _ _ e]
      have Wu := (W.1 u hu).1
      have hk7 := kp_le hw u
      have hlu := Wu.1
      exact mb_fr (hb u hu) (by omega) (fun c i hc => pm_fr F (by omega))
  · intro g hg'
    obtain ⟨e1, e2, e3⟩ := hg g hg'
    exact ⟨by rw [pm_fr F (by omega), e1]; rfl, by rw [pm_fr F (by omega), e2]; rfl, by rw [pm_fr F (by omega), e3]; rfl⟩
  · intro i hi
    rw [pm_fr F (by omega), hd i hi]; rfl
  · rw [pm_fr F (by omega), hN]; rfl
  · rw [pm_fr F (by omega), hF]; rfl
  · rw [pm_fr F (by omega), hJ]; rfl
theorem q_says {h : Hp} {n : Inn} {s : St} {g w : Nat} (H : MX h n) (hw : wI n) (C : MS h s) (W : wS n s) (hg : g < 8) (hw10 : w < 10) : Okk (M_says h (nI g) (nI w)) (fun r => r.1 = bI (okSay n s g) ∧ MS r.2 (if okSay n s g = true then dSay s g w else s) ∧ Fr pms h r.2) := by
  have no : okSay n s g = false → Okk (some ((nI 0), h)) (fun r : Int32 × Hp => r.1 = bI (okSay n s g) ∧ MS r.2 (if okSay n s g = true then dSay s g w else s) ∧ Fr pms h r.2) := by
    intro e
    rw [e]
    exact ok_mk ⟨rfl, C, fr_rfl⟩
  have hn := hw.1
  obtain ⟨eT, hT⟩ := q_mtab H hw C W (show g < 31 by omega)
  unfold M_says
  rw [q_isGuest H hw, sb, iz_nI 0 (nG n) (by omega)]
  by_cases h1 : g < nG n
  case neg =>
    rw [decide_eq_false (by omega), if_pos (show bI false = 0 from rfl)]
    unfold M_says_j17
    rw [if_pos rfl]
    exact no (by unfold okSay; rw [decide_eq_false h1]; rfl)
  rw [decide_eq_true (by omega), if_neg (show ¬ bI true = 0 by decide +kernel), eT, sb]
  rcases hT with h2 | h2
  · have ok : okSay n s g = true := by unfold okSay; rw [decide_eq_true h1, decide_eq_true h2]; rfl
    rw [ok, if_pos rfl, if_pos h2]
    unfold M_says_j17
    obtain ⟨c3, c4, c5, c6, cR⟩ := C.1 (tabOf s g) (by omega)
    simp (disch := omega) only [KK, K1, K2, NN, bnd_eq, sb, smr, bI_ite, if_pos, if_neg, if_true, if_false, or_true, true_or, true_and, and_true, g01, NJ, lnm, c6]
    have F1 : Fr (pm (tabOf s g)) h (wr h 269 (tabOf s g) (bW (sB s (tabOf s g)) ||| sh (nI 1) (nI w))) := fr_wr (Or.inr ⟨by omega, by omega, rfl⟩)
    have B1 : MB (wr h 269 (tabOf s g) (bW (sB s (tabOf s g)) ||| sh (nI 1) (nI w))) (tabOf s g) (bSt (sB s (tabOf s g)) (bS (sB s (tabOf s g))) (bW (sB s (tabOf s g)) ||| sh (nI 1) (nI w))) := by
      refine ⟨?_, ?_, ?_, ?_, ?_⟩
      · simp (disch := omega) only [KK, K1, K2, NN, bnd_eq, sb, smr, bI_ite, if_pos, if_neg, if_true, if_false, or_true, true_or, true_and, and_true, g01, wr_at, wr_c, wr_p, c3]; rfl
      · simp (disch := omega) only [KK, K1, K2, NN, bnd_eq, sb, smr, bI_ite, if_pos, if_neg, if_true, if_false, or_true, true_or, true_and, and_true, g01, wr_at, wr_c, wr_p, c4]; rfl
      · simp (disch := omega) only [KK, K1, K2, NN, bnd_eq, sb, smr, bI_ite, if_pos, if_neg, if_true, if_false, or_true, true_or, true_and, and_true, g01, wr_at, wr_c, wr_p, c5]; rfl
      · simp (disch := omega) only [KK, K1, K2, NN, bnd_eq, sb, smr, bI_ite, if_pos, if_neg, if_true, if_false, or_true, true_or, true_and, and_true, g01, wr_at, wr_c, wr_p, ]; rfl
      · intro i hi
        simp (disch := omega) only [KK, K1, K2, NN, bnd_eq, sb, smr, bI_ite, if_pos, if_neg, if_true, if_false, or_true, true_or, true_and, and_true, g01, wr_at, wr_c, wr_p, ]
        exact cR i hi
    have C2 := ms_b hw W C F1 B1 (by omega)
    refine okb (q_mhears _ _) ?_
    rintro h4 ⟨p3, F4⟩
    have o4 : ∀ c i, c ≠ 270 → h4.1 c i = (wr h 269 (tabOf s g) (bW (sB s (tabOf s g)) ||| sh (nI 1) (nI w))).1 c i := fun c i hc => F4 c i hc
    obtain ⟨d1, d2, d3, d4, d5, d6⟩ := C2
    refine ok_mk ⟨rfl, ⟨?_, ?_, ?_, ?_, ?_, ?_⟩, ?_⟩
    · intro u hu
      show MB h4 u (up (sB s) (tabOf s g) (bSt (sB s (tabOf s g)) (bS (sB s (tabOf s g))) (bW (sB s (tabOf s g)) ||| sh (nI 1) (nI w))) u)
      have z := d1 u hu
      have hlen : bL (up (sB s) (tabOf s g) (bSt (sB s (tabOf s g)) (bS (sB s (tabOf s g))) (bW (sB s (tabOf s g)) ||| sh (nI 1) (nI w))) u) ≤ 16 := by
        have Wu := (W.1 u hu).1
        have hk7 := kp_le hw u
        have hlu := Wu.1
        by_cases e : u = tabOf s g
        · subst e
          rw [up_at]
          show bL (sB s (tabOf s g)) ≤ 16
          omega
        · rw [up_ne _ _ e]
          omega
      exact mb_fr z hlen (fun c i hc => o4 c i (by omega))
    · intro k hk8
      obtain ⟨g1, g2, g3⟩ := d2 k hk8
      refine ⟨?_, ?_, ?_⟩
      · show h4.1 270 k = dH _ _ (sH s) k
        rw [p3 k hk8, wr_c h _ _ _ (show (268 : Nat) ≠ 269 by omega), c5]
        unfold dH
        rw [wr_c _ _ _ _ (by omega), (C.2.1 k hk8).1]
      · rw [o4 271 k (by omega), g2]
        rfl
      · rw [o4 273 k (by omega), g3]
        rfl
    · intro i hi
      rw [o4 272 i (by omega), d3 i hi]
      rfl
    · rw [o4 251 38 (by omega), d4]
      rfl
    · rw [o4 251 39 (by omega), d5]
      rfl
    · rw [o4 251 40 (by omega), d6]
      rfl
    · refine fr_tr (fr_mo F1 pm_pms) (fr_mo F4 ?_)
      intro c i hc
      have hc' : c = 270 := hc
      exact Or.inr (by omega)
  · rw [if_neg (by omega)]
    unfold M_says_j17
    rw [if_pos (show jN 1 = (-1 : Int32) from rfl)]
    exact no (by unfold okSay; rw [decide_eq_true h1, decide_eq_false (show ¬ tabOf s g < nT n by omega)]; rfl)
