/-! ===== L3: the model splits, begins, follows ===== -/
theorem q_splits {h : Hp} {n : Inn} {s : St} {t u : Nat} (H : MX h n) (hw : wI n) (C : MS h s) (W : wS n s) (ht : t < 5) (hu : u < 5) (htu : t ≠ u) : Okk (M_splits h (nI t) (nI u)) (fun r => r.1 = bI (okSpl n s t u) ∧ MS r.2 (if okSpl n s t u = true then dSpl n s t u else s) ∧ Fr pms h r.2) := by
  have no : okSpl n s t u = false → Okk (some ((nI 0), h)) (fun r : Int32 × Hp => r.1 = bI (okSpl n s t u) ∧ MS r.2 (if okSpl n s t u = true then dSpl n s t u else s) ∧ Fr pms h r.2) := by
    intro e
    rw [e]
    exact ok_mk ⟨rfl, C, fr_rfl⟩
  obtain ⟨a3, a4, a5, a6, aR⟩ := C.1 t ht
  obtain ⟨b3, b4, b5, b6, bR'⟩ := C.1 u hu
  have Wt := (W.1 t ht).1
  have Wu := (W.1 u hu).1
  have hk6 := kp_le hw t
  have hk7 := kp_le hw u
  obtain ⟨hl, huu⟩ := wB_u Wt (by omega)
  obtain ⟨hl2, huu2⟩ := wB_u Wu (by omega)
  have hlt := Wt.1
  have hlu := Wu.1
  unfold M_splits M_splits_j28
  rw [q_free H hw C ht hu, sb]
  by_cases ok0 : okJoi n s t u = true
  case neg =>
    rw [eq_false_of_ne_true ok0, if_pos (show bI false = 0 from rfl)]
    refine no ?_
    unfold okJoi at ok0
    unfold okSpl
    revert ok0
    cases decide (t < nT n) <;> cases decide (u < nT n) <;> cases decide (bS (sB s t) = nI 0) <;> cases decide (bS (sB s u) = nI 0) <;> intro ok0 <;> first | rfl | exact absurd rfl ok0
  rw [ok0, if_neg (show ¬ bI true = 0 by decide +kernel)]
  unfold okJoi at ok0
  rw [Bool.and_eq_true, Bool.and_eq_true, Bool.and_eq_true, decide_eq_true_eq, decide_eq_true_eq, decide_eq_true_eq, decide_eq_true_eq] at ok0
  obtain ⟨htn, hun, hst, hsu⟩ := ok0
  simp (disch := omega) only [KK, K1, K2, NN, bnd_eq, sb, smr, bI_ite, if_pos, if_neg, if_true, if_false, or_true, true_or, true_and, and_true, g01, lnm, a3, b3]
  by_cases h3 : bL (sB s u) = 0
  case neg =>
    rw [if_pos (show 0 < bL (sB s u) by omega)]
    exact no (by unfold okSpl; rw [decide_eq_true htn, decide_eq_true hun, decide_eq_true hst, decide_eq_true hsu, decide_eq_false h3]; rfl)
  rw [if_neg (show ¬ 0 < bL (sB s u) by omega)]
  by_cases h4 : 2 ≤ bL (sB s t)
  case neg =>
    rw [if_neg h4]
    exact no (by unfold okSpl; rw [decide_eq_true htn, decide_eq_true hun, decide_eq_true hst, decide_eq_true hsu, decide_eq_true h3, decide_eq_false h4]; rfl)
  rw [if_pos h4]
  have ok : okSpl n s t u = true := by unfold okSpl; rw [decide_eq_true htn, decide_eq_true hun, decide_eq_true hst, decide_eq_true hsu, decide_eq_true h3, decide_eq_true h4]; rfl
  rw [ok, if_pos rfl]
  generalize hd : bL (sB s t) / 2 = d
  have hd1 : d ≤ 3 := by omega
  have hd2 : 1 ≤ d := by omega
  have hd3 : d < bL (sB s t) := by omega
  unfold M_splits_l42
  refine lp_for _ d (fun k q => q.1 = nI k ∧ Fr (fun c i => 263 ≤ c ∧ c ≤ 265 ∧ 16 * u ≤ i ∧ i < 16 * u + 16) h q.2 ∧ ∀ j, j < k → q.2.1 263 (16 * u + j) = (bR (sB s t) j).1 ∧ q.2.1 264 (16 * u + j) = (bR (sB s t) j).2.1 ∧ q.2.1 265 (16 * u + j) = (bR (sB s t) j).2.2) _ ?_ ?_ 0 _ (by omega) ?_
  · rintro k ⟨q1, q2⟩ hk ⟨rfl, hF, hv⟩
    dsimp only at hF hv ⊢
    have qo : ∀ c i, ¬ (263 ≤ c ∧ c ≤ 265 ∧ 16 * u ≤ i ∧ i < 16 * u + 16) → q2.1 c i = h.1 c i := fun c i hc => hF c i hc
    unfold M_splits_b42
    simp (disch := omega) only [KK, K1, K2, NN, bnd_eq, sb, smr, bI_ite, if_pos, if_neg, if_true, if_false, or_true, true_or, true_and, and_true, g01, q_move]
    obtain ⟨c1, c2, c3⟩ := mv_at q2 t k u k
    refine ok_mk ⟨rfl, fr_tr hF ?_, ?_⟩
    · intro c i hc
      have hc' : ¬ (263 ≤ c ∧ c ≤ 265 ∧ 16 * u ≤ i ∧ i < 16 * u + 16) := hc
      exact mv_o _ _ _ _ _ (by omega)
    · intro j hj
      by_cases e : j = k
      · subst e
        rw [c1, c2, c3, qo 263 _ (by omega), qo 264 _ (by omega), qo 265 _ (by omega)]
        exact aR j (by omega)
      · rw [mv_o _ _ _ _ _ (by omega), mv_o _ _ _ _ _ (by omega), mv_o _ _ _ _ _ (by omega)]
        exact hv j (by omega)
  · rintro ⟨q1, q2⟩ ⟨rfl, hF, hv⟩
    dsimp only at hF hv ⊢
    have qo : ∀ c i, ¬ (263 ≤ c ∧ c ≤ 265 ∧ 16 * u ≤ i ∧ i < 16 * u + 16) → q2.1 c i = h.1 c i := fun c i hc => hF c i hc
    unfold M_splits_b42 M_splits_j64
    simp (disch := omega) only [KK, K1, K2, NN, bnd_eq, sb, smr, bI_ite, if_pos, if_neg, if_true, if_false, or_true, true_or, true_and, and_true, g01]
    refine okmr ?_
    unfold M_splits_l67
    refine lp_for _ (bL (sB s t)) (fun k q => d ≤ k ∧ q.1 = nI k ∧ Fr (fun c i => 263 ≤ c ∧ c ≤ 265 ∧ 16 * t ≤ i ∧ i < 16 * t + 16) q2 q.2 ∧ ∀ j, j < bL (sB s t) → q.2.1 263 (16 * t + j) = (bR (sB s t) (if j + d < k then j + d else j)).1 ∧ q.2.1 264 (16 * t + j) = (bR (sB s t) (if j + d < k then j + d else j)).2.1 ∧ q.2.1 265 (16 * t + j) = (bR (sB s t) (if j + d < k then j + d else j)).2.2) _ ?_ ?_ d _ (by omega) ?_
    · rintro k ⟨p1, p2⟩ hk ⟨hdk, rfl, gF, gv⟩
      dsimp only at gF gv ⊢
      have po : ∀ c i, ¬ (263 ≤ c ∧ c ≤ 265 ∧ 16 * t ≤ i ∧ i < 16 * t + 16) → p2.1 c i = q2.1 c i := fun c i hc => gF c i hc
      have e1 : p2.1 266 t = nI (bL (sB s t)) := by rw [po 266 t (by omega), qo 266 t (by omega), a3]
      obtain ⟨y1, y2, y3⟩ := gv k hk
      rw [if_neg (by omega)] at y1 y2 y3
      unfold M_splits_b67
      simp (disch := omega) only [KK, K1, K2, NN, bnd_eq, sb, smr, bI_ite, if_pos, if_neg, if_true, if_false, or_true, true_or, true_and, and_true, g01, lnm, e1, q_move]
      obtain ⟨c1, c2, c3⟩ := mv_at p2 t k t (k - d)
      refine ok_mk ⟨by omega, rfl, fr_tr gF ?_, ?_⟩
      · intro c i hc
        have hc' : ¬ (263 ≤ c ∧ c ≤ 265 ∧ 16 * t ≤ i ∧ i < 16 * t + 16) := hc
        exact mv_o _ _ _ _ _ (by omega)
      · intro j hj
        by_cases e : j = k - d
        · subst e
          rw [c1, c2, c3, if_pos (by omega), show k - d + d = k by omega]
          exact ⟨y1, y2, y3⟩
        · rw [mv_o _ _ _ _ _ (by omega), mv_o _ _ _ _ _ (by omega), mv_o _ _ _ _ _ (by omega)]
          rw [show (if j + d < k + 1 then j + d else j) = (if j + d < k then j + d else j) by
            by_cases h5 : j + d < k
            · rw [if_pos h5, if_pos (by omega)]
            · rw [if_neg h5, if_neg (by omega)]]
          exact gv j hj
    · rintro ⟨p1, p2⟩ ⟨hdk, rfl, gF, gv⟩
      dsimp only at gF gv ⊢
      have po : ∀ c i, ¬ (263 ≤ c ∧ c ≤ 265 ∧ 16 * t ≤ i ∧ i < 16 * t + 16) → p2.1 c i = q2.1 c i := fun c i hc => gF c i hc
      have e1 : p2.1 266 t = nI (bL (sB s t)) := by rw [po 266 t (by omega), qo 266 t (by omega), a3]
      unfold M_splits_b67 M_splits_j96
      simp (disch := omega) only [KK, K1, K2, NN, bnd_eq, sb, smr, bI_ite, if_pos, if_neg, if_true, if_false, or_true, true_or, true_and, and_true, g01, lnm, e1]
      generalize hm : wr (wr p2 266 t (nI (bL (sB s t) - d))) 266 u (nI d) = m
      have mo : ∀ c i, ¬ (c = 266 ∧ (i = t ∨ i = u)) → m.1 c i = p2.1 c i := by
        intro c i hc
        rw [← hm, wr_i, if_neg (by omega), wr_i, if_neg (by omega)]
      have mo2 : ∀ c i, ¬ ((263 ≤ c ∧ c ≤ 265 ∧ ((16 * t ≤ i ∧ i < 16 * t + 16) ∨ (16 * u ≤ i ∧ i < 16 * u + 16))) ∨ (c = 266 ∧ (i = t ∨ i = u))) → m.1 c i = h.1 c i := by
        intro c i hc
        rw [mo c i (by omega), po c i (by omega), qo c i (by omega)]
      have Bu : MB m u (bMk d (bR (sB s t)) (bU (sB s u)) (bS (sB s u)) (bW (sB s u))) := by
        refine ⟨?_, ?_, ?_, ?_, ?_⟩
        · rw [← hm]
          simp (disch := omega) only [KK, K1, K2, NN, bnd_eq, sb, smr, bI_ite, if_pos, if_neg, if_true, if_false, or_true, true_or, true_and, and_true, g01, wr_at, wr_c, wr_p, ]; rfl
        · rw [mo2 267 u (by omega), b4]; rfl
        · rw [mo2 268 u (by omega), b5]; rfl
        · rw [mo2 269 u (by omega), b6]; rfl
        · intro i hi
          have hi' : i < d := hi
          rw [mo 263 _ (by omega), mo 264 _ (by omega), mo 265 _ (by omega), po 263 _ (by omega), po 264 _ (by omega), po 265 _ (by omega)]
          exact hv i hi'
      have Hm : MX m n := mx_fr H (fun c i hc => mo2 c i (by omega))
      refine okmr (okb (q_less Hm hw hun Bu (show d ≤ 12 by omega) huu2) ?_)
      rintro ⟨r1, r2⟩ ⟨B2, F2⟩
      dsimp only at B2 F2 ⊢
      rw [← kp_at hun] at B2
      have F2o : ∀ c i, ¬ ((263 ≤ c ∧ c ≤ 265 ∧ 16 * u ≤ i ∧ i < 16 * u + 16) ∨ (266 ≤ c ∧ c ≤ 269 ∧ i = u)) → r2.1 c i = m.1 c i := fun c i hc => F2 c i hc
      generalize hz : wr (wr r2 267 t (nI 0)) 267 u (nI 0) = z
      have zo : ∀ c i, ¬ (c = 267 ∧ (i = t ∨ i = u)) → z.1 c i = r2.1 c i := by
        intro c i hc
        rw [← hz, wr_i, if_neg (by omega), wr_i, if_neg (by omega)]
      have zh : ∀ c i, ¬ ((263 ≤ c ∧ c ≤ 265 ∧ ((16 * t ≤ i ∧ i < 16 * t + 16) ∨ (16 * u ≤ i ∧ i < 16 * u + 16))) ∨ (266 ≤ c ∧ c ≤ 267 ∧ i = t) ∨ (266 ≤ c ∧ c ≤ 269 ∧ i = u)) → z.1 c i = h.1 c i := by
        intro c i hc
        rw [zo c i (by omega), F2o c i (by omega), mo2 c i (by omega)]
      refine ok_mk ⟨rfl, ⟨?_, ?_, ?_, ?_, ?_, ?_⟩, ?_⟩
      · intro v hv5
        show MB z v (up (up (sB s) t (bTz (bFg (sB s t) (bL (sB s t) / 2)))) u (bTz (bKp (bMk (bL (sB s t) / 2) (bR (sB s t)) (bU (sB s u)) (bS (sB s u)) (bW (sB s u))) (kp n u))) v)
        rw [hd]
        by_cases e : v = u
        · subst e
          rw [up_at]
          obtain ⟨c3, c4, c5, c6, cR⟩ := B2
          refine ⟨?_, ?_, ?_, ?_, ?_⟩
          · rw [zo 266 v (by omega), c3]; rfl
          · rw [← hz]
            simp (disch := omega) only [KK, K1, K2, NN, bnd_eq, sb, smr, bI_ite, if_pos, if_neg, if_true, if_false, or_true, true_or, true_and, and_true, g01, wr_at, wr_c, wr_p, ]; rfl
          · rw [zo 268 v (by omega), c5]; rfl
          · rw [zo 269 v (by omega), c6]; rfl
          · intro i hi
            rw [zo 263 _ (by omega), zo 264 _ (by omega), zo 265 _ (by omega)]
            exact cR i hi
        · rw [up_ne _ _ e]
          by_cases e2 : v = t
          · subst e2
            rw [up_at]
            refine ⟨?_, ?_, ?_, ?_, ?_⟩
            · rw [zo 266 v (by omega), F2o 266 v (by omega), ← hm]
              simp (disch := omega) only [KK, K1, K2, NN, bnd_eq, sb, smr, bI_ite, if_pos, if_neg, if_true, if_false, or_true, true_or, true_and, and_true, g01, wr_at, wr_c, wr_p, ]; rfl
            · rw [← hz]
              simp (disch := omega) only [KK, K1, K2, NN, bnd_eq, sb, smr, bI_ite, if_pos, if_neg, if_true, if_false, or_true, true_or, true_and, and_true, g01, wr_at, wr_c, wr_p, ]; rfl
            · rw [zh 268 v (by omega), a5]; rfl
            · rw [zh 269 v (by omega), a6]; rfl
            · intro i hi
              have hi' : i < bL (sB s v) - d := hi
              rw [zo 263 _ (by omega), zo 264 _ (by omega), zo 265 _ (by omega), F2o 263 _ (by omega), F2o 264 _ (by omega), F2o 265 _ (by omega), mo 263 _ (by omega), mo 264 _ (by omega), mo 265 _ (by omega)]
              have y := gv i (by omega)
              rw [if_pos (by omega)] at y
              exact y
          · rw [up_ne _ _ e2]
            have Wv := (W.1 v hv5).1
            have hk8 := kp_le hw v
            have hlv := Wv.1
            exact mb_fr (C.1 v hv5) (by omega) (fun c i hc => zh c i (by omega))
      · intro g hg
        obtain ⟨g1, g2, g3⟩ := C.2.1 g hg
        exact ⟨by rw [zh 270 g (by omega), g1]; rfl, by rw [zh 271 g (by omega), g2]; rfl, by rw [zh 273 g (by omega), g3]; rfl⟩
      · intro i hi
        rw [zh 272 i (by omega), C.2.2.1 i hi]; rfl
      · rw [zh 251 38 (by omega), C.2.2.2.1]; rfl
      · rw [zh 251 39 (by omega), C.2.2.2.2.1]; rfl
      · rw [zh 251 40 (by omega), C.2.2.2.2.2]; rfl
      · intro c i hc
        have hc' : ¬ ((c = 251 ∧ 38 ≤ i ∧ i ≤ 40) ∨ (263 ≤ c ∧ c ≤ 273)) := hc
        exact zh c i (by omega)
    · refine ⟨by omega, rfl, fr_rfl, ?_⟩
      intro j hj
      rw [if_neg (by omega), qo 263 _ (by omega), qo 264 _ (by omega), qo 265 _ (by omega)]
      exact aR j hj
  · exact ⟨rfl, fr_rfl, fun j hj => absurd hj (Nat.not_lt_zero j)⟩
/-- the model's evening, k-th of all rows -/
def ME (h : Hp) (k m : Nat) (f : Nat → Pst) : Prop := k < 8 ∧ m ≤ 40 ∧ h.1 258 (121 * k) = nI m ∧ ∀ i, i < m → h.1 258 (121 * k + (1 + 3 * i)) = (f i).1 ∧ h.1 258 (121 * k + (1 + 3 * i + 1)) = (f i).2.1 ∧ h.1 258 (121 * k + (1 + 3 * i + 2)) = (f i).2.2
theorem q_deedOf {h : Hp} {k m : Nat} {f : Nat → Pst} (E : ME h k m f) (he : h.1 251 26 = nI k) {i : Nat} (hi : i < m) : M_deedOf h (nI i) (nI 0) = some (f i).1 ∧ M_deedOf h (nI i) (nI 1) = some (f i).2.1 ∧ M_deedOf h (nI i) (nI 2) = some (f i).2.2 := by
  obtain ⟨hk, hm, h0, hR⟩ := E
  obtain ⟨e1, e2, e3⟩ := hR i hi
  unfold M_deedOf
  rw [he]
  simp (disch := omega) only [KK, K1, K2, NN, bnd_eq, sb, smr, bI_ite, if_pos, if_neg, if_true, if_false, or_true, true_or, true_and, and_true, g01, lnm]
  rw [show 121 * k + 1 + 3 * i + 0 = 121 * k + (1 + 3 * i) by omega, show 121 * k + 1 + 3 * i + 1 = 121 * k + (1 + 3 * i + 1) by omega, show 121 * k + 1 + 3 * i + 2 = 121 * k + (1 + 3 * i + 2) by omega, e1, e2, e3]
  exact ⟨rfl, rfl, rfl⟩
theorem q_deeds {h : Hp} {k m : Nat} {f : Nat → Pst} (E : ME h k m f) (he : h.1 251 26 = nI k) : M_deeds h = some (nI m) := by
  obtain ⟨hk, hm, h0, hR⟩ := E
  unfold M_deeds
  rw [he]
  simp (disch := omega) only [KK, K1, K2, NN, bnd_eq, sb, smr, bI_ite, if_pos, if_neg, if_true, if_false, or_true, true_or, true_and, and_true, g01, lnm, h0]
theorem q_does {h : Hp} {n : Inn} {s : St} {k m i : Nat} {f : Nat → Pst} (H : MX h n) (hw : wI n) (C : MS h s) (W : wS n s) (E : ME h k m f) (he : h.1 251 26 = nI k) (hi : i < m) (D : wD (f i)) : Okk (M_does h (nI i)) (fun r => r.1 = bI (okD n s (f i)) ∧ MS r.2 (if okD n s (f i) = true then doD n s (f i) else s) ∧ Fr pms h r.2) := by
  obtain ⟨e1, e2, e3⟩ := q_deedOf E he hi
  unfold M_does
  rw [show (1 : Int32) = nI 1 from rfl, show (2 : Int32) = nI 2 from rfl, show (0 : Int32) = nI 0 from rfl, e2, sb, e3, sb, e1, sb]
  have fin : ∀ {o : Option (Int32 × Hp)} {b : Bool} {s' : St}, Okk o (fun r => r.1 = bI b ∧ MS r.2 (if b = true then s' else s) ∧ Fr pms h r.2) → Okk (o.bind fun (r6, h7) => if r6 = nI 0 ∨ r6 = nI 1 then (some (r6, h7)) else none) (fun r => r.1 = bI b ∧ MS r.2 (if b = true then s' else s) ∧ Fr pms h r.2) := by
    intro o b s' hO
    refine okb hO ?_
    rintro ⟨r1, r2⟩ ⟨rfl, g2, g3⟩
    show Okk (if bI b = 0 ∨ bI b = 1 then some (bI b, r2) else none) _
    rw [gd_bI]
    exact ok_mk ⟨rfl, g2, g3⟩
  unfold okD doD
  rcases D with ⟨d1, t, ht, d2, d3, d4⟩ | ⟨d1, g, w, hg, hw10, d2, d3⟩ | d1 | ⟨d1, t, ht, d2⟩ | ⟨d1, t, u, ht, hu, htu, d2, d3⟩ | ⟨d1, t, u, ht, hu, htu, d2, d3⟩
  · rw [d1, d2, nI_clamp (by omega)]
    simp only [if_pos (show nI 0 = nI 0 from rfl)]
    exact fin (q_sits H hw C W ht d3 d4)
  · rw [d1, d2, d3, nI_clamp (show g < 2 ^ 31 by omega), nI_clamp (show w < 2 ^ 31 by omega)]
    simp only [if_neg (show ¬ nI 1 = nI 0 from ne_nI (by omega) (by omega) (by omega)), if_pos (show nI 1 = nI 1 from rfl)]
    exact fin (q_says H hw C W hg hw10)
  · rw [d1]
    simp only [if_neg (show ¬ nI 2 = nI 0 from ne_nI (by omega) (by omega) (by omega)), if_neg (show ¬ nI 2 = nI 1 from ne_nI (by omega) (by omega) (by omega)), if_pos (show nI 2 = nI 2 from rfl)]
    refine okb (q_night H hw C W) ?_
    rintro h1 ⟨C1, F1⟩
    exact ok_mk ⟨rfl, C1, F1⟩
  · rw [d1, d2, nI_clamp (by omega)]
    simp only [if_neg (show ¬ nI 3 = nI 0 from ne_nI (by omega) (by omega) (by omega)), if_neg (show ¬ nI 3 = nI 1 from ne_nI (by omega) (by omega) (by omega)), if_neg (show ¬ nI 3 = nI 2 from ne_nI (by omega) (by omega) (by omega)), if_pos (show nI 3 = (3 : Int32) from rfl), if_pos (show nI 3 = nI 3 from rfl)]
    exact fin (q_scrubs H hw C W ht)
  · rw [d1, d2, d3, nI_clamp (show t < 2 ^ 31 by omega), nI_clamp (show u < 2 ^ 31 by omega)]
    simp only [if_neg (show ¬ nI 4 = nI 0 from ne_nI (by omega) (by omega) (by omega)), if_neg (show ¬ nI 4 = nI 1 from ne_nI (by omega) (by omega) (by omega)), if_neg (show ¬ nI 4 = nI 2 from ne_nI (by omega) (by omega) (by omega)), if_neg (show ¬ nI 4 = (3 : Int32) from ne_nI (b := 3) (by omega) (by omega) (by omega)), if_neg (show ¬ nI 4 = nI 3 from ne_nI (by omega) (by omega) (by omega)), if_pos (show nI 4 = (4 : Int32) from rfl), if_pos (show nI 4 = nI 4 from rfl)]
    exact fin (q_joins H hw C W ht hu htu)
  · rw [d1, d2, d3, nI_clamp (show t < 2 ^ 31 by omega), nI_clamp (show u < 2 ^ 31 by omega)]
    simp only [if_neg (show ¬ nI 5 = nI 0 from ne_nI (by omega) (by omega) (by omega)), if_neg (show ¬ nI 5 = nI 1 from ne_nI (by omega) (by omega) (by omega)), if_neg (show ¬ nI 5 = nI 2 from ne_nI (by omega) (by omega) (by omega)), if_neg (show ¬ nI 5 = (3 : Int32) from ne_nI (b := 3) (by omega) (by omega) (by omega)), if_neg (show ¬ nI 5 = nI 3 from ne_nI (by omega) (by omega) (by omega)), if_neg (show ¬ nI 5 = (4 : Int32) from ne_nI (b := 4) (by omega) (by omega) (by omega)), if_neg (show ¬ nI 5 = nI 4 from ne_nI (by omega) (by omega) (by omega))]
    exact fin (q_splits H hw C W ht hu htu)
theorem q_mbegin {h : Hp} : Okk (M_begin h) (fun h' => MS h' s0 ∧ Fr pms h h') := by
  unfold M_begin M_begin_l2
  refine lp_for _ 5 (fun k q => q.1 = nI k ∧ Fr pms h q.2 ∧ ∀ t, t < k → q.2.1 266 t = nI 0 ∧ q.2.1 267 t = nI 0 ∧ q.2.1 268 t = nI 0 ∧ q.2.1 269 t = nI 0) _ ?_ ?_ 0 _ (by omega) ?_
  · rintro k ⟨q1, q2⟩ hk ⟨rfl, hF, hv⟩
    dsimp only at hF hv ⊢
    unfold M_begin_b2
    simp (disch := omega) only [KK, K1, K2, NN, bnd_eq, sb, smr, bI_ite, if_pos, if_neg, if_true, if_false, or_true, true_or, true_and, and_true, g01, lnm]
    refine ok_mk ⟨rfl, fr_tr (fr_tr (fr_tr (fr_tr hF (fr_wr ?_)) (fr_wr ?_)) (fr_wr ?_)) (fr_wr ?_), ?_⟩
    · exact Or.inr (by omega)
    · exact Or.inr (by omega)
    · exact Or.inr (by omega)
    · exact Or.inr (by omega)
    · intro t ht
      by_cases e : t = k
      · subst e
        simp (disch := omega) only [KK, K1, K2, NN, bnd_eq, sb, smr, bI_ite, if_pos, if_neg, if_true, if_false, or_true, true_or, true_and, and_true, g01, wr_at, wr_c, wr_p, ]
      · obtain ⟨v1, v2, v3, v4⟩ := hv t (by omega)
        simp (disch := omega) only [KK, K1, K2, NN, bnd_eq, sb, smr, bI_ite, if_pos, if_neg, if_true, if_false, or_true, true_or, true_and, and_true, g01, wr_at, wr_c, wr_p, v1, v2, v3, v4]
  · rintro ⟨q1, q2⟩ ⟨rfl, hF, hv⟩
    dsimp only at hF hv ⊢
    unfold M_begin_b2 M_begin_j41
    simp (disch := omega) only [KK, K1, K2, NN, bnd_eq, sb, smr, bI_ite, if_pos, if_neg, if_true, if_false, or_true, true_or, true_and, and_true, g01]
    refine okmr ?_
    unfold M_begin_l43
    refine lp_for _ 8 (fun k p => p.1 = nI k ∧ Fr (fun c _ => 270 ≤ c ∧ c ≤ 273) q2 p.2 ∧ ∀ g, g < k → p.2.1 270 g = nI 0 ∧ p.2.1 271 g = nI 0 ∧ p.2.1 273 g = nI 0) _ ?_ ?_ 0 _ (by omega) ?_
    · rintro k ⟨p1, p2⟩ hk ⟨rfl, gF, gv⟩
      dsimp only at gF gv ⊢
      unfold M_begin_b43
      simp (disch := omega) only [KK, K1, K2, NN, bnd_eq, sb, smr, bI_ite, if_pos, if_neg, if_true, if_false, or_true, true_or, true_and, and_true, g01, lnm]
      refine ok_mk ⟨rfl, fr_tr (fr_tr (fr_tr gF (fr_wr ?_)) (fr_wr ?_)) (fr_wr ?_), ?_⟩
      · show 270 ≤ 270 ∧ 270 ≤ 273
        omega
      · show 270 ≤ 271 ∧ 271 ≤ 273
        omega
      · show 270 ≤ 273 ∧ 273 ≤ 273
        omega
      · intro t ht
        by_cases e : t = k
        · subst e
          simp (disch := omega) only [KK, K1, K2, NN, bnd_eq, sb, smr, bI_ite, if_pos, if_neg, if_true, if_false, or_true, true_or, true_and, and_true, g01, wr_at, wr_c, wr_p, ]
        · obtain ⟨v1, v2, v3⟩ := gv t (by omega)
          simp (disch := omega) only [KK, K1, K2, NN, bnd_eq, sb, smr, bI_ite, if_pos, if_neg, if_true, if_false, or_true, true_or, true_and, and_true, g01, wr_at, wr_c, wr_p, v1, v2, v3]
    · rintro ⟨p1, p2⟩ ⟨rfl, gF, gv⟩
      dsimp only at gF gv ⊢
      unfold M_begin_b43 M_begin_j76
      simp (disch := omega) only [KK, K1, K2, NN, bnd_eq, sb, smr, bI_ite, if_pos, if_neg, if_true, if_false, or_true, true_or, true_and, and_true, g01]
      refine okmr ?_
      unfold M_begin_l78
      refine lp_for _ 64 (fun k z => z.1 = nI k ∧ Fr (fun c _ => c = 272) p2 z.2 ∧ ∀ g, g < k → z.2.1 272 g = nI 0) _ ?_ ?_ 0 _ (by omega) ?_
      · rintro k ⟨z1, z2⟩ hk ⟨rfl, zF, zv⟩
        dsimp only at zF zv ⊢
        unfold M_begin_b78
        simp (disch := omega) only [KK, K1, K2, NN, bnd_eq, sb, smr, bI_ite, if_pos, if_neg, if_true, if_false, or_true, true_or, true_and, and_true, g01, lnm]
        refine ok_mk ⟨rfl, fr_tr zF (fr_wr rfl), ?_⟩
        intro t ht
        by_cases e : t = k
        · subst e
          simp (disch := omega) only [KK, K1, K2, NN, bnd_eq, sb, smr, bI_ite, if_pos, if_neg, if_true, if_false, or_true, true_or, true_and, and_true, g01, wr_at, wr_c, wr_p, ]
        · simp (disch := omega) only [KK, K1, K2, NN, bnd_eq, sb, smr, bI_ite, if_pos, if_neg, if_true, if_false, or_true, true_or, true_and, and_true, g01, wr_at, wr_c, wr_p, zv t (by omega)]
      · rintro ⟨z1, z2⟩ ⟨rfl, zF, zv⟩
        dsimp only at zF zv ⊢
        have zo : ∀ c i, c ≠ 272 → z2.1 c i = p2.1 c i := fun c i hc => zF c i hc
        have po : ∀ c i, ¬ (270 ≤ c ∧ c ≤ 273) → p2.1 c i = q2.1 c i := fun c i hc => gF c i hc
        unfold M_begin_b78 M_begin_j97
        simp (disch := omega) only [KK, K1, K2, NN, bnd_eq, sb, smr, bI_ite, if_pos, if_neg, if_true, if_false, or_true, true_or, true_and, and_true, g01]
        generalize hm : wr (wr (wr z2 251 38 (nI 0)) 251 39 (nI 0)) 251 40 (nI 0) = m
        have mo : ∀ c i, c ≠ 251 → m.1 c i = z2.1 c i := by
          intro c i hc
          rw [← hm, wr_c _ _ _ _ hc, wr_c _ _ _ _ hc, wr_c _ _ _ _ hc]
        refine ok_mk ⟨⟨?_, ?_, ?_, ?_, ?_, ?_⟩, ?_⟩
        · intro t ht
          obtain ⟨v1, v2, v3, v4⟩ := hv t ht
          refine ⟨?_, ?_, ?_, ?_, fun i hi => absurd hi (Nat.not_lt_zero i)⟩
          · rw [mo 266 t (by omega), zo 266 t (by omega), po 266 t (by omega), v1]; rfl
          · rw [mo 267 t (by omega), zo 267 t (by omega), po 267 t (by omega), v2]; rfl
          · rw [mo 268 t (by omega), zo 268 t (by omega), po 268 t (by omega), v3]; rfl
          · rw [mo 269 t (by omega), zo 269 t (by omega), po 269 t (by omega), v4]; rfl
        · intro g hg
          obtain ⟨v1, v2, v3⟩ := gv g hg
          exact ⟨by rw [mo 270 g (by omega), zo 270 g (by omega), v1]; rfl, by rw [mo 271 g (by omega), zo 271 g (by omega), v2]; rfl, by rw [mo 273 g (by omega), zo 273 g (by omega), v3]; rfl⟩
        · intro i hi
          rw [mo 272 i (by omega), zv i hi]; rfl
        · rw [← hm]
          simp (disch := omega) only [KK, K1, K2, NN, bnd_eq, sb, smr, bI_ite, if_pos, if_neg, if_true, if_false, or_true, true_or, true_and, and_true, g01, wr_at, wr_c, wr_p, ]; rfl
        · rw [← hm]
          simp (disch := omega) only [KK, K1, K2, NN, bnd_eq, sb, smr, bI_ite, if_pos, if_neg, if_true, if_false, or_true, true_or, true_and, and_true, g01, wr_at, wr_c, wr_p, ]; rfl
        · rw [← hm]
          simp (disch := omega) only [KK, K1, K2, NN, bnd_eq, sb, smr, bI_ite, if_pos, if_neg, if_true, if_false, or_true, true_or, true_and, and_true, g01, wr_at, wr_c, wr_p, ]; rfl
        · intro c i hc
          have hc' : ¬ ((c = 251 ∧ 38 ≤ i ∧ i ≤ 40) ∨ (263 ≤ c ∧ c ≤ 273)) := hc
          have e : m.1 c i = z2.1 c i := by
            rw [← hm, wr_i, if_neg (by omega), wr_i, if_neg (by omega), wr_i, if_neg (by omega)]
          rw [e, zo c i (by omega), po c i (by omega)]
          exact hF c i hc
      · exact ⟨rfl, fr_rfl, fun j hj => absurd hj (Nat.not_lt_zero j)⟩
    · exact ⟨rfl, fr_rfl, fun j hj => absurd hj (Nat.not_lt_zero j)⟩
  · exact ⟨rfl, fr_rfl, fun j hj => absurd hj (Nat.not_lt_zero j)⟩
theorem q_play {h : Hp} {n : Inn} {k m l : Nat} {f : Nat → Pst} (H : MX h n) (hw : wI n) (E : ME h k m f) (he : h.1 251 26 = nI k) (D : ∀ i, i < m → wD (f i)) (hl : l ≤ m) : Okk (M_play h (nI l)) (fun r => r.1 = nI (pl n f l 0 s0).1 ∧ MS r.2 (pl n f l 0 s0).2 ∧ Fr pms h r.2) := by
  have hm40 := E.2.1
  unfold M_play
  refine okb q_mbegin ?_
  rintro h8 ⟨C8, F8⟩
  unfold M_play_l6
  refine lp_for _ l (fun j q => q.1 = nI j ∧ Fr pms h q.2 ∧ ∃ s, MS q.2 s ∧ wS n s ∧ pl n f l 0 s0 = pl n f (l - j) j s) _ ?_ ?_ 0 _ (by omega) ?_
  · rintro j ⟨q1, q2⟩ hj ⟨rfl, hF, s, C, W, e⟩
    dsimp only at hF C ⊢
    have qo : ∀ c i, ¬ ((c = 251 ∧ 38 ≤ i ∧ i ≤ 40) ∨ (263 ≤ c ∧ c ≤ 273)) → q2.1 c i = h.1 c i := fun c i hc => hF c i hc
    have E2 : ME q2 k m f := by
      obtain ⟨a1, a2, a3, a4⟩ := E
      refine ⟨a1, a2, by rw [qo 258 _ (by omega), a3], ?_⟩
      intro i hi
      obtain ⟨b1, b2, b3⟩ := a4 i hi
      exact ⟨by rw [qo 258 _ (by omega), b1], by rw [qo 258 _ (by omega), b2], by rw [qo 258 _ (by omega), b3]⟩
    unfold M_play_b6
    simp (disch := omega) only [KK, K1, K2, NN, bnd_eq, sb, smr, bI_ite, if_pos, if_neg, if_true, if_false, or_true, true_or, true_and, and_true, g01]
    refine okb (q_does (mx_st H hF) hw C W E2 (by rw [qo 251 26 (by omega), he]) (by omega) (D j (by omega))) ?_
    rintro ⟨r1, r2⟩ ⟨g1, g2, g3⟩
    dsimp only at g1 g2 g3 ⊢
    have FF : Fr pms h r2 := fr_tr hF g3
    rw [show l - j = (l - (j + 1)) + 1 by omega, pl_s] at e
    rw [g1]
    by_cases ok : okD n s (f j) = true
    · rw [if_pos ok] at g2 e
      rw [ok, if_neg (show ¬ bI true = nI 0 by decide +kernel)]
      exact ok_mk ⟨rfl, FF, _, g2, wS_do hw W (D j (by omega)) ok, e⟩
    · rw [if_neg ok] at g2 e
      rw [eq_false_of_ne_true ok, if_pos (show bI false = nI 0 from rfl)]
      unfold M_play_j25
      refine ok_mk ?_
      show nI j = nI (pl n f l 0 s0).1 ∧ MS r2 (pl n f l 0 s0).2 ∧ Fr pms h r2
      rw [e]
      exact ⟨rfl, g2, FF⟩
  · rintro ⟨q1, q2⟩ ⟨rfl, hF, s, C, W, e⟩
    dsimp only at hF C ⊢
    unfold M_play_b6 M_play_j25
    simp (disch := omega) only [KK, K1, K2, NN, bnd_eq, sb, smr, bI_ite, if_pos, if_neg, if_true, if_false, or_true, true_or, true_and, and_true, g01]
    refine ok_mk ?_
    show nI l = nI (pl n f l 0 s0).1 ∧ MS q2 (pl n f l 0 s0).2 ∧ Fr pms h q2
    rw [e, Nat.sub_self]
    exact ⟨rfl, C, hF⟩
  · exact ⟨rfl, F8, s0, C8, wS_0 n, rfl⟩
