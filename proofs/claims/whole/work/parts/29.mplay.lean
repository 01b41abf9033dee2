/-! ===== L3: the model's evenings ===== -/
theorem kp_at {n : Inn} {t : Nat} (h : t < nT n) : kp n t = nK n t := if_pos h
theorem q_night {h : Hp} {n : Inn} {s : St} (H : MX h n) (hw : wI n) (C : MS h s) (W : wS n s) : Okk (M_night h) (fun h' => MS h' (dNig n s) ∧ Fr pms h h') := by
  have hn := hw.1
  have ee : ∀ t, t < 5 → nT n ≤ t → bEn (sB s t) (sN s) (kp n t) = bSt (sB s t) (nI 0) (nI 0) := fun t h1 h2 => if_pos ((W.1 t h1).2 h2)
  unfold M_night M_night_l2
  refine lp_for _ (nT n) (fun k q => q.1 = nI k ∧ Fr (fun c _ => 263 ≤ c ∧ c ≤ 269) h q.2 ∧ ∀ t, t < 5 → MB q.2 t (if t < k then bEn (sB s t) (sN s) (kp n t) else sB s t)) _ ?_ ?_ 0 _ (by omega) ?_
  · rintro k ⟨q1, q2⟩ hk1 ⟨rfl, hF, hB⟩
    dsimp only at hF hB ⊢
    have qo : ∀ c i, c < 263 ∨ 269 < c → q2.1 c i = h.1 c i := fun c i hc => hF c i (by show ¬ (263 ≤ c ∧ c ≤ 269); omega)
    have X2 : MX q2 n := mx_fr H (fun c i hc => qo c i (by omega))
    obtain ⟨kk, hkk, g3, g4, g5, -⟩ := id X2
    have Bk := hB k (by omega)
    rw [if_neg (by omega)] at Bk
    have Wk := (W.1 k (by omega)).1
    have hk6 := kp_le hw k
    obtain ⟨hl, hu⟩ := wB_u Wk (by omega)
    have hl6 := Wk.1
    have e38 : q2.1 251 38 = sN s := by rw [qo 251 38 (by omega), C.2.2.2.1]
    have fin : ∀ h1 : Hp, MB h1 k (bEn (sB s k) (sN s) (kp n k)) → Fr (pm k) q2 h1 → Okk (M_night_j24 (nI k) h1) (Sum.elim (fun q => q.1 = nI (k + 1) ∧ Fr (fun c _ => 263 ≤ c ∧ c ≤ 269) h q.2 ∧ ∀ t, t < 5 → MB q.2 t (if t < k + 1 then bEn (sB s t) (sN s) (kp n t) else sB s t)) (fun h' => MS h' (dNig n s) ∧ Fr pms h h')) := by
      intro h1 B1 F1
      unfold M_night_j24
      simp (disch := omega) only [KK, K1, K2, NN, bnd_eq, sb, smr, bI_ite, if_pos, if_neg, if_true, if_false, or_true, true_or, true_and, and_true, g01]
      refine ok_mk ⟨rfl, fr_tr hF (fr_mo F1 ?_), ?_⟩
      · intro c i hc
        have hc' : (263 ≤ c ∧ c ≤ 265 ∧ 16 * k ≤ i ∧ i < 16 * k + 16) ∨ (266 ≤ c ∧ c ≤ 269 ∧ i = k) := hc
        show 263 ≤ c ∧ c ≤ 269
        omega
      · intro t ht
        by_cases e : t = k
        · subst e
          rw [if_pos (by omega)]
          exact B1
        · have Bt := hB t ht
          have Wt := (W.1 t ht).1
          have hk7 := kp_le hw t
          by_cases h5 : t < k
          · rw [if_pos h5] at Bt
            rw [if_pos (by omega)]
            have hlen := (wB_en (sN s) Wt).1
            exact mb_fr Bt (by omega) (fun c i hc => pm_fr F1 (by omega))
          · rw [if_neg h5] at Bt
            rw [if_neg (by omega)]
            have hlen := Wt.1
            exact mb_fr Bt (by omega) (fun c i hc => pm_fr F1 (by omega))
    unfold M_night_b2
    rw [g4]
    simp (disch := omega) only [KK, K1, K2, NN, bnd_eq, sb, smr, bI_ite, if_pos, if_neg, if_true, if_false, or_true, true_or, true_and, and_true, g01, lnm, Bk.2.2.1]
    by_cases hs : bS (sB s k) = nI 0
    · rw [if_pos hs]
      refine fin q2 ?_ fr_rfl
      have e1 : bEn (sB s k) (sN s) (kp n k) = bSt (sB s k) (nI 0) (nI 0) := if_pos hs
      rw [e1]
      obtain ⟨b3, b4, b5, b6, bR'⟩ := Bk
      exact ⟨b3, b4, by rw [b5, hs]; rfl, by rw [b6, Wk.2.2.2.2.1 hs]; rfl, bR'⟩
    · rw [if_neg hs]
      refine okb (q_becomes X2 hw hk1 Bk (by omega) hu) ?_
      rintro h1 ⟨B1, F1⟩
      refine fin h1 ?_ F1
      rw [e38] at B1
      have e1 : bEn (sB s k) (sN s) (kp n k) = bSt (bKp (bAp (sB s k) (bS (sB s k), bW (sB s k), sN s)) (kp n k)) (nI 0) (nI 0) := if_neg hs
      rw [e1, kp_at hk1]
      exact B1
  · rintro ⟨q1, q2⟩ ⟨rfl, hF, hB⟩
    dsimp only at hF hB ⊢
    have qo : ∀ c i, c < 263 ∨ 269 < c → q2.1 c i = h.1 c i := fun c i hc => hF c i (by show ¬ (263 ≤ c ∧ c ≤ 269); omega)
    have X2 : MX q2 n := mx_fr H (fun c i hc => qo c i (by omega))
    obtain ⟨kk, hkk, g3, g4, g5, -⟩ := id X2
    have e38 : q2.1 251 38 = sN s := by rw [qo 251 38 (by omega), C.2.2.2.1]
    unfold M_night_b2 M_night_j30
    rw [g4, e38]
    simp (disch := omega) only [KK, K1, K2, NN, bnd_eq, sb, smr, bI_ite, if_pos, if_neg, if_true, if_false, or_true, true_or, true_and, and_true, g01]
    refine ok_mk ⟨⟨?_, ?_, ?_, ?_, ?_, ?_⟩, ?_⟩
    · intro t ht
      have Bt := hB t ht
      have Wt := (W.1 t ht).1
      have hk7 := kp_le hw t
      have hlen := (wB_en (sN s) Wt).1
      have Bt2 : MB q2 t (bEn (sB s t) (sN s) (kp n t)) := by
        by_cases h5 : t < nT n
        · rw [if_pos h5] at Bt
          exact Bt
        · rw [if_neg h5] at Bt
          have hs := (W.1 t ht).2 (by omega)
          rw [ee t ht (by omega)]
          obtain ⟨b3, b4, b5, b6, bR'⟩ := Bt
          exact ⟨b3, b4, by rw [b5, hs]; rfl, by rw [b6, Wt.2.2.2.2.1 hs]; rfl, bR'⟩
      exact mb_fr Bt2 (show bL (bEn (sB s t) (sN s) (kp n t)) ≤ 16 by omega) (fun c i hc => wr_c _ _ _ _ (by omega))
    · intro g hg
      obtain ⟨g1, g2, g3⟩ := C.2.1 g hg
      refine ⟨?_, ?_, ?_⟩
      · simp (disch := omega) only [KK, K1, K2, NN, bnd_eq, sb, smr, bI_ite, if_pos, if_neg, if_true, if_false, or_true, true_or, true_and, and_true, g01, wr_at, wr_c, wr_p, qo 270 g (by omega), g1]; rfl
      · simp (disch := omega) only [KK, K1, K2, NN, bnd_eq, sb, smr, bI_ite, if_pos, if_neg, if_true, if_false, or_true, true_or, true_and, and_true, g01, wr_at, wr_c, wr_p, qo 271 g (by omega), g2]; rfl
      · simp (disch := omega) only [KK, K1, K2, NN, bnd_eq, sb, smr, bI_ite, if_pos, if_neg, if_true, if_false, or_true, true_or, true_and, and_true, g01, wr_at, wr_c, wr_p, qo 273 g (by omega), g3]; rfl
    · intro i hi
      simp (disch := omega) only [KK, K1, K2, NN, bnd_eq, sb, smr, bI_ite, if_pos, if_neg, if_true, if_false, or_true, true_or, true_and, and_true, g01, wr_at, wr_c, wr_p, qo 272 i (by omega), C.2.2.1 i hi]; rfl
    · simp (disch := omega) only [KK, K1, K2, NN, bnd_eq, sb, smr, bI_ite, if_pos, if_neg, if_true, if_false, or_true, true_or, true_and, and_true, g01, wr_at, wr_c, wr_p, ]; rfl
    · simp (disch := omega) only [KK, K1, K2, NN, bnd_eq, sb, smr, bI_ite, if_pos, if_neg, if_true, if_false, or_true, true_or, true_and, and_true, g01, wr_at, wr_c, wr_p, qo 251 39 (by omega), C.2.2.2.2.1]; rfl
    · simp (disch := omega) only [KK, K1, K2, NN, bnd_eq, sb, smr, bI_ite, if_pos, if_neg, if_true, if_false, or_true, true_or, true_and, and_true, g01, wr_at, wr_c, wr_p, qo 251 40 (by omega), C.2.2.2.2.2]; rfl
    · refine fr_tr (fr_mo hF ?_) (fr_wr (Or.inl ⟨rfl, by omega, by omega⟩))
      intro c i hc
      have hc' : 263 ≤ c ∧ c ≤ 269 := hc
      exact Or.inr (by omega)
  · refine ⟨rfl, fr_rfl, ?_⟩
    intro t ht
    rw [if_neg (by omega)]
    exact C.1 t ht
theorem q_scrubs {h : Hp} {n : Inn} {s : St} {t : Nat} (H : MX h n) (hw : wI n) (C : MS h s) (W : wS n s) (ht : t < 5) : Okk (M_scrubs h (nI t)) (fun r => r.1 = bI (okScr n s t) ∧ MS r.2 (if okScr n s t = true then dScr s t else s) ∧ Fr pms h r.2) := by
  have no : okScr n s t = false → Okk (some ((nI 0), h)) (fun r : Int32 × Hp => r.1 = bI (okScr n s t) ∧ MS r.2 (if okScr n s t = true then dScr s t else s) ∧ Fr pms h r.2) := by
    intro e
    rw [e]
    exact ok_mk ⟨rfl, C, fr_rfl⟩
  unfold M_scrubs M_scrubs_j27
  rw [q_isTable H hw, sb, iz_nI 0 (nT n) (by omega)]
  by_cases htn : t < nT n
  case neg =>
    rw [decide_eq_false (by omega), if_pos (show bI false = 0 from rfl)]
    exact no (by unfold okScr; rw [decide_eq_false htn, Bool.false_and])
  rw [decide_eq_true (by omega), if_neg (show ¬ bI true = 0 by decide +kernel)]
  obtain ⟨h3, h4, h5, h6, hR⟩ := C.1 t ht
  have Wt := (W.1 t ht).1
  have hk6 := kp_le hw t
  obtain ⟨hl, hu⟩ := wB_u Wt (by omega)
  have hL := Wt.1
  have hU := Wt.2.1
  simp (disch := omega) only [KK, K1, K2, NN, bnd_eq, sb, smr, bI_ite, if_pos, if_neg, if_true, if_false, or_true, true_or, true_and, and_true, g01, lnm, h5, h3]
  by_cases h1 : bS (sB s t) = nI 0
  case neg =>
    rw [if_neg h1]
    exact no (by unfold okScr; rw [decide_eq_true htn, decide_eq_false h1]; rfl)
  rw [if_pos h1]
  by_cases h2 : 2 ≤ bL (sB s t)
  case neg =>
    rw [if_neg h2]
    exact no (by unfold okScr; rw [decide_eq_true htn, decide_eq_true h1, decide_eq_false h2]; rfl)
  rw [if_pos h2]
  have ok : okScr n s t = true := by unfold okScr; rw [decide_eq_true htn, decide_eq_true h1, decide_eq_true h2]; rfl
  rw [ok, if_pos rfl]
  simp (disch := omega) only [KK, K1, K2, NN, bnd_eq, sb, smr, bI_ite, if_pos, if_neg, if_true, if_false, or_true, true_or, true_and, and_true, g01, lnm, q_move]
  have e21 : bL (sB s t) - 2 + 1 = bL (sB s t) - 1 := by omega
  rw [e21]
  generalize hm : mv h t (bL (sB s t) - 1) t (bL (sB s t) - 2) = m
  have Fm : Fr (pm t) h m := by rw [← hm]; exact mv_pm (by omega)
  have m3 : m.1 266 t = nI (bL (sB s t)) := by rw [← hm, mv_o _ _ _ _ _ (by omega), h3]
  have m4 : m.1 267 t = nI (bU (sB s t)) := by rw [← hm, mv_o _ _ _ _ _ (by omega), h4]
  have m5 : m.1 268 t = bS (sB s t) := by rw [← hm, mv_o _ _ _ _ _ (by omega), h5]
  have m6 : m.1 269 t = bW (sB s t) := by rw [← hm, mv_o _ _ _ _ _ (by omega), h6]
  have mR : ∀ i, i < bL (sB s t) - 1 → m.1 263 (16 * t + i) = (up (bR (sB s t)) (bL (sB s t) - 2) (bR (sB s t) (bL (sB s t) - 1)) i).1 ∧ m.1 264 (16 * t + i) = (up (bR (sB s t)) (bL (sB s t) - 2) (bR (sB s t) (bL (sB s t) - 1)) i).2.1 ∧ m.1 265 (16 * t + i) = (up (bR (sB s t)) (bL (sB s t) - 2) (bR (sB s t) (bL (sB s t) - 1)) i).2.2 := by
    intro i hi
    rw [← hm]
    by_cases e : i = bL (sB s t) - 2
    · subst e
      rw [up_at]
      obtain ⟨a1, a2, a3⟩ := mv_at h t (bL (sB s t) - 1) t (bL (sB s t) - 2)
      rw [a1, a2, a3]
      exact hR _ (by omega)
    · rw [up_ne _ _ e, mv_o _ _ _ _ _ (by omega), mv_o _ _ _ _ _ (by omega), mv_o _ _ _ _ _ (by omega)]
      exact hR i (by omega)
  simp (disch := omega) only [KK, K1, K2, NN, bnd_eq, sb, smr, bI_ite, if_pos, if_neg, if_true, if_false, or_true, true_or, true_and, and_true, g01, wr_at, wr_c, wr_p, lnm, m3, m4]
  have last : ∀ (m2 : Hp) (v : Nat), MB m2 t (bMk (bL (sB s t) - 1) (up (bR (sB s t)) (bL (sB s t) - 2) (bR (sB s t) (bL (sB s t) - 1))) v (bS (sB s t)) (bW (sB s t))) → Fr (pm t) h m2 → v = (if (if bU (sB s t) = bL (sB s t) - 1 then bL (sB s t) - 2 else bU (sB s t)) < bL (sB s t) - 1 then (if bU (sB s t) = bL (sB s t) - 1 then bL (sB s t) - 2 else bU (sB s t)) else 0) → MS m2 (dScr s t) ∧ Fr pms h m2 := by
    intro m2 v B2 F2 hv
    subst hv
    exact ⟨ms_b hw W C F2 B2 ht, fr_mo F2 pm_pms⟩
  unfold M_scrubs_j80 M_scrubs_j112
  have sub0 : nI (bU (sB s t)) - nI 0 = nI (bU (sB s t)) := pk_sub (Nat.zero_le _)
  by_cases hub : bU (sB s t) = bL (sB s t) - 1
  · rw [if_neg (show ¬ bU (sB s t) ≤ bL (sB s t) - 2 by omega)]
    simp (disch := omega) only [KK, K1, K2, NN, bnd_eq, sb, smr, bI_ite, if_pos, if_neg, if_true, if_false, or_true, true_or, true_and, and_true, g01, wr_at, wr_c, wr_p, lnm, m3, m4]
    refine ok_mk ⟨rfl, last _ (bL (sB s t) - 2) ⟨?_, ?_, ?_, ?_, ?_⟩ (fr_tr (fr_tr (fr_tr Fm (fr_wr (Or.inr ⟨by omega, by omega, rfl⟩))) (fr_wr (Or.inr ⟨by omega, by omega, rfl⟩))) (fr_wr (Or.inr ⟨by omega, by omega, rfl⟩))) ?_⟩
    · simp (disch := omega) only [KK, K1, K2, NN, bnd_eq, sb, smr, bI_ite, if_pos, if_neg, if_true, if_false, or_true, true_or, true_and, and_true, g01, wr_at, wr_c, wr_p, ]; rfl
    · show _ = nI (bL (sB s t) - 2)
      simp (disch := omega) only [KK, K1, K2, NN, bnd_eq, sb, smr, bI_ite, if_pos, if_neg, if_true, if_false, or_true, true_or, true_and, and_true, g01, wr_at, wr_c, wr_p, ]
      rw [show bU (sB s t) - 1 = bL (sB s t) - 2 by omega]
    · simp (disch := omega) only [KK, K1, K2, NN, bnd_eq, sb, smr, bI_ite, if_pos, if_neg, if_true, if_false, or_true, true_or, true_and, and_true, g01, wr_at, wr_c, wr_p, m5]; rfl
    · simp (disch := omega) only [KK, K1, K2, NN, bnd_eq, sb, smr, bI_ite, if_pos, if_neg, if_true, if_false, or_true, true_or, true_and, and_true, g01, wr_at, wr_c, wr_p, m6]; rfl
    · intro i hi
      simp (disch := omega) only [KK, K1, K2, NN, bnd_eq, sb, smr, bI_ite, if_pos, if_neg, if_true, if_false, or_true, true_or, true_and, and_true, g01, wr_at, wr_c, wr_p, ]
      exact mR i hi
    · rw [if_pos hub, if_pos (by omega)]
  · rw [if_pos (show bU (sB s t) ≤ bL (sB s t) - 2 by omega)]
    simp (disch := omega) only [KK, K1, K2, NN, bnd_eq, sb, smr, bI_ite, if_pos, if_neg, if_true, if_false, or_true, true_or, true_and, and_true, g01, wr_at, wr_c, wr_p, lnm, m3, m4, sub0]
    refine ok_mk ⟨rfl, last _ (bU (sB s t)) ⟨?_, ?_, ?_, ?_, ?_⟩ (fr_tr (fr_tr (fr_tr Fm (fr_wr (Or.inr ⟨by omega, by omega, rfl⟩))) (fr_wr (Or.inr ⟨by omega, by omega, rfl⟩))) (fr_wr (Or.inr ⟨by omega, by omega, rfl⟩))) ?_⟩
    · simp (disch := omega) only [KK, K1, K2, NN, bnd_eq, sb, smr, bI_ite, if_pos, if_neg, if_true, if_false, or_true, true_or, true_and, and_true, g01, wr_at, wr_c, wr_p, ]; rfl
    · show _ = nI (bU (sB s t))
      simp (disch := omega) only [KK, K1, K2, NN, bnd_eq, sb, smr, bI_ite, if_pos, if_neg, if_true, if_false, or_true, true_or, true_and, and_true, g01, wr_at, wr_c, wr_p, ]
    · simp (disch := omega) only [KK, K1, K2, NN, bnd_eq, sb, smr, bI_ite, if_pos, if_neg, if_true, if_false, or_true, true_or, true_and, and_true, g01, wr_at, wr_c, wr_p, m5]; rfl
    · simp (disch := omega) only [KK, K1, K2, NN, bnd_eq, sb, smr, bI_ite, if_pos, if_neg, if_true, if_false, or_true, true_or, true_and, and_true, g01, wr_at, wr_c, wr_p, m6]; rfl
    · intro i hi
      simp (disch := omega) only [KK, K1, K2, NN, bnd_eq, sb, smr, bI_ite, if_pos, if_neg, if_true, if_false, or_true, true_or, true_and, and_true, g01, wr_at, wr_c, wr_p, ]
      exact mR i hi
    · rw [if_neg hub, if_pos (by omega)]
theorem q_free {h : Hp} {n : Inn} {s : St} {t u : Nat} (H : MX h n) (hw : wI n) (C : MS h s) (ht : t < 5) (hu : u < 5) : M_areFree h (nI t) (nI u) = some (bI (okJoi n s t u)) := by
  unfold M_areFree M_areFree_j38 M_areFree_j39 okJoi
  rw [q_isTable H hw, sb, iz_nI 0 (nT n) (by omega), q_isTable H hw, sb, iz_nI 0 (nT n) (by omega)]
  have e1 := (C.1 t ht).2.2.1
  have e2 := (C.1 u hu).2.2.1
  simp (disch := omega) only [KK, K1, K2, NN, bnd_eq, sb, smr, bI_ite, if_pos, if_neg, if_true, if_false, or_true, true_or, true_and, and_true, g01, lnm, e1, e2]
  by_cases h1 : t < nT n
  · rw [decide_eq_true (show 0 ≤ t ∧ t < 0 + nT n by omega), decide_eq_true h1]
    by_cases h2 : u < nT n
    · rw [decide_eq_true (show 0 ≤ u ∧ u < 0 + nT n by omega), decide_eq_true h2]
      by_cases h3 : bS (sB s t) = nI 0
      · by_cases h4 : bS (sB s u) = nI 0
        · rw [if_pos rfl, if_pos rfl, if_pos h3, if_pos h4, decide_eq_true h3, decide_eq_true h4]; rfl
        · rw [if_pos rfl, if_pos rfl, if_pos h3, if_neg h4, decide_eq_true h3, decide_eq_false h4]; rfl
      · rw [if_pos rfl, if_pos rfl, if_neg h3, decide_eq_false h3]; rfl
    · rw [decide_eq_false (show ¬ (0 ≤ u ∧ u < 0 + nT n) by omega), decide_eq_false h2]; rfl
  · rw [decide_eq_false (show ¬ (0 ≤ t ∧ t < 0 + nT n) by omega), decide_eq_false h1]; rfl
theorem q_joins {h : Hp} {n : Inn} {s : St} {t u : Nat} (H : MX h n) (hw : wI n) (C : MS h s) (W : wS n s) (ht : t < 5) (hu : u < 5) (htu : t ≠ u) : Okk (M_joins h (nI t) (nI u)) (fun r => r.1 = bI (okJoi n s t u) ∧ MS r.2 (if okJoi n s t u = true then dJoi n s t u else s) ∧ Fr pms h r.2) := by
  unfold M_joins
  rw [q_free H hw C ht hu, sb]
  by_cases ok : okJoi n s t u = true
  case neg =>
    rw [eq_false_of_ne_true ok, if_pos (show bI false = 0 from rfl)]
    exact ok_mk ⟨rfl, C, fr_rfl⟩
  rw [ok, if_neg (show ¬ bI true = 0 by decide +kernel), if_pos rfl]
  unfold okJoi at ok
  rw [Bool.and_eq_true, Bool.and_eq_true, Bool.and_eq_true, decide_eq_true_eq, decide_eq_true_eq, decide_eq_true_eq, decide_eq_true_eq] at ok
  obtain ⟨htn, hun, hst, hsu⟩ := ok
  obtain ⟨a3, a4, a5, a6, aR⟩ := C.1 t ht
  obtain ⟨b3, b4, b5, b6, bR'⟩ := C.1 u hu
  have Wt := (W.1 t ht).1
  have Wu := (W.1 u hu).1
  have hk6 := kp_le hw t
  have hk7 := kp_le hw u
  obtain ⟨hl, huu⟩ := wB_u Wt (by omega)
  have hlt := Wt.1
  have hlu := Wu.1
  unfold M_joins_l13
  refine lp_for _ (bL (sB s u)) (fun k q => q.1 = nI k ∧ Fr (fun c i => 263 ≤ c ∧ c ≤ 265 ∧ 16 * t + bL (sB s t) ≤ i ∧ i < 16 * t + 16) h q.2 ∧ ∀ j, j < k → q.2.1 263 (16 * t + (bL (sB s t) + j)) = (bR (sB s u) j).1 ∧ q.2.1 264 (16 * t + (bL (sB s t) + j)) = (bR (sB s u) j).2.1 ∧ q.2.1 265 (16 * t + (bL (sB s t) + j)) = (bR (sB s u) j).2.2) _ ?_ ?_ 0 _ (by omega) ?_
  · rintro k ⟨q1, q2⟩ hk ⟨rfl, hF, hv⟩
    dsimp only at hF hv ⊢
    have qo : ∀ c i, ¬ (263 ≤ c ∧ c ≤ 265 ∧ 16 * t + bL (sB s t) ≤ i ∧ i < 16 * t + 16) → q2.1 c i = h.1 c i := fun c i hc => hF c i hc
    have e1 : q2.1 266 u = nI (bL (sB s u)) := by rw [qo 266 u (by omega), b3]
    have e2 : q2.1 266 t = nI (bL (sB s t)) := by rw [qo 266 t (by omega), a3]
    unfold M_joins_b13
    simp (disch := omega) only [KK, K1, K2, NN, bnd_eq, sb, smr, bI_ite, if_pos, if_neg, if_true, if_false, or_true, true_or, true_and, and_true, g01, lnm, e1, e2, q_move]
    obtain ⟨c1, c2, c3⟩ := mv_at q2 u k t (bL (sB s t) + k)
    refine ok_mk ⟨rfl, fr_tr hF ?_, ?_⟩
    · intro c i hc
      have hc' : ¬ (263 ≤ c ∧ c ≤ 265 ∧ 16 * t + bL (sB s t) ≤ i ∧ i < 16 * t + 16) := hc
      exact mv_o _ _ _ _ _ (by omega)
    · intro j hj
      by_cases e : j = k
      · subst e
        rw [c1, c2, c3, qo 263 _ (by omega), qo 264 _ (by omega), qo 265 _ (by omega)]
        exact bR' j (by omega)
      · rw [mv_o _ _ _ _ _ (by omega), mv_o _ _ _ _ _ (by omega), mv_o _ _ _ _ _ (by omega)]
        exact hv j (by omega)
  · rintro ⟨q1, q2⟩ ⟨rfl, hF, hv⟩
    dsimp only at hF hv ⊢
    have qo : ∀ c i, ¬ (263 ≤ c ∧ c ≤ 265 ∧ 16 * t + bL (sB s t) ≤ i ∧ i < 16 * t + 16) → q2.1 c i = h.1 c i := fun c i hc => hF c i hc
    have e1 : q2.1 266 u = nI (bL (sB s u)) := by rw [qo 266 u (by omega), b3]
    have e2 : q2.1 266 t = nI (bL (sB s t)) := by rw [qo 266 t (by omega), a3]
    unfold M_joins_b13 M_joins_j44
    simp (disch := omega) only [KK, K1, K2, NN, bnd_eq, sb, smr, bI_ite, if_pos, if_neg, if_true, if_false, or_true, true_or, true_and, and_true, g01, lnm, e1, e2]
    generalize hm : wr (wr (wr q2 266 t (nI (bL (sB s t) + bL (sB s u)))) 266 u (nI 0)) 267 u (nI 0) = m
    have Fm : Fr (fun c i => (263 ≤ c ∧ c ≤ 265 ∧ 16 * t + bL (sB s t) ≤ i ∧ i < 16 * t + 16) ∨ (c = 266 ∧ i = t) ∨ ((c = 266 ∨ c = 267) ∧ i = u)) h m := by
      rw [← hm]
      exact fr_tr (fr_tr (fr_tr (fr_mo hF (fun c i hc => Or.inl hc)) (fr_wr (Or.inr (Or.inl ⟨rfl, rfl⟩)))) (fr_wr (Or.inr (Or.inr ⟨Or.inl rfl, rfl⟩)))) (fr_wr (Or.inr (Or.inr ⟨Or.inr rfl, rfl⟩)))
    have mo : ∀ c i, ¬ ((263 ≤ c ∧ c ≤ 265 ∧ 16 * t + bL (sB s t) ≤ i ∧ i < 16 * t + 16) ∨ (c = 266 ∧ i = t) ∨ ((c = 266 ∨ c = 267) ∧ i = u)) → m.1 c i = h.1 c i := fun c i hc => Fm c i hc
    have mR : ∀ c i, c < 266 → m.1 c i = q2.1 c i := by
      intro c i hc
      rw [← hm, wr_c _ _ _ _ (by omega), wr_c _ _ _ _ (by omega), wr_c _ _ _ _ (by omega)]
    have Bt : MB m t (bJo (sB s t) (sB s u)) := by
      refine ⟨?_, ?_, ?_, ?_, ?_⟩
      · rw [← hm]
        simp (disch := omega) only [KK, K1, K2, NN, bnd_eq, sb, smr, bI_ite, if_pos, if_neg, if_true, if_false, or_true, true_or, true_and, and_true, g01, wr_at, wr_c, wr_p, ]; rfl
      · rw [mo 267 t (by omega), a4]; rfl
      · rw [mo 268 t (by omega), a5]; rfl
      · rw [mo 269 t (by omega), a6]; rfl
      · intro i hi
        have hi' : i < bL (sB s t) + bL (sB s u) := hi
        show _ = (if i < bL (sB s t) then bR (sB s t) i else bR (sB s u) (i - bL (sB s t))).1 ∧ _ = (if i < bL (sB s t) then bR (sB s t) i else bR (sB s u) (i - bL (sB s t))).2.1 ∧ _ = (if i < bL (sB s t) then bR (sB s t) i else bR (sB s u) (i - bL (sB s t))).2.2
        by_cases e : i < bL (sB s t)
        · rw [if_pos e, mo 263 _ (by omega), mo 264 _ (by omega), mo 265 _ (by omega)]
          exact aR i e
        · rw [if_neg e, mR 263 _ (by omega), mR 264 _ (by omega), mR 265 _ (by omega)]
          have z := hv (i - bL (sB s t)) (by omega)
          rw [show bL (sB s t) + (i - bL (sB s t)) = i by omega] at z
          exact z
    have Hm : MX m n := mx_fr H (fun c i hc => mo c i (by omega))
    refine okmr (okb (q_less Hm hw htn Bt (show bL (sB s t) + bL (sB s u) ≤ 12 by omega) huu) ?_)
    rintro ⟨r1, r2⟩ ⟨B2, F2⟩
    dsimp only at B2 F2 ⊢
    have F2o : ∀ c i, ¬ ((263 ≤ c ∧ c ≤ 265 ∧ 16 * t ≤ i ∧ i < 16 * t + 16) ∨ (266 ≤ c ∧ c ≤ 269 ∧ i = t)) → r2.1 c i = m.1 c i := fun c i hc => F2 c i hc
    rw [← kp_at htn] at B2
    refine ok_mk ⟨rfl, ⟨?_, ?_, ?_, ?_, ?_, ?_⟩, ?_⟩
    · intro v hv5
      show MB r2 v (up (up (sB s) t (bKp (bJo (sB s t) (sB s u)) (kp n t))) u bCl v)
      by_cases e : v = u
      · subst e
        rw [up_at]
        refine ⟨?_, ?_, ?_, ?_, fun i hi => absurd hi (Nat.not_lt_zero i)⟩
        · rw [F2o 266 v (by omega), ← hm]
          simp (disch := omega) only [KK, K1, K2, NN, bnd_eq, sb, smr, bI_ite, if_pos, if_neg, if_true, if_false, or_true, true_or, true_and, and_true, g01, wr_at, wr_c, wr_p, ]; rfl
        · rw [F2o 267 v (by omega), ← hm]
          simp (disch := omega) only [KK, K1, K2, NN, bnd_eq, sb, smr, bI_ite, if_pos, if_neg, if_true, if_false, or_true, true_or, true_and, and_true, g01, wr_at, wr_c, wr_p, ]; rfl
        · rw [F2o 268 v (by omega), mo 268 v (by omega), b5, hsu]; rfl
        · rw [F2o 269 v (by omega), mo 269 v (by omega), b6, Wu.2.2.2.2.1 hsu]; rfl
      · rw [up_ne _ _ e]
        by_cases e2 : v = t
        · subst e2
          rw [up_at]
          exact B2
        · rw [up_ne _ _ e2]
          have Wv := (W.1 v hv5).1
          have hk8 := kp_le hw v
          have hlv := Wv.1
          refine mb_fr (C.1 v hv5) (by omega) (fun c i hc => ?_)
          rw [F2o c i (by omega), mo c i (by omega)]
    · intro g hg
      obtain ⟨g1, g2, g3⟩ := C.2.1 g hg
      exact ⟨by rw [F2o 270 g (by omega), mo 270 g (by omega), g1]; rfl, by rw [F2o 271 g (by omega), mo 271 g (by omega), g2]; rfl, by rw [F2o 273 g (by omega), mo 273 g (by omega), g3]; rfl⟩
    · intro i hi
      rw [F2o 272 i (by omega), mo 272 i (by omega), C.2.2.1 i hi]; rfl
    · rw [F2o 251 38 (by omega), mo 251 38 (by omega), C.2.2.2.1]; rfl
    · rw [F2o 251 39 (by omega), mo 251 39 (by omega), C.2.2.2.2.1]; rfl
    · rw [F2o 251 40 (by omega), mo 251 40 (by omega), C.2.2.2.2.2]; rfl
    · intro c i hc
      have hc' : ¬ ((c = 251 ∧ 38 ≤ i ∧ i ≤ 40) ∨ (263 ≤ c ∧ c ≤ 273)) := hc
      rw [F2o c i (by omega), mo c i (by omega)]
  · exact ⟨rfl, fr_rfl, fun j hj => absurd hj (Nat.not_lt_zero j)⟩
