/-! ===== L3: the code's other deeds, evenings ===== -/
theorem cb_row {h : Hp} {a l u : Nat} {r r' : Nat → Pst} {s w : Int32} (C : CB h a (bMk l r u s w)) (hr : ∀ i, i < l → r i = r' i) : CB h a (bMk l r' u s w) := by
  obtain ⟨c3, c4, c5, c6, cR⟩ := C
  refine ⟨c3, c4, c5, c6, ?_⟩
  intro i hi
  show _ = (r' i).1 ∧ _ = (r' i).2.1 ∧ _ = (r' i).2.2
  rw [← hr i hi]
  exact cR i hi
def dNig (n : Inn) (s : St) : St := sMk (fun t => bEn (sB s t) (sN s) (kp n t)) (sH s) (sP s) (sM s) (sD s) (sN s + nI 1) (sF s) (sJ s)
theorem q_endNight {h : Hp} {n : Inn} {s : St} (X : CX h n) (hw : wI n) (C : CS h s) (W : wS n s) : Okk (S_endNight h) (fun h' => CS h' (dNig n s) ∧ Fr pst h h') := by
  obtain ⟨l1, -⟩ := ln_st
  unfold S_endNight S_endNight_l2
  refine lp_for _ 5 (fun k q => q.1 = nI k ∧ Fr (fun c _ => 70 ≤ c ∧ c < 90) h q.2 ∧ ∀ t, t < 5 → CB q.2 (70 + 4 * t) (if t < k then bEn (sB s t) (sN s) (kp n t) else sB s t)) _ ?_ ?_ 0 _ (by omega) ?_
  · rintro k ⟨q1, q2⟩ hk1 ⟨rfl, hF, hB⟩
    dsimp only at hF hB ⊢
    have X2 : CX q2 n := cx_fr X (fun c i hc => hF c i (by show ¬ (70 ≤ c ∧ c < 90); omega))
    obtain ⟨a, ha, h6, H⟩ := X2
    have hk := H.1
    obtain ⟨e1, e2⟩ := el_st k hk1
    have Ck := hB k hk1
    rw [if_neg (by omega)] at Ck
    have Wk := (W.1 k hk1).1
    have hk6 := kp_le hw k
    obtain ⟨hl, hu⟩ := wB_u Wk (by omega)
    have hl6 := Wk.1
    have e7 : q2.1 57 7 = sN s := by rw [hF 57 7 (by show ¬ (70 ≤ 57 ∧ 57 < 90); omega), C.2.2.2.1]
    unfold S_endNight_b2
    rw [l1, show Int32.ofNat 5 = nI 5 from rfl, h6, e7]
    simp (disch := omega) only [KK, K1, K2, NN, bnd_eq, sb, smr, bI_ite, if_pos, if_neg, if_true, if_false, or_true, true_or, true_and, and_true, g01, e1, e2, q_keepsOf H hw hk1]
    refine okb (q_bEn e2 Ck (by omega) hu _ (by omega)) ?_
    rintro h1 ⟨C1, F1⟩
    refine ok_mk ⟨rfl, ?_, ?_⟩
    · refine fr_tr hF (fr_mo F1 ?_)
      intro c i hc
      have hc' : 70 + 4 * k ≤ c ∧ c < 70 + 4 * k + 4 := hc
      show 70 ≤ c ∧ c < 90
      omega
    · intro t ht
      by_cases e : t = k
      · subst e
        rw [if_pos (by omega)]
        exact C1
      · have Ct := hB t ht
        have Ct2 : CB h1 (70 + 4 * t) (if t < k then bEn (sB s t) (sN s) (kp n t) else sB s t) := cb_fr Ct (fun c i h1 h2 => pb_fr F1 i (by omega))
        by_cases h5 : t < k
        · rw [if_pos h5] at Ct2
          rw [if_pos (by omega)]
          exact Ct2
        · rw [if_neg h5] at Ct2
          rw [if_neg (by omega)]
          exact Ct2
  · rintro ⟨q1, q2⟩ ⟨rfl, hF, hB⟩
    dsimp only at hF hB ⊢
    have e7 : q2.1 57 7 = sN s := by rw [hF 57 7 (by show ¬ (70 ≤ 57 ∧ 57 < 90); omega), C.2.2.2.1]
    have ff : ∀ c i, c < 70 → q2.1 c i = h.1 c i := fun c i hc => hF c i (by show ¬ (70 ≤ c ∧ c < 90); omega)
    unfold S_endNight_b2 S_endNight_j38
    rw [l1, show Int32.ofNat 5 = nI 5 from rfl, e7]
    simp (disch := omega) only [KK, K1, K2, NN, bnd_eq, sb, smr, bI_ite, if_pos, if_neg, if_true, if_false, or_true, true_or, true_and, and_true, g01]
    refine ok_mk ⟨⟨?_, ?_, ?_, ?_, ?_, ?_⟩, ?_⟩
    · intro t ht
      have Ct := hB t ht
      rw [if_pos ht] at Ct
      exact cb_fr Ct (fun c i h1 h2 => wr_c _ _ _ _ (by omega))
    · intro g hg
      obtain ⟨g1, g2, g3⟩ := C.2.1 g hg
      refine ⟨?_, ?_, ?_⟩
      · simp (disch := omega) only [KK, K1, K2, NN, bnd_eq, sb, smr, bI_ite, if_pos, if_neg, if_true, if_false, or_true, true_or, true_and, and_true, g01, wr_at, wr_c, wr_p, ff 59 g (by omega), g1]; rfl
      · simp (disch := omega) only [KK, K1, K2, NN, bnd_eq, sb, smr, bI_ite, if_pos, if_neg, if_true, if_false, or_true, true_or, true_and, and_true, g01, wr_at, wr_c, wr_p, ff 60 g (by omega), g2]; rfl
      · simp (disch := omega) only [KK, K1, K2, NN, bnd_eq, sb, smr, bI_ite, if_pos, if_neg, if_true, if_false, or_true, true_or, true_and, and_true, g01, wr_at, wr_c, wr_p, ff 61 g (by omega), g3]; rfl
    · intro i hi
      simp (disch := omega) only [KK, K1, K2, NN, bnd_eq, sb, smr, bI_ite, if_pos, if_neg, if_true, if_false, or_true, true_or, true_and, and_true, g01, wr_at, wr_c, wr_p, ff 62 i (by omega), C.2.2.1 i hi]; rfl
    · simp (disch := omega) only [KK, K1, K2, NN, bnd_eq, sb, smr, bI_ite, if_pos, if_neg, if_true, if_false, or_true, true_or, true_and, and_true, g01, wr_at, wr_c, wr_p, ]; rfl
    · simp (disch := omega) only [KK, K1, K2, NN, bnd_eq, sb, smr, bI_ite, if_pos, if_neg, if_true, if_false, or_true, true_or, true_and, and_true, g01, wr_at, wr_c, wr_p, ff 57 8 (by omega), C.2.2.2.2.1]; rfl
    · simp (disch := omega) only [KK, K1, K2, NN, bnd_eq, sb, smr, bI_ite, if_pos, if_neg, if_true, if_false, or_true, true_or, true_and, and_true, g01, wr_at, wr_c, wr_p, ff 57 9 (by omega), C.2.2.2.2.2]; rfl
    · refine fr_tr (fr_mo hF ?_) (fr_wr (Or.inl ⟨rfl, by omega, by omega⟩))
      intro c i hc
      exact Or.inr (Or.inr hc)
  · refine ⟨rfl, fr_rfl, ?_⟩
    intro t ht
    rw [if_neg (by omega)]
    exact C.1 t ht
def okScr (n : Inn) (s : St) (t : Nat) : Bool := decide (t < nT n) && (decide (bS (sB s t) = nI 0) && decide (2 ≤ bL (sB s t)))
def dScr (s : St) (t : Nat) : St := sMk (up (sB s) t (bSc (sB s t))) (sH s) (sP s) (sM s) (sD s) (sN s) (sF s) (sJ s)
theorem q_scrub {h : Hp} {n : Inn} {s : St} {t : Nat} (X : CX h n) (hw : wI n) (C : CS h s) (W : wS n s) (ht : t < 5) : Okk (S_scrubAt h (nI t)) (fun r => r.1 = bI (okScr n s t) ∧ CS r.2 (if okScr n s t = true then dScr s t else s) ∧ Fr pst h r.2) := by
  have no : okScr n s t = false → Okk (some ((nI 0), h)) (fun r : Int32 × Hp => r.1 = bI (okScr n s t) ∧ CS r.2 (if okScr n s t = true then dScr s t else s) ∧ Fr pst h r.2) := by
    intro e
    rw [e]
    exact ok_mk ⟨rfl, C, fr_rfl⟩
  obtain ⟨e1, e2⟩ := el_st t ht
  unfold S_scrubAt S_scrubAt_j25
  by_cases htn : t < nT n
  case neg =>
    rw [q_benchAt X hw, iz_nI 0 (nT n) (by omega), decide_eq_false (by omega), if_neg (by decide), sb, if_pos rfl]
    exact no (by unfold okScr; rw [decide_eq_false htn, Bool.false_and])
  rw [q_bat X hw htn, sb, if_neg (by omega), if_pos e2]
  have Ct := C.1 t ht
  have Wt := (W.1 t ht).1
  have hk6 := kp_le hw t
  obtain ⟨hl, hu⟩ := wB_u Wt (by omega)
  rw [Ct.2.2.1]
  by_cases h1 : bS (sB s t) = nI 0
  case neg =>
    rw [if_neg (show ¬ bS (sB s t) = 0 from h1)]
    exact no (by unfold okScr; rw [decide_eq_true htn, decide_eq_false h1]; rfl)
  rw [if_pos (show bS (sB s t) = 0 from h1), Ct.1]
  by_cases h2 : 2 ≤ bL (sB s t)
  case neg =>
    rw [if_neg (show ¬ (2 : Int32) ≤ nI (bL (sB s t)) by rw [show (2 : Int32) = nI 2 from rfl, nI_leI (by omega) (by omega)]; exact h2)]
    exact no (by unfold okScr; rw [decide_eq_true htn, decide_eq_true h1, decide_eq_false h2]; rfl)
  rw [if_pos (show (2 : Int32) ≤ nI (bL (sB s t)) by rw [show (2 : Int32) = nI 2 from rfl, nI_leI (by omega) (by omega)]; exact h2)]
  have ok : okScr n s t = true := by unfold okScr; rw [decide_eq_true htn, decide_eq_true h1, decide_eq_true h2]; rfl
  rw [ok, if_pos rfl]
  refine okb (q_bSc e2 Ct hl h2 (by have := Wt.2.1; omega)) ?_
  rintro h3 ⟨C3, F3⟩
  exact ok_mk ⟨rfl, cs_up C ht F3 C3, fr_mo F3 (pb_pst ht)⟩
def bJo (x y : Bn) : Bn := bMk (bL x + bL y) (fun i => if i < bL x then bR x i else bR y (i - bL x)) (bU x) (bS x) (bW x)
def okJoi (n : Inn) (s : St) (t u : Nat) : Bool := decide (t < nT n) && (decide (u < nT n) && (decide (bS (sB s t) = nI 0) && decide (bS (sB s u) = nI 0)))
def dJoi (n : Inn) (s : St) (t u : Nat) : St := sMk (up (up (sB s) t (bKp (bJo (sB s t) (sB s u)) (kp n t))) u bCl) (sH s) (sP s) (sM s) (sD s) (sN s) (sF s) (sJ s)
theorem two_b {P : Prop} {h : Hp} {n : Inn} (X : CX h n) (hw : wI n) (s : St) {t u : Nat} (ht : t < 5) (hu : u < 5) (hno : ¬ (t < nT n ∧ u < nT n) → P) (hyes : t < nT n → u < nT n → S_benchAt h (nI t) = some (70 + 4 * t) → S_benchAt h (nI u) = some (70 + 4 * u) → P) : P := by
  by_cases h1 : t < nT n
  · by_cases h2 : u < nT n
    · exact hyes h1 h2 (q_bat X hw h1) (q_bat X hw h2)
    · exact hno (fun e => h2 e.2)
  · exact hno (fun e => h1 e.1)
theorem q_b0 {h : Hp} {n : Inn} (X : CX h n) (hw : wI n) {t : Nat} (ht : t < 5) (hn : ¬ t < nT n) : S_benchAt h (nI t) = some 0 := by
  rw [q_benchAt X hw, iz_nI 0 (nT n) (by omega), decide_eq_false (by omega), if_neg (by decide)]
theorem q_join {h : Hp} {n : Inn} {s : St} {t u : Nat} (X : CX h n) (hw : wI n) (C : CS h s) (W : wS n s) (ht : t < 5) (hu : u < 5) (htu : t ≠ u) : Okk (S_joinTo h (nI t) (nI u)) (fun r => r.1 = bI (okJoi n s t u) ∧ CS r.2 (if okJoi n s t u = true then dJoi n s t u else s) ∧ Fr pst h r.2) := by
  have no : okJoi n s t u = false → Okk (some ((nI 0), h)) (fun r : Int32 × Hp => r.1 = bI (okJoi n s t u) ∧ CS r.2 (if okJoi n s t u = true then dJoi n s t u else s) ∧ Fr pst h r.2) := by
    intro e
    rw [e]
    exact ok_mk ⟨rfl, C, fr_rfl⟩
  obtain ⟨e1, e2⟩ := el_st t ht
  obtain ⟨d1, d2⟩ := el_st u hu
  unfold S_joinTo S_joinTo_j42
  by_cases htn : t < nT n
  case neg =>
    rw [q_b0 X hw ht htn, sb]
    rw [q_benchAt X hw, sb, if_pos rfl]
    exact no (by unfold okJoi; rw [decide_eq_false htn, Bool.false_and])
  by_cases hun : u < nT n
  case neg =>
    rw [q_bat X hw htn, sb, q_b0 X hw hu hun, sb, if_neg (by omega), if_pos rfl]
    exact no (by unfold okJoi; rw [decide_eq_true htn, decide_eq_false hun]; rfl)
  rw [q_bat X hw htn, sb, q_bat X hw hun, sb, if_neg (by omega), if_neg (by omega), if_neg (by rw [nI_eq (by omega) (by omega)]; exact htu), if_pos e2]
  have Ct := C.1 t ht
  have Cu := C.1 u hu
  have Wt := (W.1 t ht).1
  have Wu := (W.1 u hu).1
  have hk6 := kp_le hw t
  have hk7 := kp_le hw u
  obtain ⟨hl, huu⟩ := wB_u Wt (by omega)
  have hlt := Wt.1
  have hlu := Wu.1
  rw [Ct.2.2.1, Cu.2.2.1]
  by_cases h1 : bS (sB s t) = nI 0
  case neg =>
    rw [if_neg (show ¬ bS (sB s t) = 0 from h1)]
    exact no (by unfold okJoi; rw [decide_eq_true htn, decide_eq_true hun, decide_eq_false h1]; rfl)
  rw [if_pos (show bS (sB s t) = 0 from h1), if_pos d2]
  by_cases h2 : bS (sB s u) = nI 0
  case neg =>
    rw [if_neg (show ¬ bS (sB s u) = 0 from h2)]
    exact no (by unfold okJoi; rw [decide_eq_true htn, decide_eq_true hun, decide_eq_true h1, decide_eq_false h2]; rfl)
  rw [if_pos (show bS (sB s u) = 0 from h2)]
  have ok : okJoi n s t u = true := by unfold okJoi; rw [decide_eq_true htn, decide_eq_true hun, decide_eq_true h1, decide_eq_true h2]; rfl
  rw [ok, if_pos rfl]
  unfold S_joinTo_l47
  refine lp_for _ (bL (sB s u)) (fun k q => q.1 = nI k ∧ Fr (pb (70 + 4 * t)) h q.2 ∧ ∃ r, (∀ i, i < bL (sB s t) + k → r i = if i < bL (sB s t) then bR (sB s t) i else bR (sB s u) (i - bL (sB s t))) ∧ CB q.2 (70 + 4 * t) (bMk (bL (sB s t) + k) r (bU (sB s t)) (bS (sB s t)) (bW (sB s t)))) _ ?_ ?_ 0 _ (by omega) ?_
  · rintro k ⟨q1, q2⟩ hk2 ⟨rfl, hF, r, hr, C2⟩
    dsimp only at hF C2 ⊢
    have D : CB q2 (70 + 4 * u) (sB s u) := cb_fr Cu (fun c i h1 h2 => pb_fr hF i (by omega))
    obtain ⟨b1, b2, b3⟩ := q_bnI d2 D (by omega) hk2
    unfold S_joinTo_b47
    rw [D.1]
    simp (disch := omega) only [KK, K1, K2, NN, bnd_eq, sb, smr, bI_ite, if_pos, if_neg, if_true, if_false, or_true, true_or, true_and, and_true, g01, b1, b2, b3]
    refine okb (q_append e2 C2 (show bL (sB s t) + k < 12 by omega) _ _ _) ?_
    rintro h3 ⟨C3, F3⟩
    refine ok_mk ⟨rfl, fr_tr hF F3, _, ?_, C3⟩
    intro i hi
    show up r (bL (sB s t) + k) _ i = _
    by_cases e : i = bL (sB s t) + k
    · subst e
      rw [up_at, if_neg (by omega), show bL (sB s t) + k - bL (sB s t) = k by omega]
    · rw [up_ne _ _ e]
      exact hr i (by omega)
  · rintro ⟨q1, q2⟩ ⟨rfl, hF, r, hr, C2⟩
    dsimp only at hF C2 ⊢
    have D : CB q2 (70 + 4 * u) (sB s u) := cb_fr Cu (fun c i h1 h2 => pb_fr hF i (by omega))
    have C2' : CB q2 (70 + 4 * t) (bJo (sB s t) (sB s u)) := cb_row C2 hr
    have X2 : CX q2 n := cx_st X (fr_mo hF (pb_pst ht))
    obtain ⟨a, ha, h6, H⟩ := X2
    have hk := H.1
    unfold S_joinTo_b47 S_joinTo_j88
    rw [D.1, h6]
    simp (disch := omega) only [KK, K1, K2, NN, bnd_eq, sb, smr, bI_ite, if_pos, if_neg, if_true, if_false, or_true, true_or, true_and, and_true, g01, q_keepsOf H hw ht]
    refine okmr (okb (q_keep e2 C2' (show bL (sB s t) + bL (sB s u) ≤ 12 by omega) huu (by omega)) ?_)
    rintro h3 ⟨C3, F3⟩
    refine okb (q_clear d2) ?_
    rintro h4 ⟨C4, F4⟩
    have A := cs_up C ht (fr_tr hF F3) C3
    have B := cs_up A hu F4 C4
    exact ok_mk ⟨rfl, B, fr_tr (fr_tr (fr_mo hF (pb_pst ht)) (fr_mo F3 (pb_pst ht))) (fr_mo F4 (pb_pst hu))⟩
  · refine ⟨rfl, fr_rfl, bR (sB s t), ?_, Ct⟩
    intro i hi
    rw [if_pos (by omega)]
def okSpl (n : Inn) (s : St) (t u : Nat) : Bool := decide (t < nT n) && (decide (u < nT n) && (decide (bS (sB s t) = nI 0) && (decide (bS (sB s u) = nI 0) && (decide (bL (sB s u) = 0) && decide (2 ≤ bL (sB s t))))))
def dSpl (n : Inn) (s : St) (t u : Nat) : St := sMk (up (up (sB s) t (bTz (bFg (sB s t) (bL (sB s t) / 2)))) u (bTz (bKp (bMk (bL (sB s t) / 2) (bR (sB s t)) (bU (sB s u)) (bS (sB s u)) (bW (sB s u))) (kp n u)))) (sH s) (sP s) (sM s) (sD s) (sN s) (sF s) (sJ s)
theorem q_tz {h : Hp} {a : Nat} {x : Bn} (C : CB h a x) : CB (wr h a 4 (nI 0)) a (bTz x) ∧ Fr (pb a) h (wr h a 4 (nI 0)) := by
  obtain ⟨c3, c4, c5, c6, cR⟩ := C
  refine ⟨⟨?_, ?_, ?_, ?_, ?_⟩, ?_⟩
  · simp (disch := omega) only [KK, K1, K2, NN, bnd_eq, sb, smr, bI_ite, if_pos, if_neg, if_true, if_false, or_true, true_or, true_and, and_true, g01, wr_at, wr_c, wr_p, c3]; rfl
  · simp (disch := omega) only [KK, K1, K2, NN, bnd_eq, sb, smr, bI_ite, if_pos, if_neg, if_true, if_false, or_true, true_or, true_and, and_true, g01, wr_at, wr_c, wr_p, ]; rfl
  · simp (disch := omega) only [KK, K1, K2, NN, bnd_eq, sb, smr, bI_ite, if_pos, if_neg, if_true, if_false, or_true, true_or, true_and, and_true, g01, wr_at, wr_c, wr_p, c5]; rfl
  · simp (disch := omega) only [KK, K1, K2, NN, bnd_eq, sb, smr, bI_ite, if_pos, if_neg, if_true, if_false, or_true, true_or, true_and, and_true, g01, wr_at, wr_c, wr_p, c6]; rfl
  · intro i hi
    simp (disch := omega) only [KK, K1, K2, NN, bnd_eq, sb, smr, bI_ite, if_pos, if_neg, if_true, if_false, or_true, true_or, true_and, and_true, g01, wr_at, wr_c, wr_p, ]
    exact cR i hi
  · exact fr_wr (show a ≤ a ∧ a < a + 4 by omega)
theorem q_split {h : Hp} {n : Inn} {s : St} {t u : Nat} (X : CX h n) (hw : wI n) (C : CS h s) (W : wS n s) (ht : t < 5) (hu : u < 5) (htu : t ≠ u) : Okk (S_splitTo h (nI t) (nI u)) (fun r => r.1 = bI (okSpl n s t u) ∧ CS r.2 (if okSpl n s t u = true then dSpl n s t u else s) ∧ Fr pst h r.2) := by
  have no : okSpl n s t u = false → Okk (some ((nI 0), h)) (fun r : Int32 × Hp => r.1 = bI (okSpl n s t u) ∧ CS r.2 (if okSpl n s t u = true then dSpl n s t u else s) ∧ Fr pst h r.2) := by
    intro e
    rw [e]
    exact ok_mk ⟨rfl, C, fr_rfl⟩
  obtain ⟨e1, e2⟩ := el_st t ht
  obtain ⟨d1, d2⟩ := el_st u hu
  unfold S_splitTo S_splitTo_j42 S_splitTo_j60
  by_cases htn : t < nT n
  case neg =>
    rw [q_b0 X hw ht htn, sb]
    rw [q_benchAt X hw, sb, if_pos rfl]
    exact no (by unfold okSpl; rw [decide_eq_false htn, Bool.false_and])
  by_cases hun : u < nT n
  case neg =>
    rw [q_bat X hw htn, sb, q_b0 X hw hu hun, sb, if_neg (by omega), if_pos rfl]
    exact no (by unfold okSpl; rw [decide_eq_true htn, decide_eq_false hun]; rfl)
  rw [q_bat X hw htn, sb, q_bat X hw hun, sb, if_neg (by omega), if_neg (by omega), if_neg (by rw [nI_eq (by omega) (by omega)]; exact htu), if_pos e2]
  have Ct := C.1 t ht
  have Cu := C.1 u hu
  have Wt := (W.1 t ht).1
  have Wu := (W.1 u hu).1
  have hk6 := kp_le hw t
  have hk7 := kp_le hw u
  obtain ⟨hl, huu⟩ := wB_u Wt (by omega)
  obtain ⟨hl2, huu2⟩ := wB_u Wu (by omega)
  have hlt := Wt.1
  have hlu := Wu.1
  rw [Ct.2.2.1, Cu.2.2.1, Ct.1, Cu.1]
  by_cases h1 : bS (sB s t) = nI 0
  case neg =>
    rw [if_neg (show ¬ bS (sB s t) = 0 from h1)]
    exact no (by unfold okSpl; rw [decide_eq_true htn, decide_eq_true hun, decide_eq_false h1]; rfl)
  rw [if_pos (show bS (sB s t) = 0 from h1), if_pos d2]
  by_cases h2 : bS (sB s u) = nI 0
  case neg =>
    rw [if_neg (show ¬ bS (sB s u) = 0 from h2)]
    exact no (by unfold okSpl; rw [decide_eq_true htn, decide_eq_true hun, decide_eq_true h1, decide_eq_false h2]; rfl)
  rw [if_pos (show bS (sB s u) = 0 from h2)]
  by_cases h3 : bL (sB s u) = 0
  case neg =>
    rw [if_pos (show (0 : Int32) < nI (bL (sB s u)) by rw [show (0 : Int32) = nI 0 from rfl, nI_ltI (by omega) (by omega)]; omega)]
    exact no (by unfold okSpl; rw [decide_eq_true htn, decide_eq_true hun, decide_eq_true h1, decide_eq_true h2, decide_eq_false h3]; rfl)
  rw [if_neg (show ¬ (0 : Int32) < nI (bL (sB s u)) by rw [show (0 : Int32) = nI 0 from rfl, nI_ltI (by omega) (by omega)]; omega)]
  by_cases h4 : 2 ≤ bL (sB s t)
  case neg =>
    rw [if_neg (show ¬ (2 : Int32) ≤ nI (bL (sB s t)) by rw [show (2 : Int32) = nI 2 from rfl, nI_leI (by omega) (by omega)]; exact h4)]
    exact no (by unfold okSpl; rw [decide_eq_true htn, decide_eq_true hun, decide_eq_true h1, decide_eq_true h2, decide_eq_true h3, decide_eq_false h4]; rfl)
  rw [if_pos (show (2 : Int32) ≤ nI (bL (sB s t)) by rw [show (2 : Int32) = nI 2 from rfl, nI_leI (by omega) (by omega)]; exact h4)]
  have ok : okSpl n s t u = true := by unfold okSpl; rw [decide_eq_true htn, decide_eq_true hun, decide_eq_true h1, decide_eq_true h2, decide_eq_true h3, decide_eq_true h4]; rfl
  rw [ok, if_pos rfl, bnd_eq, show nI (bL (sB s t)) / (2 : Int32) = nI (bL (sB s t) / 2) from pk_div (d := 2) (by omega) (by omega) (by omega)]
  unfold S_splitTo_l73
  refine lp_for _ (bL (sB s t) / 2) (fun k q => q.1 = nI k ∧ Fr (pb (70 + 4 * u)) h q.2 ∧ ∃ r, (∀ i, i < k → r i = bR (sB s t) i) ∧ CB q.2 (70 + 4 * u) (bMk k r (bU (sB s u)) (bS (sB s u)) (bW (sB s u)))) _ ?_ ?_ 0 _ (by omega) ?_
  · rintro k ⟨q1, q2⟩ hk2 ⟨rfl, hF, r, hr, C2⟩
    dsimp only at hF C2 ⊢
    have D : CB q2 (70 + 4 * t) (sB s t) := cb_fr Ct (fun c i h1 h2 => pb_fr hF i (by omega))
    obtain ⟨b1, b2, b3⟩ := q_bnI e2 D (by omega) (show k < bL (sB s t) by omega)
    unfold S_splitTo_b73
    simp (disch := omega) only [KK, K1, K2, NN, bnd_eq, sb, smr, bI_ite, if_pos, if_neg, if_true, if_false, or_true, true_or, true_and, and_true, g01, b1, b2, b3]
    refine okb (q_append d2 C2 (show k < 12 by omega) _ _ _) ?_
    rintro h3 ⟨C3, F3⟩
    refine ok_mk ⟨rfl, fr_tr hF F3, _, ?_, C3⟩
    intro i hi
    show up r k _ i = _
    by_cases e : i = k
    · subst e
      rw [up_at]
    · rw [up_ne _ _ e]
      exact hr i (by omega)
  · rintro ⟨q1, q2⟩ ⟨rfl, hF, r, hr, C2⟩
    dsimp only at hF C2 ⊢
    have D : CB q2 (70 + 4 * t) (sB s t) := cb_fr Ct (fun c i h1 h2 => pb_fr hF i (by omega))
    have C2' := cb_row C2 hr
    unfold S_splitTo_b73 S_splitTo_j109
    rw [if_pos (by rw [nI_leI (by omega) (by omega)]; omega), if_pos e2]
    refine okmr ?_
    rw [show nI (bL (sB s t) / 2) = nI (bL (sB s t) / 2) - nI 0 from (pk_sub (Nat.zero_le _)).symm]
    refine okb (q_forget e2 D (by omega) huu (bL (sB s t) / 2) 0 (by omega) (by omega) (by omega)) ?_
    rintro h5 ⟨C5, F5⟩
    rw [Nat.sub_zero] at C5
    rw [bnd_eq, if_pos d2]
    obtain ⟨C6, F6⟩ := q_tz C5
    have G6 : Fr pst h (wr h5 (70 + 4 * t) 4 (nI 0)) := fr_tr (fr_tr (fr_mo hF (pb_pst hu)) (fr_mo F5 (pb_pst ht))) (fr_mo F6 (pb_pst ht))
    have X2 : CX (wr h5 (70 + 4 * t) 4 (nI 0)) n := cx_st X G6
    obtain ⟨a, ha, h6, H⟩ := X2
    have hk := H.1
    have C7 : CB (wr h5 (70 + 4 * t) 4 (nI 0)) (70 + 4 * u) (bMk (bL (sB s t) / 2) (bR (sB s t)) (bU (sB s u)) (bS (sB s u)) (bW (sB s u))) := cb_fr C2' (fun c i h1 h2 => by rw [pb_fr F6 i (by omega), pb_fr F5 i (by omega)])
    rw [show (0 : Int32) = nI 0 from rfl, h6, nI_clamp (by omega), if_pos hk, q_keepsOf H hw hu, sb]
    refine okb (q_keep d2 C7 (show bL (sB s t) / 2 ≤ 12 by omega) (show bU (sB s u) ≤ 12 by omega) (by omega)) ?_
    rintro h8 ⟨C8, F8⟩
    rw [bnd_eq]
    obtain ⟨C9, F9⟩ := q_tz C8
    have A := cs_up C hu hF C2'
    have B := cs_up A ht (fr_tr F5 F6) C6
    have E := cs_up B hu (fr_tr F8 F9) C9
    refine ok_mk ⟨rfl, ?_, fr_tr (fr_tr G6 (fr_mo F8 (pb_pst hu))) (fr_mo F9 (pb_pst hu))⟩
    obtain ⟨z1, z2⟩ := E
    refine ⟨?_, z2⟩
    intro v hv
    have z := z1 v hv
    show CB _ (70 + 4 * v) (up (up (sB s) t _) u _ v)
    by_cases ev : v = u
    · subst ev
      rw [up_at]
      have z' : CB _ (70 + 4 * v) (up _ v _ v) := z
      rw [up_at] at z'
      exact z'
    · rw [up_ne _ _ ev]
      have z' : CB _ (70 + 4 * v) (up (up (up (sB s) u _) t _) u _ v) := z
      rw [up_ne _ _ ev] at z'
      by_cases ew : v = t
      · subst ew
        rw [up_at]
        rw [up_at] at z'
        exact z'
      · rw [up_ne _ _ ew]
        rw [up_ne _ _ ew, up_ne _ _ ev] at z'
        exact z'
  · refine ⟨rfl, fr_rfl, bR (sB s u), ?_, ?_⟩
    · intro i hi
      exact absurd hi (Nat.not_lt_zero i)
    · have e0 : bMk 0 (bR (sB s u)) (bU (sB s u)) (bS (sB s u)) (bW (sB s u)) = sB s u := by
        rw [← h3]
        rfl
      rw [e0]
      exact Cu
