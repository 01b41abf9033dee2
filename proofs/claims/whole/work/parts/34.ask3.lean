/-! ===== L3: ghosts, gossip ===== -/
theorem sm_cg {K : Option (Int32 × Hp)} {M M' : Hp → Option (Int32 × Hp)} (h : Sm K M) (e : ∀ h1, M' h1 = M h1) : Sm K M' := okw h (fun r hr => by rw [e]; exact hr)
theorem sm_re {h : Hp} (I : Inv h) (x1 x2 x3 : Int32) {fK : Nat × Hp → Option (Int32 × Hp)} {fM : Int32 × Hp → Option (Int32 × Hp)} (v0 : Int32) (k0 : ∀ h1, fK (0, h1) = some (v0, h1)) (m0 : ∀ h1, fM (nI 0, h1) = some (v0, h1)) (hy : ∀ n s h1, wI n → wS n s → CX h1 n → CS h1 s → Inv h1 → ∃ v h1', fK (57, h1) = some (v, h1') ∧ Tl h1 h1' ∧ ∀ h2, Inv h2 → MX h2 n → MS h2 s → Again n s x3 h2 → ∃ h2', fM (nI 1, h2) = some (v, h2') ∧ Tl h2 h2') : Sm ((K_reach h x1 x2 x3).bind fK) (fun h1 => bnd (wr h1 251 0 (0 : Int32)) fun h2 => (M_layState h2 x1 x2 x3).bind fM) := by
  refine sm_reach I x1 x2 x3 v0 k0 m0 ?_
  intro n s h1 hw W X C I1
  obtain ⟨v, h1', e1, e2, e3⟩ := hy n s h1 hw W X C I1
  rw [e1]
  refine ok_mk ⟨e2, fun h2 I2 X2 C2 A2 => ?_⟩
  obtain ⟨h2', f1, f2⟩ := e3 h2 I2 X2 C2 A2
  rw [f1]
  exact ok_mk ⟨rfl, f2⟩
/-- what neither looks at the state for -/
theorem sm_no {h : Hp} (I : Inv h) (x1 x2 x3 : Int32) {fK : Nat × Hp → Option (Int32 × Hp)} {M : Hp → Option (Int32 × Hp)} (v0 : Int32) (k0 : ∀ h1, fK (0, h1) = some (v0, h1)) (k1 : ∀ n s h1, wI n → wS n s → CX h1 n → CS h1 s → ∃ h1', fK (57, h1) = some (v0, h1') ∧ Tl h1 h1') (m0 : ∀ h1, M h1 = some (v0, wr h1 251 0 (nI 0))) : Sm ((K_reach h x1 x2 x3).bind fK) M := by
  refine okb (k_reach I x1 x2 x3) ?_
  rintro ⟨r1, r2⟩ ⟨i1, i2, i3⟩
  dsimp only at i1 i2 i3
  rcases i3 with e | ⟨e, n, s, hw, W, X, C⟩
  · subst e
    rw [k0]
    refine ok_mk ?_
    rw [m0]
    exact ok_mk ⟨rfl, inv_fr i1 (tl_wr (by omega))⟩
  · subst e
    obtain ⟨h1', e1, e2⟩ := k1 n s r2 hw W X C
    rw [e1]
    refine ok_mk ?_
    rw [m0]
    exact ok_mk ⟨rfl, inv_fr (inv_fr i1 e2) (tl_wr (by omega))⟩
/-- in how many pasts of the first tables one is -/
def pO (s : St) (g : Nat) : Nat → Nat
  | 0 => 0
  | t + 1 => pO s g t + cT (fun k => bt (bR (sB s t) k).1 g) (bL (sB s t))
theorem pO_le {n : Inn} {s : St} (hw : wI n) (W : wS n s) (g : Nat) : ∀ t, t ≤ 5 → pO s g t ≤ 6 * t
  | 0, _ => Nat.le_refl _
  | t + 1, ht => by
    have h1 := pO_le hw W g t (by omega)
    have h2 := cT_le (fun k => bt (bR (sB s t) k).1 g) (bL (sB s t))
    have h3 := (W.1 t (by omega)).1.1
    have h4 := kp_le hw t
    show pO s g t + cT (fun k => bt (bR (sB s t) k).1 g) (bL (sB s t)) ≤ _
    omega
theorem q_pastsOf {h : Hp} {n : Inn} {s : St} (X : CX h n) (hw : wI n) (C : CS h s) (W : wS n s) {g : Nat} (hg : g < 31) : S_pastsOf h (nI g) = some (nI (pO s g (nT n))) := by
  obtain ⟨a, ha, h6, H, hk, h5, hgg⟩ := cx_g X
  have hT := hw.1
  obtain ⟨l1, -⟩ := ln_st
  apply ok_to
  unfold S_pastsOf S_pastsOf_l4
  refine lp_for _ (nT n) (fun t q => q = (nI (pO s g t), nI t)) _ ?_ ?_ 0 _ (by omega) rfl
  · rintro t q ht rfl
    have hp := pO_le hw W g t (by omega)
    have hL := (W.1 t (by omega)).1.1
    have hk6 := kp_le hw t
    obtain ⟨e1, e2⟩ := el_st t (by omega)
    have Ct := C.1 t (by omega)
    unfold S_pastsOf_b4 S_pastsOf_l27
    rw [l1, show Int32.ofNat 5 = nI 5 from rfl]
    simp (disch := omega) only [KK, K1, K2, NN, bnd_eq, sb, smr, bI_ite, if_pos, if_neg, if_true, if_false, or_true, true_or, true_and, and_true, g01, h6, hk, h5]
    refine lp_for _ (bL (sB s t)) (fun k q => q = (nI (pO s g t + cT (fun k => bt (bR (sB s t) k).1 g) k), nI k)) _ ?_ ?_ 0 _ (by omega) rfl
    · rintro k q hk1 rfl
      have hc := cT_le (fun k => bt (bR (sB s t) k).1 g) k
      unfold S_pastsOf_b27 S_pastsOf_j65
      simp (disch := omega) only [KK, K1, K2, NN, bnd_eq, sb, smr, bI_ite, if_pos, if_neg, if_true, if_false, or_true, true_or, true_and, and_true, g01, e1, e2, l1, Ct.1, (q_bnI e2 Ct (show bL (sB s t) ≤ 12 by omega) hk1).1, q_isIn (bR (sB s t) k).1 hg]
      show Okk _ (Sum.elim (fun q => q = (nI (pO s g t + (cT (fun k => bt (bR (sB s t) k).1 g) k + (if bt (bR (sB s t) k).1 g = true then 1 else 0))), nI (k + 1))) _)
      by_cases hb : bt (bR (sB s t) k).1 g = true
      · rw [if_pos hb, if_pos hb]
        exact ok_mk rfl
      · rw [if_neg hb, if_neg hb]
        exact ok_mk rfl
    · rintro q rfl
      unfold S_pastsOf_b27 S_pastsOf_j73
      simp (disch := omega) only [KK, K1, K2, NN, bnd_eq, sb, smr, bI_ite, if_pos, if_neg, if_true, if_false, or_true, true_or, true_and, and_true, g01, e1, e2, l1, Ct.1]
      exact ⟨_, rfl, rfl⟩
  · rintro q rfl
    unfold S_pastsOf_b4 S_pastsOf_j79
    simp (disch := omega) only [KK, K1, K2, NN, bnd_eq, sb, smr, bI_ite, if_pos, if_neg, if_true, if_false, or_true, true_or, true_and, and_true, g01, h6, hk, h5]
    exact ⟨_, rfl, rfl⟩
theorem q_mpasts {h : Hp} {n : Inn} {s : St} (X : MX h n) (hw : wI n) (C : MS h s) (W : wS n s) {g : Nat} (hg : g < 31) : M_pastsOf h (nI g) = some (nI (pO s g (nT n))) := by
  have hT := hw.1
  have h4 := (mx_g X).1
  apply ok_to
  unfold M_pastsOf M_pastsOf_l4
  refine lp_for _ (nT n) (fun t q => q = (nI (pO s g t), nI t)) _ ?_ ?_ 0 _ (by omega) rfl
  · rintro t q ht rfl
    have hp := pO_le hw W g t (by omega)
    have hL := (W.1 t (by omega)).1.1
    have hk6 := kp_le hw t
    have Ct := C.1 t (by omega)
    unfold M_pastsOf_b4 M_pastsOf_l15
    simp (disch := omega) only [KK, K1, K2, NN, bnd_eq, sb, smr, bI_ite, if_pos, if_neg, if_true, if_false, or_true, true_or, true_and, and_true, g01, h4]
    refine lp_for _ (bL (sB s t)) (fun k q => q = (nI (pO s g t + cT (fun k => bt (bR (sB s t) k).1 g) k), nI k)) _ ?_ ?_ 0 _ (by omega) rfl
    · rintro k q hk1 rfl
      have hc := cT_le (fun k => bt (bR (sB s t) k).1 g) k
      unfold M_pastsOf_b15 M_pastsOf_j51
      simp (disch := omega) only [KK, K1, K2, NN, bnd_eq, sb, smr, bI_ite, if_pos, if_neg, if_true, if_false, or_true, true_or, true_and, and_true, g01, lnm, Ct.1, (Ct.2.2.2.2 k hk1).1, q_has (bR (sB s t) k).1 (show g < 32 by omega)]
      show Okk _ (Sum.elim (fun q => q = (nI (pO s g t + (cT (fun k => bt (bR (sB s t) k).1 g) k + (if bt (bR (sB s t) k).1 g = true then 1 else 0))), nI (k + 1))) _)
      by_cases hb : bt (bR (sB s t) k).1 g = true
      · rw [if_pos hb, if_pos hb]
        exact ok_mk rfl
      · rw [if_neg hb, if_neg hb]
        exact ok_mk rfl
    · rintro q rfl
      unfold M_pastsOf_b15 M_pastsOf_j59
      simp (disch := omega) only [KK, K1, K2, NN, bnd_eq, sb, smr, bI_ite, if_pos, if_neg, if_true, if_false, or_true, true_or, true_and, and_true, g01, lnm, Ct.1]
      exact ⟨_, rfl, rfl⟩
  · rintro q rfl
    unfold M_pastsOf_b4 M_pastsOf_j65
    simp (disch := omega) only [KK, K1, K2, NN, bnd_eq, sb, smr, bI_ite, if_pos, if_neg, if_true, if_false, or_true, true_or, true_and, and_true, g01, h4]
    exact ⟨_, rfl, rfl⟩
/-- the first of the greatest, none (8) while all are 0 -/
def mSS (p : Nat → Nat) : Nat → Nat × Nat
  | 0 => (8, 0)
  | k + 1 => if p k ≤ (mSS p k).2 then mSS p k else (k, p k)
/-- the first of the greatest, from 0 on -/
def mGG (p : Nat → Nat) : Nat → Nat
  | 0 => 0
  | k + 1 => if p k ≤ p (mGG p k) then mGG p k else k
theorem mGG_lt (p : Nat → Nat) : ∀ k, mGG p (k + 1) ≤ k
  | 0 => by
    show (if p 0 ≤ p 0 then 0 else 0) ≤ 0
    split <;> omega
  | k + 1 => by
    have := mGG_lt p k
    show (if p (k + 1) ≤ p (mGG p (k + 1)) then mGG p (k + 1) else k + 1) ≤ k + 1
    split <;> omega
theorem mSG (p : Nat → Nat) : ∀ k, (mSS p (k + 1) = (8, 0) ∧ (∀ i, i < k + 1 → p i = 0)) ∨ (mSS p (k + 1) = (mGG p (k + 1), p (mGG p (k + 1))) ∧ 0 < p (mGG p (k + 1)))
  | 0 => by
    show ((if p 0 ≤ 0 then (8, 0) else (0, p 0)) = (8, 0) ∧ (∀ i, i < 0 + 1 → p i = 0)) ∨ ((if p 0 ≤ 0 then (8, 0) else (0, p 0)) = (mGG p 1, p (mGG p 1)) ∧ 0 < p (mGG p 1))
    have e : mGG p 1 = 0 := by
      show (if p 0 ≤ p 0 then 0 else 0) = 0
      split <;> rfl
    rw [e]
    by_cases h : p 0 ≤ 0
    · rw [if_pos h]
      refine Or.inl ⟨rfl, ?_⟩
      intro i hi
      have : i = 0 := by omega
      subst this
      omega
    · rw [if_neg h]
      exact Or.inr ⟨rfl, by omega⟩
  | k + 1 => by
    have ih := mSG p k
    show ((if p (k + 1) ≤ (mSS p (k + 1)).2 then mSS p (k + 1) else (k + 1, p (k + 1))) = (8, 0) ∧ _) ∨ ((if p (k + 1) ≤ (mSS p (k + 1)).2 then mSS p (k + 1) else (k + 1, p (k + 1))) = ((if p (k + 1) ≤ p (mGG p (k + 1)) then mGG p (k + 1) else k + 1), p (if p (k + 1) ≤ p (mGG p (k + 1)) then mGG p (k + 1) else k + 1)) ∧ 0 < p (if p (k + 1) ≤ p (mGG p (k + 1)) then mGG p (k + 1) else k + 1))
    rcases ih with ⟨e, z⟩ | ⟨e, z⟩
    · rw [e]
      have hlt := mGG_lt p k
      have z0 := z (mGG p (k + 1)) (by omega)
      by_cases h : p (k + 1) ≤ 0
      · rw [if_pos (show p (k + 1) ≤ ((8, 0) : Nat × Nat).2 from h)]
        refine Or.inl ⟨rfl, ?_⟩
        intro i hi
        by_cases h2 : i = k + 1
        · subst h2
          omega
        · exact z i (by omega)
      · rw [if_neg (show ¬ p (k + 1) ≤ ((8, 0) : Nat × Nat).2 from h), if_neg (by omega)]
        exact Or.inr ⟨rfl, by omega⟩
    · rw [e]
      by_cases h : p (k + 1) ≤ p (mGG p (k + 1))
      · rw [if_pos h, if_pos h]
        exact Or.inr ⟨rfl, z⟩
      · rw [if_neg h, if_neg h]
        exact Or.inr ⟨rfl, by omega⟩
/-- as mSS, but the first one counts in any case (5: none yet) -/
def mCC (p : Nat → Nat) : Nat → Nat
  | 0 => 5
  | k + 1 => if mCC p k = 5 then k else if p k ≤ p (mCC p k) then mCC p k else k
theorem mCG (p : Nat → Nat) : ∀ k, k < 5 → mCC p (k + 1) = mGG p (k + 1)
  | 0, _ => by
    show (if (5 : Nat) = 5 then 0 else _) = if p 0 ≤ p 0 then 0 else 0
    rw [if_pos rfl]
    split <;> rfl
  | k + 1, hk => by
    have ih := mCG p k (by omega)
    have hlt := mGG_lt p k
    show (if mCC p (k + 1) = 5 then k + 1 else if p (k + 1) ≤ p (mCC p (k + 1)) then mCC p (k + 1) else k + 1) = if p (k + 1) ≤ p (mGG p (k + 1)) then mGG p (k + 1) else k + 1
    rw [ih, if_neg (by omega)]
def crd (s : St) (t : Nat) : Nat := pc (bA (sB s t))
theorem bA_lo {n : Inn} {s : St} (hw : wI n) (W : wS n s) {t : Nat} (ht : t < 5) : lo (nG n) (bA (sB s t)) := lo_oT _ (fun i hi => ((W.1 t ht).1.2.2.2.2.2 i hi).1)
theorem q_crowd {h : Hp} {n : Inn} {s : St} (X : CX h n) (hw : wI n) (C : CS h s) (W : wS n s) {t : Nat} (ht : t < nT n) : S_crowdAt h (nI t) = some (nI (crd s t)) := by
  have hT := hw.1
  have hG := hw.2.2.1
  obtain ⟨e1, e2⟩ := el_st t (by omega)
  have hL := (W.1 t (by omega)).1.1
  have hk6 := kp_le hw t
  unfold S_crowdAt S_crowdAt_j21
  simp (disch := omega) only [KK, K1, K2, NN, bnd_eq, sb, smr, bI_ite, if_pos, if_neg, if_true, if_false, or_true, true_or, true_and, and_true, g01, q_bat X hw ht, e2, q_allGuests e2 (C.1 t (by omega)) (show bL (sB s t) ≤ 12 by omega), q_bits (lo_mo (bA_lo hw W (show t < 5 by omega)) (show nG n ≤ 10 by omega))]
  rfl
theorem q_mcrowd {h : Hp} {n : Inn} {s : St} (X : MX h n) (hw : wI n) (C : MS h s) (W : wS n s) {t : Nat} (ht : t < 5) : M_crowdOf h (nI t) = some (bA (sB s t)) := by
  have hL := (W.1 t (by omega)).1.1
  have hk6 := kp_le hw t
  have Ct := C.1 t (by omega)
  apply ok_to
  unfold M_crowdOf M_crowdOf_l4
  refine lp_for _ (bL (sB s t)) (fun k q => q = (oT (fun k => (bR (sB s t) k).1) k, nI k)) _ ?_ ?_ 0 _ (by omega) rfl
  · rintro k q hk1 rfl
    unfold M_crowdOf_b4
    simp (disch := omega) only [KK, K1, K2, NN, bnd_eq, sb, smr, bI_ite, if_pos, if_neg, if_true, if_false, or_true, true_or, true_and, and_true, g01, lnm, Ct.1, (Ct.2.2.2.2 k hk1).1]
    exact ok_mk rfl
  · rintro q rfl
    unfold M_crowdOf_b4 M_crowdOf_j34
    simp (disch := omega) only [KK, K1, K2, NN, bnd_eq, sb, smr, bI_ite, if_pos, if_neg, if_true, if_false, or_true, true_or, true_and, and_true, g01, lnm, Ct.1]
    exact ⟨_, rfl, rfl⟩
theorem q_mostSeen {h : Hp} {n : Inn} {s : St} (X : CX h n) (hw : wI n) (C : CS h s) (W : wS n s) : S_mostSeen h = some (vN (mSS (fun g => pO s g (nT n)) (nG n)).1) := by
  obtain ⟨a, ha, h6, H, hk, h5, hgg⟩ := cx_g X
  have hT := hw.1
  have hG := hw.2.2.1
  have hp := fun g => pO_le hw W g (nT n) hT
  apply ok_to
  unfold S_mostSeen S_mostSeen_l6
  refine lp_for _ (nG n) (fun k q => q = (vN (mSS (fun g => pO s g (nT n)) k).1, nI (mSS (fun g => pO s g (nT n)) k).2, nI k) ∧ (mSS (fun g => pO s g (nT n)) k).2 ≤ 30) _ ?_ ?_ 0 _ (by omega) ⟨rfl, Nat.zero_le _⟩
  · rintro k q hk1 ⟨rfl, hb⟩
    have hpk := hp k
    unfold S_mostSeen_b6 S_mostSeen_j35
    simp (disch := omega) only [KK, K1, K2, NN, bnd_eq, sb, smr, bI_ite, if_pos, if_neg, if_true, if_false, or_true, true_or, true_and, and_true, g01, h6, hk, hgg, q_pastsOf X hw C W (show k < 31 by omega)]
    show Okk _ (Sum.elim (fun q => q = (vN (if pO s k (nT n) ≤ (mSS (fun g => pO s g (nT n)) k).2 then mSS (fun g => pO s g (nT n)) k else (k, pO s k (nT n))).1, nI (if pO s k (nT n) ≤ (mSS (fun g => pO s g (nT n)) k).2 then mSS (fun g => pO s g (nT n)) k else (k, pO s k (nT n))).2, nI (k + 1)) ∧ (if pO s k (nT n) ≤ (mSS (fun g => pO s g (nT n)) k).2 then mSS (fun g => pO s g (nT n)) k else (k, pO s k (nT n))).2 ≤ 30) _)
    by_cases hc : pO s k (nT n) ≤ (mSS (fun g => pO s g (nT n)) k).2
    · rw [if_pos hc, if_pos hc]
      exact ok_mk ⟨rfl, hb⟩
    · rw [if_neg hc, if_neg hc]
      refine ok_mk ⟨?_, ?_⟩
      · show _ = (vN k, _, _)
        rw [show vN k = nI k from if_neg (by omega)]
      · show pO s k (nT n) ≤ 30
        omega
  · rintro q ⟨rfl, hb⟩
    unfold S_mostSeen_b6 S_mostSeen_j41
    simp (disch := omega) only [KK, K1, K2, NN, bnd_eq, sb, smr, bI_ite, if_pos, if_neg, if_true, if_false, or_true, true_or, true_and, and_true, g01, h6, hk, hgg]
    exact ⟨_, rfl, rfl⟩
def vT (b : Nat) : Int32 := if b = 5 then jN 1 else nI b
theorem mCC_lt (p : Nat → Nat) : ∀ k, k ≤ 5 → mCC p k < k ∨ mCC p k = 5
  | 0, _ => Or.inr rfl
  | k + 1, hk => by
    have := mCG p k (by omega)
    have h2 := mGG_lt p k
    omega
theorem q_mostCr {h : Hp} {n : Inn} {s : St} (X : CX h n) (hw : wI n) (C : CS h s) (W : wS n s) : S_mostCrowded h = some (vT (mCC (crd s) (nT n))) := by
  obtain ⟨a, ha, h6, H, hk, h5, hgg⟩ := cx_g X
  have hT := hw.1
  apply ok_to
  unfold S_mostCrowded S_mostCrowded_l4
  refine lp_for _ (nT n) (fun k q => q = (vT (mCC (crd s) k), nI k)) _ ?_ ?_ 0 _ (by omega) rfl
  · rintro k q hk1 rfl
    have hlt := mCC_lt (crd s) k (by omega)
    have p1 := pc_le (bA (sB s k))
    have p2 := pc_le (bA (sB s (mCC (crd s) k)))
    have d1 : crd s k = pc (bA (sB s k)) := rfl
    have d2 : crd s (mCC (crd s) k) = pc (bA (sB s (mCC (crd s) k))) := rfl
    unfold S_mostCrowded_b4 S_mostCrowded_j33 S_mostCrowded_j35
    simp (disch := omega) only [KK, K1, K2, NN, bnd_eq, sb, smr, bI_ite, if_pos, if_neg, if_true, if_false, or_true, true_or, true_and, and_true, g01, h6, hk, h5]
    show Okk _ (Sum.elim (fun q => q = (vT (if mCC (crd s) k = 5 then k else if crd s k ≤ crd s (mCC (crd s) k) then mCC (crd s) k else k), nI (k + 1))) _)
    by_cases hc : mCC (crd s) k = 5
    · rw [if_pos hc, hc, if_pos (show vT 5 = jN 1 from rfl)]
      refine ok_mk ?_
      show _ = _
      rw [show vT k = nI k from if_neg (by omega)]
    · rw [if_neg hc, show vT (mCC (crd s) k) = nI (mCC (crd s) k) from if_neg hc]
      simp (disch := omega) only [KK, K1, K2, NN, bnd_eq, sb, smr, bI_ite, if_pos, if_neg, if_true, if_false, or_true, true_or, true_and, and_true, g01, NJ, q_crowd X hw C W hk1, q_crowd X hw C W (show mCC (crd s) k < nT n by omega)]
      by_cases h3 : crd s k ≤ crd s (mCC (crd s) k)
      · rw [if_pos h3, if_pos h3]
        refine ok_mk ?_
        show _ = _
        rw [show vT (mCC (crd s) k) = nI (mCC (crd s) k) from if_neg hc]
      · rw [if_neg h3, if_neg h3]
        refine ok_mk ?_
        show _ = _
        rw [show vT k = nI k from if_neg (by omega)]
  · rintro q rfl
    unfold S_mostCrowded_b4 S_mostCrowded_j41
    simp (disch := omega) only [KK, K1, K2, NN, bnd_eq, sb, smr, bI_ite, if_pos, if_neg, if_true, if_false, or_true, true_or, true_and, and_true, g01, h6, hk, h5]
    exact ⟨_, rfl, rfl⟩
/-- how many pasts at all -/
def aP (s : St) : Nat → Nat
  | 0 => 0
  | t + 1 => aP s t + bL (sB s t)
theorem aP_le {n : Inn} {s : St} (hw : wI n) (W : wS n s) : ∀ t, t ≤ 5 → aP s t ≤ 6 * t
  | 0, _ => Nat.le_refl _
  | t + 1, ht => by
    have h1 := aP_le hw W t (by omega)
    have h3 := (W.1 t (by omega)).1.1
    have h4 := kp_le hw t
    show aP s t + bL (sB s t) ≤ _
    omega
theorem q_allPasts {h : Hp} {n : Inn} {s : St} (X : MX h n) (hw : wI n) (C : MS h s) (W : wS n s) : M_allPasts h = some (nI (aP s (nT n))) := by
  have hT := hw.1
  have h4 := (mx_g X).1
  apply ok_to
  unfold M_allPasts M_allPasts_l4
  refine lp_for _ (nT n) (fun t q => q = (nI (aP s t), nI t)) _ ?_ ?_ 0 _ (by omega) rfl
  · rintro t q ht rfl
    unfold M_allPasts_b4
    simp (disch := omega) only [KK, K1, K2, NN, bnd_eq, sb, smr, bI_ite, if_pos, if_neg, if_true, if_false, or_true, true_or, true_and, and_true, g01, h4, lnm, (C.1 t (by omega)).1]
    exact ok_mk rfl
  · rintro q rfl
    unfold M_allPasts_b4 M_allPasts_j27
    simp (disch := omega) only [KK, K1, K2, NN, bnd_eq, sb, smr, bI_ite, if_pos, if_neg, if_true, if_false, or_true, true_or, true_and, and_true, g01, h4]
    exact ⟨_, rfl, rfl⟩
theorem aP_0 {s : St} {g : Nat} : ∀ t, aP s t = 0 → pO s g t = 0
  | 0, _ => rfl
  | t + 1, h => by
    have h' : aP s t + bL (sB s t) = 0 := h
    show pO s g t + cT (fun k => bt (bR (sB s t) k).1 g) (bL (sB s t)) = 0
    rw [aP_0 t (by omega), show bL (sB s t) = 0 by omega]
    rfl
theorem cT_pos {p : Nat → Bool} {i : Nat} : ∀ m, i < m → p i = true → 0 < cT p m
  | 0, h, _ => absurd h (Nat.not_lt_zero i)
  | m + 1, h, hp => by
    rw [cT_s]
    by_cases e : i = m
    · subst e
      rw [if_pos hp]
      omega
    · have := cT_pos m (by omega) hp
      omega
theorem aP_1 {n : Inn} {s : St} (hw : wI n) (W : wS n s) : ∀ t, t ≤ 5 → 0 < aP s t → ∃ g, g < nG n ∧ 0 < pO s g t
  | 0, _, h => absurd h (Nat.lt_irrefl 0)
  | t + 1, ht, h => by
    have h' : 0 < aP s t + bL (sB s t) := h
    by_cases h1 : 0 < aP s t
    · obtain ⟨g, hg, h2⟩ := aP_1 hw W t (by omega) h1
      refine ⟨g, hg, ?_⟩
      show 0 < pO s g t + cT (fun k => bt (bR (sB s t) k).1 g) (bL (sB s t))
      omega
    · obtain ⟨r1, r2, -⟩ := (W.1 t (by omega)).1.2.2.2.2.2 0 (by omega)
      have hG := hw.2.2.1
      have hf := lo_ne r1 (by omega) r2
      refine ⟨fF (bt (bR (sB s t) 0).1) (nG n), hf, ?_⟩
      have hb := fF_at _ _ hf
      have := cT_pos (p := fun k => bt (bR (sB s t) k).1 (fF (bt (bR (sB s t) 0).1) (nG n))) (i := 0) (bL (sB s t)) (by omega) hb
      show 0 < pO s _ t + cT (fun k => bt (bR (sB s t) k).1 _) (bL (sB s t))
      omega
theorem t_ghosts {h : Hp} (I : Inv h) (x1 x2 x3 x4 : Int32) : Sm (K_ghosts h x1 x2 x3 x4) (fun h1 => M_ghosts h1 x1 x2 x3 x4) := by
  by_cases b : iz x4 0 4 = true
  case neg =>
    unfold K_ghosts
    have nv : ∀ i, i < 4 → ¬ x4 = nI i := by
      rintro i hi rfl
      rw [iz_nI 0 4 (by omega), decide_eq_true_eq] at b
      omega
    refine sm_no I x1 x2 x3 (jN 2) (fun h1 => rfl) ?_ ?_
    · intro n s h1 hw W X C
      refine ⟨h1, ?_, tl_rfl⟩
      dsimp only
      rw [if_neg (show ¬ (57 : Nat) = 0 by omega), if_pos (show (57 : Nat) = 57 from rfl), q_mostSeen X hw C W, sb, q_mostCr X hw C W, sb]
      simp (disch := omega) only [KK, K1, K2, NN, bnd_eq, sb, smr, bI_ite, if_pos, if_neg, if_true, if_false, or_true, true_or, true_and, and_true, g01, NJ, q_isOf, inT, iz_nI, decide_eq_true_eq, Nat.add_sub_cancel_left, lnm, nv 0 (by omega), nv 1 (by omega), nv 2 (by omega), nv 3 (by omega)]
    · intro h1
      unfold M_ghosts M_ghosts_j25
      rw [bnd_eq, show (0 : Int32) = nI 0 from rfl, show (3 : Int32) = nI 3 from rfl, q_in x4 (by omega) (by omega), sb, bI_ite, show 3 + 1 - 0 = 4 from rfl, if_neg b]
      rfl
  obtain ⟨w, hw4, -, rfl⟩ := iz_0 b
  have em : ∀ h1, M_ghosts h1 x1 x2 x3 (nI w) = bnd (wr h1 251 0 (0 : Int32)) fun h22 => (M_layState h22 x1 x2 x3).bind fun (r25, h26) => if r25 = 0 then ((M_ghosts_j25 h26)) else ((M_ghosts_l37 (nI w) (0 : Int32) (0 : Int32) (1 : Int32) h26)) := by
    intro h1
    unfold M_ghosts
    rw [bnd_eq, bnd_eq, show M_in (nI w) (0 : Int32) (3 : Int32) = some (bI (iz (nI w) 0 (3 + 1 - 0))) from q_in (nI w) (a := 0) (b := 3) (by omega) (by omega), sb, show 3 + 1 - 0 = 4 from rfl, b, if_neg (show ¬ bI true = 0 by decide +kernel)]
  refine sm_cg ?_ em
  unfold K_ghosts
  refine sm_re I x1 x2 x3 (jN 2) (fun h1 => rfl) (fun h1 => rfl) ?_
  intro n s h1 hw W X C I1
  have hT := hw.1
  have hG := hw.2.2.1
  have hG1 := hw.2.1
  obtain ⟨G, hGe⟩ : ∃ G, nG n = G + 1 := ⟨nG n - 1, by omega⟩
  have hp := fun g => pO_le hw W g (nT n) hT
  have hlt := mGG_lt (fun g => pO s g (nT n)) G
  -- the model's way, told by numbers
  have mod : ∀ h2, MX h2 n → MS h2 s → M_ghosts_l37 (nI w) (0 : Int32) (0 : Int32) (1 : Int32) h2 = some (if w < 2 then (if aP s (nT n) = 0 then jN 1 else if w = 0 then nI (mGG (fun g => pO s g (nT n)) (nG n)) else nI (pO s (mGG (fun g => pO s g (nT n)) (nG n)) (nT n))) else (if nT n = 0 then jN 1 else if w = 2 then nI (mGG (crd s) (nT n)) else nI (crd s (mGG (crd s) (nT n)))), h2) := by
    intro h2 X2 C2
    obtain ⟨h4, hg4⟩ := mx_g X2
    have haP := aP_le hw W (nT n) hT
    apply ok_to
    unfold M_ghosts_l37
    have e11 : mGG (fun g => pO s g (nT n)) 1 = 0 := Nat.le_zero.mp (mGG_lt (fun g => pO s g (nT n)) 0)
    refine lp_for _ (nG n) (fun k q => 1 ≤ k ∧ q = (nI (mGG (fun g => pO s g (nT n)) k), nI k)) _ ?_ ?_ 1 _ (by omega) ⟨Nat.le_refl _, by rw [e11]; rfl⟩
    · rintro k q hk1 ⟨hk0, rfl⟩
      obtain ⟨j, rfl⟩ : ∃ j, k = j + 1 := ⟨k - 1, by omega⟩
      have hj := mGG_lt (fun g => pO s g (nT n)) j
      have a1 := hp (j + 1)
      have a2 := hp (mGG (fun g => pO s g (nT n)) (j + 1))
      unfold M_ghosts_b37 M_ghosts_j68
      simp (disch := omega) only [KK, K1, K2, NN, bnd_eq, sb, smr, bI_ite, if_pos, if_neg, if_true, if_false, or_true, true_or, true_and, and_true, g01, hg4, q_mpasts X2 hw C2 W (show j + 1 < 31 by omega), q_mpasts X2 hw C2 W (show mGG (fun g => pO s g (nT n)) (j + 1) < 31 by omega)]
      show Okk _ (Sum.elim (fun q => 1 ≤ j + 1 + 1 ∧ q = (nI (if pO s (j + 1) (nT n) ≤ pO s (mGG (fun g => pO s g (nT n)) (j + 1)) (nT n) then mGG (fun g => pO s g (nT n)) (j + 1) else j + 1), nI (j + 1 + 1))) _)
      by_cases hc : pO s (j + 1) (nT n) ≤ pO s (mGG (fun g => pO s g (nT n)) (j + 1)) (nT n)
      · rw [if_pos hc, if_pos hc]
        exact ok_mk ⟨by omega, rfl⟩
      · rw [if_neg hc, if_neg hc]
        exact ok_mk ⟨by omega, rfl⟩
    · rintro q ⟨hk0, rfl⟩
      unfold M_ghosts_b37 M_ghosts_j76
      simp (disch := omega) only [KK, K1, K2, NN, bnd_eq, sb, smr, bI_ite, if_pos, if_neg, if_true, if_false, or_true, true_or, true_and, and_true, g01, hg4]
      refine okmr ?_
      unfold M_ghosts_l79
      have e12 : mGG (crd s) 1 = 0 := Nat.le_zero.mp (mGG_lt (crd s) 0)
      refine lp_for _ (max 1 (nT n)) (fun k q => 1 ≤ k ∧ q = (nI (mGG (crd s) k), nI k)) _ ?_ ?_ 1 _ (by omega) ⟨Nat.le_refl _, by rw [e12]⟩
      · rintro k q hk1 ⟨hk0, rfl⟩
        obtain ⟨j, rfl⟩ : ∃ j, k = j + 1 := ⟨k - 1, by omega⟩
        have hj := mGG_lt (crd s) j
        have a1 := pc_le (bA (sB s (j + 1)))
        have a2 := pc_le (bA (sB s (mGG (crd s) (j + 1))))
        unfold M_ghosts_b79 M_ghosts_j116
        simp (disch := omega) only [KK, K1, K2, NN, bnd_eq, sb, smr, bI_ite, if_pos, if_neg, if_true, if_false, or_true, true_or, true_and, and_true, g01, h4, q_mcrowd X2 hw C2 W (show j + 1 < 5 by omega), q_mcrowd X2 hw C2 W (show mGG (crd s) (j + 1) < 5 by omega), q_ones]
        show Okk _ (Sum.elim (fun q => 1 ≤ j + 1 + 1 ∧ q = (nI (if pc (bA (sB s (j + 1))) ≤ pc (bA (sB s (mGG (crd s) (j + 1)))) then mGG (crd s) (j + 1) else j + 1), nI (j + 1 + 1))) _)
        by_cases hc : pc (bA (sB s (j + 1))) ≤ pc (bA (sB s (mGG (crd s) (j + 1))))
        · rw [if_pos hc, if_pos hc]
          exact ok_mk ⟨by omega, rfl⟩
        · rw [if_neg hc, if_neg hc]
          exact ok_mk ⟨by omega, rfl⟩
      · rintro q ⟨hk0, rfl⟩
        unfold M_ghosts_b79 M_ghosts_j124 M_ghosts_j157 M_ghosts_j189
        have hm : nT n ≤ max 1 (nT n) := Nat.le_max_right _ _
        have hm2 : max 1 (nT n) ≤ 5 := by omega
        rw [if_pos (show h2.1 251 24 ≤ nI (max 1 (nT n)) by rw [h4, nI_leI (by omega) (by omega)]; exact hm)]
        refine okmr ?_
        by_cases hw2 : w < 2
        · simp (disch := omega) only [KK, K1, K2, NN, bnd_eq, sb, smr, bI_ite, if_pos, if_neg, if_true, if_false, or_true, true_or, true_and, and_true, g01, q_allPasts X2 hw C2 W, h4]
          by_cases h0 : aP s (nT n) = 0
          · rw [if_pos h0, if_pos h0]
            exact ⟨_, rfl, rfl⟩
          · rw [if_neg h0, if_neg h0]
            by_cases hw0 : w = 0
            · rw [if_pos hw0, if_pos hw0]
              exact ⟨_, rfl, rfl⟩
            · rw [if_neg hw0, if_neg hw0]
              simp (disch := omega) only [KK, K1, K2, NN, bnd_eq, sb, smr, bI_ite, if_pos, if_neg, if_true, if_false, or_true, true_or, true_and, and_true, g01, q_mpasts X2 hw C2 W (show mGG (fun g => pO s g (nT n)) (nG n) < 31 by rw [hGe]; omega)]
              exact ⟨_, rfl, rfl⟩
        · simp (disch := omega) only [KK, K1, K2, NN, bnd_eq, sb, smr, bI_ite, if_pos, if_neg, if_true, if_false, or_true, true_or, true_and, and_true, g01, h4]
          by_cases h0 : nT n = 0
          · rw [if_pos h0, if_pos h0]
            exact ⟨_, rfl, rfl⟩
          · rw [if_neg h0, if_neg h0, show max 1 (nT n) = nT n by omega]
            by_cases hw3 : w = 2
            · rw [if_pos hw3, if_pos hw3]
              exact ⟨_, rfl, rfl⟩
            · rw [if_neg hw3, if_neg hw3]
              have hj : mGG (crd s) (nT n) < 5 := by
                obtain ⟨j, hj⟩ : ∃ j, nT n = j + 1 := ⟨nT n - 1, by omega⟩
                have := mGG_lt (crd s) j
                rw [hj]
                omega
              simp (disch := omega) only [KK, K1, K2, NN, bnd_eq, sb, smr, bI_ite, if_pos, if_neg, if_true, if_false, or_true, true_or, true_and, and_true, g01, q_mcrowd X2 hw C2 W hj, q_ones]
              exact ⟨_, rfl, rfl⟩
  -- what both say
  have sm : vN (mSS (fun g => pO s g (nT n)) (nG n)).1 = (if aP s (nT n) = 0 then jN 1 else nI (mGG (fun g => pO s g (nT n)) (nG n))) := by
    rw [hGe]
    rcases mSG (fun g => pO s g (nT n)) G with ⟨e, z⟩ | ⟨e, z⟩
    · rw [e]
      have h0 : aP s (nT n) = 0 := by
        rcases Nat.eq_zero_or_pos (aP s (nT n)) with h0 | h0
        · exact h0
        · obtain ⟨g, hg, h3⟩ := aP_1 hw W (nT n) hT h0
          have := z g (by omega)
          omega
      rw [if_pos h0]; rfl
    · rw [e]
      have h0 : ¬ aP s (nT n) = 0 := fun h0 => by
        have := aP_0 (g := mGG (fun g => pO s g (nT n)) (G + 1)) (nT n) h0
        omega
      rw [if_neg h0]
      exact if_neg (by omega)
  have sm2 : vT (mCC (crd s) (nT n)) = (if nT n = 0 then jN 1 else nI (mGG (crd s) (nT n))) := by
    by_cases h0 : nT n = 0
    · rw [if_pos h0, h0]; rfl
    · rw [if_neg h0]
      obtain ⟨j, hj⟩ : ∃ j, nT n = j + 1 := ⟨nT n - 1, by omega⟩
      have := mGG_lt (crd s) j
      rw [hj, mCG (crd s) j (by omega)]
      exact if_neg (by omega)
  refine ⟨(if w < 2 then (if aP s (nT n) = 0 then jN 1 else if w = 0 then nI (mGG (fun g => pO s g (nT n)) (nG n)) else nI (pO s (mGG (fun g => pO s g (nT n)) (nG n)) (nT n))) else (if nT n = 0 then jN 1 else if w = 2 then nI (mGG (crd s) (nT n)) else nI (crd s (mGG (crd s) (nT n))))), h1, ?_, tl_rfl, ?_⟩
  · dsimp only
    rw [if_neg (show ¬ (57 : Nat) = 0 by omega), if_pos (show (57 : Nat) = 57 from rfl), q_mostSeen X hw C W, sb, q_mostCr X hw C W, sb, sm, sm2]
    unfold K_ghosts_j84 K_ghosts_j105
    rcases Nat.lt_or_ge w 2 with hw2 | hw2
    · rw [if_pos hw2]
      by_cases h0 : aP s (nT n) = 0
      · rw [if_pos h0, if_pos h0]
        rcases Nat.lt_or_ge w 1 with hw1 | hw1
        · have : w = 0 := by omega
          subst this
          simp (disch := omega) only [KK, K1, K2, NN, bnd_eq, sb, smr, bI_ite, if_pos, if_neg, if_true, if_false, or_true, true_or, true_and, and_true, g01]
        · have : w = 1 := by omega
          subst this
          simp (disch := omega) only [KK, K1, K2, NN, bnd_eq, sb, smr, bI_ite, if_pos, if_neg, if_true, if_false, or_true, true_or, true_and, and_true, g01]
      · rw [if_neg h0, if_neg h0]
        rcases Nat.lt_or_ge w 1 with hw1 | hw1
        · have : w = 0 := by omega
          subst this
          simp (disch := omega) only [KK, K1, K2, NN, bnd_eq, sb, smr, bI_ite, if_pos, if_neg, if_true, if_false, or_true, true_or, true_and, and_true, g01]
        · have : w = 1 := by omega
          subst this
          have hlt2 : mGG (fun g => pO s g (nT n)) (nG n) < 31 := by rw [hGe]; omega
          simp (disch := omega) only [KK, K1, K2, NN, bnd_eq, sb, smr, bI_ite, if_pos, if_neg, if_true, if_false, or_true, true_or, true_and, and_true, g01, NJ, q_pastsOf X hw C W hlt2]
    · rw [if_neg (show ¬ w < 2 by omega)]
      by_cases h0 : nT n = 0
      · rw [if_pos h0, if_pos h0]
        rcases Nat.lt_or_ge w 3 with hw1 | hw1
        · have : w = 2 := by omega
          subst this
          simp (disch := omega) only [KK, K1, K2, NN, bnd_eq, sb, smr, bI_ite, if_pos, if_neg, if_true, if_false, or_true, true_or, true_and, and_true, g01]
        · have : w = 3 := by omega
          subst this
          simp (disch := omega) only [KK, K1, K2, NN, bnd_eq, sb, smr, bI_ite, if_pos, if_neg, if_true, if_false, or_true, true_or, true_and, and_true, g01]
      · rw [if_neg h0, if_neg h0]
        have hlt3 : mGG (crd s) (nT n) < nT n := by
          obtain ⟨j, hj⟩ : ∃ j, nT n = j + 1 := ⟨nT n - 1, by omega⟩
          have := mGG_lt (crd s) j
          rw [hj]
          omega
        rcases Nat.lt_or_ge w 3 with hw1 | hw1
        · have : w = 2 := by omega
          subst this
          simp (disch := omega) only [KK, K1, K2, NN, bnd_eq, sb, smr, bI_ite, if_pos, if_neg, if_true, if_false, or_true, true_or, true_and, and_true, g01]
        · have : w = 3 := by omega
          subst this
          simp (disch := omega) only [KK, K1, K2, NN, bnd_eq, sb, smr, bI_ite, if_pos, if_neg, if_true, if_false, or_true, true_or, true_and, and_true, g01, NJ, q_crowd X hw C W hlt3]
  · intro h2 I2 X2 C2 _
    refine ⟨h2, ?_, tl_rfl⟩
    dsimp only
    rw [if_neg (show ¬ nI 1 = (0 : Int32) from ne_nI (b := 0) (by omega) (by omega) (by omega))]
    exact mod h2 X2 C2
