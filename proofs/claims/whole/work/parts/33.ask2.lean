/-! ===== L3: past, net, chain, gossip ===== -/
theorem t_past {h : Hp} (I : Inv h) (x1 x2 x3 x4 x5 x6 : Int32) : Sm (K_past h x1 x2 x3 x4 x5 x6) (fun h1 => M_past h1 x1 x2 x3 x4 x5 x6) := by
  unfold K_past M_past
  refine sm_reach I x1 x2 x3 (jN 1) ?_ (fun h1 => rfl) ?_
  · intro h1
    dsimp only
    rw [if_pos rfl]
    unfold K_past_j25 K_past_j47
    rw [if_pos rfl]
    rfl
  intro n s h1 hw W X C I1
  have hT := hw.1
  dsimp only
  rw [if_neg (show ¬ (57 : Nat) = 0 by omega), if_pos (show (57 : Nat) = 57 from rfl), q_benchAt X hw, sb]
  unfold K_past_j25 K_past_j47 M_past_j42 M_past_j102
  by_cases b1 : iz x4 0 (nT n) = true
  case neg =>
    rw [if_neg b1, if_pos rfl]
    refine ok_mk ⟨tl_rfl, fun h2 _ X2 C2 _ => ?_⟩
    dsimp only
    rw [q_isTable X2 hw, eq_false_of_ne_true b1]
    simp (disch := omega) only [KK, K1, K2, NN, bnd_eq, sb, smr, bI_ite, if_pos, if_neg, if_true, if_false, or_true, true_or, true_and, and_true, g01, NJ, q_isOf, inT, iz_nI, decide_eq_true_eq, Nat.add_sub_cancel_left, lnm, Bool.false_eq_true]
    exact ok_mk ⟨rfl, tl_rfl⟩
  obtain ⟨t, ht, ht2, rfl⟩ := iz_0 b1
  obtain ⟨e1, e2⟩ := el_st t (by omega)
  have Ct := C.1 t (by omega)
  have Wt := (W.1 t (by omega)).1
  have hk6 := kp_le hw t
  have hL := Wt.1
  simp only [if_pos b1, nI_clamp ht2, Ct.1, if_neg (show ¬ 70 + 4 * t = 0 by omega)]
  have mod : ∀ h2, MX h2 n → MS h2 s → M_isTable h2 (nI t) = some (bI true) := fun h2 X2 _ => by rw [q_isTable X2 hw, b1]
  by_cases b2 : iz x5 0 (bL (sB s t)) = true
  case neg =>
    have e0 : (0 : Int32).toInt = 0 := rfl
    have b2' := b2
    rw [iz_iff] at b2
    have out : (if x5 < (0 : Int32) then some ((-1 : Int32), h1) else if kd (70 + 4 * t) = 0 then if x5 < nI (bL (sB s t)) then if x6 = (0 : Int32) then (B_guestsOf h1 (70 + 4 * t) x5).bind fun r6 => some (r6, h1) else if x6 = (1 : Int32) then (B_wordsOf h1 (70 + 4 * t) x5).bind fun r8 => some (r8, h1) else if x6 = (2 : Int32) then (B_nightOf h1 (70 + 4 * t) x5).bind fun r10 => some (r10, h1) else some ((-1 : Int32), h1) else some ((-1 : Int32), h1) else none) = some (jN 1, h1) := by
      by_cases h4 : x5 < 0
      · rw [if_pos h4]; rfl
      · rw [if_neg h4, if_pos e2]
        rw [i_lt, e0] at h4
        rw [if_neg (by rw [i_lt, nI_toInt (by omega)]; omega)]
        rfl
    rw [out]
    refine ok_mk ⟨tl_rfl, fun h2 _ X2 C2 _ => ?_⟩
    dsimp only
    rw [mod h2 X2 C2]
    simp (disch := omega) only [KK, K1, K2, NN, bnd_eq, sb, smr, bI_ite, if_pos, if_neg, if_true, if_false, or_true, true_or, true_and, and_true, g01, NJ, q_isOf, inT, iz_nI, decide_eq_true_eq, Nat.add_sub_cancel_left, lnm, (C2.1 t (by omega)).1]
    rw [q_in0 x5 (by omega), eq_false_of_ne_true b2']
    simp (disch := omega) only [KK, K1, K2, NN, bnd_eq, sb, smr, bI_ite, if_pos, if_neg, if_true, if_false, or_true, true_or, true_and, and_true, g01, NJ, q_isOf, inT, iz_nI, decide_eq_true_eq, Nat.add_sub_cancel_left, lnm, Bool.false_eq_true]
    exact ok_mk ⟨rfl, tl_rfl⟩
  obtain ⟨k, hk, hk2, rfl⟩ := iz_0 b2
  obtain ⟨g1, g2, g3⟩ := q_bnI e2 Ct (by omega) hk
  have mod2 : ∀ h2, MX h2 n → MS h2 s → M_in (nI k) (nI 0) (nI (bL (sB s t) - 1)) = some (bI true) := fun h2 _ _ => by rw [← pk_sub (show 1 ≤ bL (sB s t) by omega), q_in0 _ (by omega), b2]
  by_cases c0 : x6 = nI 0
  · subst c0
    simp (disch := omega) only [KK, K1, K2, NN, bnd_eq, sb, smr, bI_ite, if_pos, if_neg, if_true, if_false, or_true, true_or, true_and, and_true, g01, NJ, q_isOf, inT, iz_nI, decide_eq_true_eq, Nat.add_sub_cancel_left, lnm, e2, g1]
    refine ok_mk ⟨tl_rfl, fun h2 _ X2 C2 _ => ?_⟩
    dsimp only
    rw [mod h2 X2 C2]
    simp (disch := omega) only [KK, K1, K2, NN, bnd_eq, sb, smr, bI_ite, if_pos, if_neg, if_true, if_false, or_true, true_or, true_and, and_true, g01, NJ, q_isOf, inT, iz_nI, decide_eq_true_eq, Nat.add_sub_cancel_left, lnm, (C2.1 t (by omega)).1, mod2 h2 X2 C2, ((C2.1 t (by omega)).2.2.2.2 k hk).1]
    exact ok_mk ⟨rfl, tl_rfl⟩
  by_cases c1 : x6 = nI 1
  · subst c1
    simp (disch := omega) only [KK, K1, K2, NN, bnd_eq, sb, smr, bI_ite, if_pos, if_neg, if_true, if_false, or_true, true_or, true_and, and_true, g01, NJ, q_isOf, inT, iz_nI, decide_eq_true_eq, Nat.add_sub_cancel_left, lnm, e2, g2]
    refine ok_mk ⟨tl_rfl, fun h2 _ X2 C2 _ => ?_⟩
    dsimp only
    rw [mod h2 X2 C2]
    simp (disch := omega) only [KK, K1, K2, NN, bnd_eq, sb, smr, bI_ite, if_pos, if_neg, if_true, if_false, or_true, true_or, true_and, and_true, g01, NJ, q_isOf, inT, iz_nI, decide_eq_true_eq, Nat.add_sub_cancel_left, lnm, (C2.1 t (by omega)).1, mod2 h2 X2 C2, ((C2.1 t (by omega)).2.2.2.2 k hk).2.1]
    exact ok_mk ⟨rfl, tl_rfl⟩
  by_cases c2 : x6 = nI 2
  · subst c2
    simp (disch := omega) only [KK, K1, K2, NN, bnd_eq, sb, smr, bI_ite, if_pos, if_neg, if_true, if_false, or_true, true_or, true_and, and_true, g01, NJ, q_isOf, inT, iz_nI, decide_eq_true_eq, Nat.add_sub_cancel_left, lnm, e2, g3]
    refine ok_mk ⟨tl_rfl, fun h2 _ X2 C2 _ => ?_⟩
    dsimp only
    rw [mod h2 X2 C2]
    simp (disch := omega) only [KK, K1, K2, NN, bnd_eq, sb, smr, bI_ite, if_pos, if_neg, if_true, if_false, or_true, true_or, true_and, and_true, g01, NJ, q_isOf, inT, iz_nI, decide_eq_true_eq, Nat.add_sub_cancel_left, lnm, (C2.1 t (by omega)).1, mod2 h2 X2 C2, ((C2.1 t (by omega)).2.2.2.2 k hk).2.2]
    exact ok_mk ⟨rfl, tl_rfl⟩
  simp (disch := omega) only [KK, K1, K2, NN, bnd_eq, sb, smr, bI_ite, if_pos, if_neg, if_true, if_false, or_true, true_or, true_and, and_true, g01, NJ, q_isOf, inT, iz_nI, decide_eq_true_eq, Nat.add_sub_cancel_left, lnm, e2, c0, c1, c2]
  refine ok_mk ⟨tl_rfl, fun h2 _ X2 C2 _ => ?_⟩
  dsimp only
  rw [mod h2 X2 C2]
  simp (disch := omega) only [KK, K1, K2, NN, bnd_eq, sb, smr, bI_ite, if_pos, if_neg, if_true, if_false, or_true, true_or, true_and, and_true, g01, NJ, q_isOf, inT, iz_nI, decide_eq_true_eq, Nat.add_sub_cancel_left, lnm, (C2.1 t (by omega)).1, mod2 h2 X2 C2, c0, c1, c2]
  exact ok_mk ⟨rfl, tl_rfl⟩
/-! of a guest -/
theorem q_byG {h : Hp} {n : Inn} {s : St} (X : CX h n) (hw : wI n) (C : CS h s) {g : Nat} (hg : g < nG n) : S_heardBy h (nI g) = some (sH s g) ∧ S_paidBy h (nI g) = some (sP s g) ∧ S_metBy h (nI g) = some (sM s g) := by
  obtain ⟨a, ha, h6, H, hk, h5, hgg⟩ := cx_g X
  have hG := hw.2.2.1
  obtain ⟨-, l1, l2, l3, -, -⟩ := ln_st
  obtain ⟨c1, c2, c3⟩ := C.2.1 g (by omega)
  have e := q_hasGuest H hw (nI g)
  unfold S_heardBy S_heardBy_j21 S_paidBy S_paidBy_j21 S_metBy S_metBy_j21
  simp (disch := omega) only [KK, K1, K2, NN, bnd_eq, sb, smr, bI_ite, if_pos, if_neg, if_true, if_false, or_true, true_or, true_and, and_true, g01, NJ, q_isOf, inT, iz_nI, decide_eq_true_eq, Nat.add_sub_cancel_left, lnm, h6, hk, e, l1, l2, l3, c1, c2, c3]
theorem q_debt {h : Hp} {n : Inn} {s : St} (X : CX h n) (hw : wI n) (C : CS h s) {g k : Nat} (hg : g < nG n) (hk2 : k < nG n) : S_debtOf h (nI g) (nI k) = some (sD s (8 * g + k)) := by
  obtain ⟨a, ha, h6, H, hk, h5, hgg⟩ := cx_g X
  have hG := hw.2.2.1
  obtain ⟨-, -, -, -, l4, -⟩ := ln_st
  have c1 := C.2.2.1 (8 * g + k) (by omega)
  have e := q_hasGuest H hw (nI g)
  have e2 := q_hasGuest H hw (nI k)
  unfold S_debtOf S_debtOf_j36 S_debtOf_j37
  simp (disch := omega) only [KK, K1, K2, NN, bnd_eq, sb, smr, bI_ite, if_pos, if_neg, if_true, if_false, or_true, true_or, true_and, and_true, g01, NJ, q_isOf, inT, iz_nI, decide_eq_true_eq, Nat.add_sub_cancel_left, lnm, h6, hk, e, e2, l4, c1]
theorem q_mdebt {h : Hp} {s : St} (C : MS h s) {g k : Nat} (hg : g < 8) (hk2 : k < 8) : h.1 272 (8 * g + k) = sD s (8 * g + k) := C.2.2.1 _ (by omega)
def ntS (s : St) (g : Nat) : Nat → Int32 := sT (fun k => sD s (8 * k + g) - sD s (8 * g + k))
theorem q_net {h : Hp} {n : Inn} {s : St} (X : CX h n) (hw : wI n) (C : CS h s) {g : Nat} (hg : g < nG n) : S_netOf h (nI g) = some (ntS s g (nG n)) := by
  obtain ⟨a, ha, h6, H, hk, h5, hgg⟩ := cx_g X
  have hG := hw.2.2.1
  apply ok_to
  unfold S_netOf S_netOf_l4
  refine lp_for _ (nG n) (fun k s1 => s1 = (ntS s g k, nI k)) _ ?_ ?_ 0 _ (by omega) rfl
  · rintro k s1 hk1 rfl
    unfold S_netOf_b4
    simp (disch := omega) only [KK, K1, K2, NN, bnd_eq, sb, smr, bI_ite, if_pos, if_neg, if_true, if_false, or_true, true_or, true_and, and_true, g01, NJ, q_isOf, inT, iz_nI, decide_eq_true_eq, Nat.add_sub_cancel_left, lnm, h6, hk, hgg, q_debt X hw C hk1 hg, q_debt X hw C hg hk1]
    exact ok_mk rfl
  · rintro s1 rfl
    unfold S_netOf_b4 S_netOf_j37
    simp (disch := omega) only [KK, K1, K2, NN, bnd_eq, sb, smr, bI_ite, if_pos, if_neg, if_true, if_false, or_true, true_or, true_and, and_true, g01, NJ, q_isOf, inT, iz_nI, decide_eq_true_eq, Nat.add_sub_cancel_left, lnm, h6, hk, hgg]
    exact ⟨_, rfl, rfl⟩
theorem q_mnet {h : Hp} {n : Inn} {s : St} (X : MX h n) (hw : wI n) (C : MS h s) {g : Nat} (hg : g < nG n) : M_net h (nI g) = some (ntS s g (nG n)) := by
  have hG := hw.2.2.1
  have hgg := (mx_g X).2
  apply ok_to
  unfold M_net M_net_l4
  refine lp_for _ (nG n) (fun k s1 => s1 = (ntS s g k, nI k)) _ ?_ ?_ 0 _ (by omega) rfl
  · rintro k s1 hk1 rfl
    unfold M_net_b4
    simp (disch := omega) only [KK, K1, K2, NN, bnd_eq, sb, smr, bI_ite, if_pos, if_neg, if_true, if_false, or_true, true_or, true_and, and_true, g01, NJ, q_isOf, inT, iz_nI, decide_eq_true_eq, Nat.add_sub_cancel_left, lnm, hgg, q_mdebt C (show k < 8 by omega) (show g < 8 by omega), q_mdebt C (show g < 8 by omega) (show k < 8 by omega)]
    exact ok_mk rfl
  · rintro s1 rfl
    unfold M_net_b4 M_net_j44
    simp (disch := omega) only [KK, K1, K2, NN, bnd_eq, sb, smr, bI_ite, if_pos, if_neg, if_true, if_false, or_true, true_or, true_and, and_true, g01, NJ, q_isOf, inT, iz_nI, decide_eq_true_eq, Nat.add_sub_cancel_left, lnm, hgg]
    exact ⟨_, rfl, rfl⟩
/-- to whom one owes most, 8 if to none -/
def crS (s : St) (g : Nat) : Nat → Nat
  | 0 => 8
  | k + 1 => if sD s (8 * g + k) ≤ nI 0 then crS s g k else if crS s g k = 8 then k else if sD s (8 * g + k) ≤ sD s (8 * g + crS s g k) then crS s g k else k
def vN (b : Nat) : Int32 := if b = 8 then jN 1 else nI b
theorem crS_lt (s : St) (g : Nat) : ∀ k, crS s g k < k ∨ crS s g k = 8
  | 0 => Or.inr rfl
  | k + 1 => by
    have := crS_lt s g k
    show (if sD s (8 * g + k) ≤ nI 0 then crS s g k else if crS s g k = 8 then k else if sD s (8 * g + k) ≤ sD s (8 * g + crS s g k) then crS s g k else k) < k + 1 ∨ (if sD s (8 * g + k) ≤ nI 0 then crS s g k else if crS s g k = 8 then k else if sD s (8 * g + k) ≤ sD s (8 * g + crS s g k) then crS s g k else k) = 8
    repeat' split
    all_goals omega
theorem q_cred {h : Hp} {n : Inn} {s : St} (X : CX h n) (hw : wI n) (C : CS h s) {g : Nat} (hg : g < nG n) : S_creditorOf h (nI g) = some (vN (crS s g (nG n))) := by
  obtain ⟨a, ha, h6, H, hk, h5, hgg⟩ := cx_g X
  have hG := hw.2.2.1
  apply ok_to
  unfold S_creditorOf S_creditorOf_l4
  refine lp_for _ (nG n) (fun k s1 => s1 = (vN (crS s g k), nI k)) _ ?_ ?_ 0 _ (by omega) rfl
  · rintro k s1 hk1 rfl
    have hc := crS_lt s g k
    unfold S_creditorOf_b4 S_creditorOf_j44 S_creditorOf_j46
    simp (disch := omega) only [KK, K1, K2, NN, bnd_eq, sb, smr, bI_ite, if_pos, if_neg, if_true, if_false, or_true, true_or, true_and, and_true, g01, NJ, q_isOf, inT, iz_nI, decide_eq_true_eq, Nat.add_sub_cancel_left, lnm, h6, hk, hgg, q_debt X hw C hg hk1]
    show Okk _ (Sum.elim (fun s1 => s1 = (vN (if sD s (8 * g + k) ≤ nI 0 then crS s g k else if crS s g k = 8 then k else if sD s (8 * g + k) ≤ sD s (8 * g + crS s g k) then crS s g k else k), nI (k + 1))) _)
    by_cases h1 : sD s (8 * g + k) ≤ nI 0
    · rw [if_pos h1, if_pos h1]
      exact ok_mk rfl
    · rw [if_neg h1, if_neg h1]
      by_cases h2 : crS s g k = 8
      · rw [if_pos h2, h2]
        rw [if_pos (show vN 8 = jN 1 from rfl)]
        refine ok_mk ?_
        show _ = _
        rw [show vN k = nI k from if_neg (by omega)]
      · rw [if_neg h2, show vN (crS s g k) = nI (crS s g k) from if_neg h2]
        simp (disch := omega) only [KK, K1, K2, NN, bnd_eq, sb, smr, bI_ite, if_pos, if_neg, if_true, if_false, or_true, true_or, true_and, and_true, g01, NJ, q_isOf, inT, iz_nI, decide_eq_true_eq, Nat.add_sub_cancel_left, lnm, q_debt X hw C hg (show crS s g k < nG n by omega)]
        by_cases h3 : sD s (8 * g + k) ≤ sD s (8 * g + crS s g k)
        · rw [if_pos h3, if_pos h3]
          refine ok_mk ?_
          show _ = _
          rw [show vN (crS s g k) = nI (crS s g k) from if_neg h2]
        · rw [if_neg h3, if_neg h3]
          refine ok_mk ?_
          show _ = _
          rw [show vN k = nI k from if_neg (by omega)]
  · rintro s1 rfl
    unfold S_creditorOf_b4 S_creditorOf_j52
    simp (disch := omega) only [KK, K1, K2, NN, bnd_eq, sb, smr, bI_ite, if_pos, if_neg, if_true, if_false, or_true, true_or, true_and, and_true, g01, NJ, q_isOf, inT, iz_nI, decide_eq_true_eq, Nat.add_sub_cancel_left, lnm, h6, hk, hgg]
    exact ⟨_, rfl, rfl⟩
theorem q_mcred {h : Hp} {n : Inn} {s : St} (X : MX h n) (hw : wI n) (C : MS h s) {g : Nat} (hg : g < nG n) : M_owesMost h (nI g) = some (vN (crS s g (nG n))) := by
  have hG := hw.2.2.1
  have hgg := (mx_g X).2
  apply ok_to
  unfold M_owesMost M_owesMost_l4
  refine lp_for _ (nG n) (fun k s1 => s1 = (vN (crS s g k), nI k)) _ ?_ ?_ 0 _ (by omega) rfl
  · rintro k s1 hk1 rfl
    have hc := crS_lt s g k
    unfold M_owesMost_b4 M_owesMost_j55 M_owesMost_j51 M_owesMost_j56
    simp (disch := omega) only [KK, K1, K2, NN, bnd_eq, sb, smr, bI_ite, if_pos, if_neg, if_true, if_false, or_true, true_or, true_and, and_true, g01, NJ, q_isOf, inT, iz_nI, decide_eq_true_eq, Nat.add_sub_cancel_left, lnm, hgg, q_mdebt C (show g < 8 by omega) (show k < 8 by omega)]
    show Okk _ (Sum.elim (fun s1 => s1 = (vN (if sD s (8 * g + k) ≤ nI 0 then crS s g k else if crS s g k = 8 then k else if sD s (8 * g + k) ≤ sD s (8 * g + crS s g k) then crS s g k else k), nI (k + 1))) _)
    by_cases h1 : sD s (8 * g + k) ≤ nI 0
    · rw [if_pos h1, if_pos h1]
      exact ok_mk rfl
    · rw [if_neg h1, if_neg h1]
      by_cases h2 : crS s g k = 8
      · rw [if_pos h2, h2]
        rw [if_pos (show vN 8 = jN 1 from rfl)]
        refine ok_mk ?_
        show _ = _
        rw [show vN k = nI k from if_neg (by omega)]
      · rw [if_neg h2, show vN (crS s g k) = nI (crS s g k) from if_neg h2]
        simp (disch := omega) only [KK, K1, K2, NN, bnd_eq, sb, smr, bI_ite, if_pos, if_neg, if_true, if_false, or_true, true_or, true_and, and_true, g01, NJ, q_isOf, inT, iz_nI, decide_eq_true_eq, Nat.add_sub_cancel_left, lnm, q_mdebt C (show g < 8 by omega) (show crS s g k < 8 by omega)]
        by_cases h3 : sD s (8 * g + k) ≤ sD s (8 * g + crS s g k)
        · rw [if_pos h3, if_pos h3]
          refine ok_mk ?_
          show _ = _
          rw [show vN (crS s g k) = nI (crS s g k) from if_neg h2]
        · rw [if_neg h3, if_neg h3]
          refine ok_mk ?_
          show _ = _
          rw [show vN k = nI k from if_neg (by omega)]
  · rintro s1 rfl
    unfold M_owesMost_b4 M_owesMost_j63
    simp (disch := omega) only [KK, K1, K2, NN, bnd_eq, sb, smr, bI_ite, if_pos, if_neg, if_true, if_false, or_true, true_or, true_and, and_true, g01, NJ, q_isOf, inT, iz_nI, decide_eq_true_eq, Nat.add_sub_cancel_left, lnm, hgg]
    exact ⟨_, rfl, rfl⟩
/-- a chain from next on: fuel, who is in it, next, how long, the last -/
def chS (s : St) (m : Nat) : Nat → Int32 → Nat → Nat → Nat → Nat × Nat
  | 0, _, _, l, a => (l, a)
  | f + 1, th, nx, l, a => if nx = 8 ∨ bt th nx = true then (l, a) else chS s m f (th ||| sh (nI 1) (nI nx)) (crS s nx m) (l + 1) nx
theorem chS_s (s : St) (m f : Nat) (th : Int32) (nx l a : Nat) : chS s m (f + 1) th nx l a = if nx = 8 ∨ bt th nx = true then (l, a) else chS s m f (th ||| sh (nI 1) (nI nx)) (crS s nx m) (l + 1) nx := rfl
theorem cT_bit {x : Int32} {k : Nat} (hx : bt x k = false) (hk : k < 32) : ∀ m, m ≤ 32 → cT (bt (x ||| sh (nI 1) (nI k))) m = cT (bt x) m + (if k < m then 1 else 0)
  | 0, _ => rfl
  | m + 1, hm => by
    rw [cT_s, cT_s, cT_bit hx hk m (by omega), b_or, b_sh hk m (by omega)]
    by_cases h1 : m = k
    · subst h1
      rw [hx, decide_eq_true rfl, if_neg (Nat.lt_irrefl m), if_pos (show m < m + 1 by omega), Bool.false_or, if_pos rfl, if_neg (show ¬ (false = true) by decide)]
    · rw [decide_eq_false h1, Bool.or_false]
      by_cases h2 : k < m
      · rw [if_pos h2, if_pos (show k < m + 1 by omega)]
        omega
      · rw [if_neg h2, if_neg (show ¬ k < m + 1 by omega)]
        omega
theorem cT_full {p : Nat → Bool} : ∀ m, m ≤ cT p m → ∀ i, i < m → p i = true
  | 0, _, i, hi => absurd hi (Nat.not_lt_zero i)
  | m + 1, h, i, hi => by
    have h1 := cT_le p m
    rw [cT_s] at h
    by_cases h2 : p m = true
    · rw [if_pos h2] at h
      by_cases h3 : i = m
      · subst h3
        exact h2
      · exact cT_full m (by omega) i (by omega)
    · rw [if_neg h2] at h
      omega
theorem q_chain {h : Hp} {n : Inn} {s : St} (X : CX h n) (hw : wI n) (C : CS h s) {g : Nat} (hg : g < nG n) : Okk (S_followDebts h (nI g)) (fun h' => h'.1 57 10 = nI (chS s (nG n) 8 (nI 0) g 0 8).1 ∧ h'.1 57 11 = vN (chS s (nG n) 8 (nI 0) g 0 8).2 ∧ Fr (fun c i => c = 57 ∧ 10 ≤ i) h h') := by
  have hG := hw.2.2.1
  unfold S_followDebts S_followDebts_l17
  simp (disch := omega) only [KK, K1, K2, NN, bnd_eq, sb, smr, bI_ite, if_pos, if_neg, if_true, if_false, or_true, true_or, true_and, and_true, g01]
  refine lp_for _ 8 (fun k q => ∃ nx l a, q.2.1 = vN nx ∧ q.2.2.1 = nI k ∧ (nx < nG n ∨ nx = 8) ∧ l = k ∧ q.2.2.2.1 57 10 = nI l ∧ q.2.2.2.1 57 11 = vN a ∧ Fr (fun c i => c = 57 ∧ 10 ≤ i) h q.2.2.2 ∧ chS s (nG n) 8 (nI 0) g 0 8 = chS s (nG n) (8 - k) q.1 nx l a) _ ?_ ?_ 0 _ (by omega) ?_
  · rintro k ⟨q1, q2, q3, q4⟩ hk ⟨nx, l, a, rfl, rfl, hnx, hl, h10, h11, hF, hc⟩
    dsimp only at h10 h11 hF hc ⊢
    rw [show 8 - k = (8 - (k + 1)) + 1 by omega, chS_s s (nG n) (8 - (k + 1)) q1 nx l a] at hc
    unfold S_followDebts_b17 S_followDebts_j70
    by_cases hn8 : nx = 8
    · rw [if_pos (Or.inl hn8)] at hc
      subst hn8
      simp (disch := omega) only [KK, K1, K2, NN, bnd_eq, sb, smr, bI_ite, if_pos, if_neg, if_true, if_false, or_true, true_or, true_and, and_true, g01, NJ, q_isOf, inT, iz_nI, decide_eq_true_eq, Nat.add_sub_cancel_left, lnm, show vN 8 = jN 1 from rfl]
      refine ok_mk ⟨?_, ?_, hF⟩
      · rw [hc, h10]
      · rw [hc, h11]
    · have hnx2 : nx < nG n := by omega
      rw [show vN nx = nI nx from if_neg hn8]
      simp (disch := omega) only [KK, K1, K2, NN, bnd_eq, sb, smr, bI_ite, if_pos, if_neg, if_true, if_false, or_true, true_or, true_and, and_true, g01, NJ, q_isOf, inT, iz_nI, decide_eq_true_eq, Nat.add_sub_cancel_left, lnm, q_isIn q1 (show nx < 31 by omega)]
      by_cases hb : bt q1 nx = true
      · rw [if_pos (Or.inr hb)] at hc
        rw [if_pos hb]
        refine ok_mk ⟨?_, ?_, hF⟩
        · rw [hc, h10]
        · rw [hc, h11]
      · rw [if_neg (fun e => e.elim hn8 hb)] at hc
        rw [if_neg hb]
        have F2 : Fr (fun c i => c = 57 ∧ 10 ≤ i) h (wr (wr q4 57 11 (nI nx)) 57 10 (nI (l + 1))) := fr_tr (fr_tr hF (fr_wr ⟨rfl, by omega⟩)) (fr_wr ⟨rfl, by omega⟩)
        have o2 : ∀ c i, ¬ (c = 57 ∧ 10 ≤ i) → (wr (wr q4 57 11 (nI nx)) 57 10 (nI (l + 1))).1 c i = h.1 c i := fun c i hc => F2 c i hc
        have C2 : CS (wr (wr q4 57 11 (nI nx)) 57 10 (nI (l + 1))) s := by
          obtain ⟨b1, b2, b3, b4, b5, b6⟩ := C
          refine ⟨fun t ht => cb_fr (b1 t ht) (fun c i z1 z2 => o2 c i (by omega)), ?_, ?_, ?_, ?_, ?_⟩
          · intro g hg
            rw [o2 59 g (by omega), o2 60 g (by omega), o2 61 g (by omega)]
            exact b2 g hg
          · intro i hi
            rw [o2 62 i (by omega)]
            exact b3 i hi
          · rw [o2 57 7 (by omega), b4]
          · rw [o2 57 8 (by omega), b5]
          · rw [o2 57 9 (by omega), b6]
        have X2 : CX (wr (wr q4 57 11 (nI nx)) 57 10 (nI (l + 1))) n := cx_fr X (fun c i hc => o2 c i (by omega))
        have eC := q_cred X2 hw C2 hnx2
        simp (disch := omega) only [KK, K1, K2, NN, bnd_eq, sb, smr, bI_ite, if_pos, if_neg, if_true, if_false, or_true, true_or, true_and, and_true, g01, wr_at, wr_c, wr_p, h10, eC]
        refine ok_mk ⟨crS s nx (nG n), l + 1, nx, rfl, rfl, crS_lt s nx (nG n), by omega, ?_, ?_, F2, hc⟩
        · simp (disch := omega) only [KK, K1, K2, NN, bnd_eq, sb, smr, bI_ite, if_pos, if_neg, if_true, if_false, or_true, true_or, true_and, and_true, g01, wr_at, wr_c, wr_p, ]
        · simp (disch := omega) only [KK, K1, K2, NN, bnd_eq, sb, smr, bI_ite, if_pos, if_neg, if_true, if_false, or_true, true_or, true_and, and_true, g01, wr_at, wr_c, wr_p, ]
          exact (if_neg hn8).symm
  · rintro ⟨q1, q2, q3, q4⟩ ⟨nx, l, a, rfl, rfl, hnx, hl, h10, h11, hF, hc⟩
    dsimp only at h10 h11 hF hc ⊢
    unfold S_followDebts_b17 S_followDebts_j70
    simp (disch := omega) only [KK, K1, K2, NN, bnd_eq, sb, smr, bI_ite, if_pos, if_neg, if_true, if_false, or_true, true_or, true_and, and_true, g01]
    refine ok_mk ⟨?_, ?_, hF⟩
    · rw [hc, h10, Nat.sub_self]; rfl
    · rw [hc, h11, Nat.sub_self]; rfl
  · refine ⟨g, 0, 8, (if_neg (by omega)).symm, rfl, Or.inl hg, rfl, ?_, ?_, ?_, rfl⟩
    · simp (disch := omega) only [KK, K1, K2, NN, bnd_eq, sb, smr, bI_ite, if_pos, if_neg, if_true, if_false, or_true, true_or, true_and, and_true, g01, wr_at, wr_c, wr_p, ]
    · simp (disch := omega) only [KK, K1, K2, NN, bnd_eq, sb, smr, bI_ite, if_pos, if_neg, if_true, if_false, or_true, true_or, true_and, and_true, g01, wr_at, wr_c, wr_p, ]; rfl
    · exact fr_tr (fr_wr ⟨rfl, by omega⟩) (fr_wr ⟨rfl, by omega⟩)
theorem q_mchain {h : Hp} {n : Inn} {s : St} (X : MX h n) (hw : wI n) (C : MS h s) {g : Nat} (hg : g < nG n) : Okk (M_chain h (nI g)) (fun h' => h'.1 251 41 = nI (chS s (nG n) 8 (nI 0) g 0 8).1 ∧ h'.1 251 42 = vN (chS s (nG n) 8 (nI 0) g 0 8).2 ∧ Fr (fun c i => c = 251 ∧ 41 ≤ i ∧ i ≤ 42) h h') := by
  have hG := hw.2.2.1
  have rst : ∀ h2 : Hp, Fr (fun c i => c = 251 ∧ 41 ≤ i ∧ i ≤ 42) h h2 → MX h2 n ∧ MS h2 s := by
    intro h2 F2
    have o2 : ∀ c i, ¬ (c = 251 ∧ 41 ≤ i ∧ i ≤ 42) → h2.1 c i = h.1 c i := fun c i hc => F2 c i hc
    obtain ⟨b1, b2, b3, b4, b5, b6⟩ := C
    refine ⟨mx_fr X (fun c i hc => o2 c i (by omega)), ⟨?_, ?_, ?_, ?_, ?_, ?_⟩⟩
    · intro t ht
      obtain ⟨z3, z4, z5, z6, zR⟩ := b1 t ht
      refine ⟨by rw [o2 266 t (by omega), z3], by rw [o2 267 t (by omega), z4], by rw [o2 268 t (by omega), z5], by rw [o2 269 t (by omega), z6], ?_⟩
      intro i hi
      rw [o2 263 _ (by omega), o2 264 _ (by omega), o2 265 _ (by omega)]
      exact zR i hi
    · intro g hg
      rw [o2 270 g (by omega), o2 271 g (by omega), o2 273 g (by omega)]
      exact b2 g hg
    · intro i hi
      rw [o2 272 i (by omega)]
      exact b3 i hi
    · rw [o2 251 38 (by omega), b4]
    · rw [o2 251 39 (by omega), b5]
    · rw [o2 251 40 (by omega), b6]
  have F0 : Fr (fun c i => c = 251 ∧ 41 ≤ i ∧ i ≤ 42) h (wr (wr h 251 41 (nI 1)) 251 42 (nI g)) := fr_tr (fr_wr ⟨rfl, by omega, by omega⟩) (fr_wr ⟨rfl, by omega, by omega⟩)
  obtain ⟨X0, C0⟩ := rst _ F0
  have e0 := q_mcred X0 hw C0 hg
  unfold M_chain
  simp (disch := omega) only [KK, K1, K2, NN, bnd_eq, sb, smr, bI_ite, if_pos, if_neg, if_true, if_false, or_true, true_or, true_and, and_true, g01, e0]
  unfold M_chain_l20
  have s1 : chS s (nG n) 8 (nI 0) g 0 8 = chS s (nG n) (8 - cT (bt (sh (nI 1) (nI g))) 8) (sh (nI 1) (nI g)) (crS s g (nG n)) 1 g := by
    have hb : cT (bt (sh (nI 1) (nI g))) 8 = 1 := by
      have := cT_bit (x := nI 0) (k := g) (b_0 g) (by omega) 8 (by omega)
      have e1 : nI 0 ||| sh (nI 1) (nI g) = sh (nI 1) (nI g) := by
        rw [Int32.or_comm]
        exact or_z _
      rw [e1, if_pos (by omega), cT_f (bt (nI 0)) 8 (fun i _ => b_0 i)] at this
      exact this
    have e1 : nI 0 ||| sh (nI 1) (nI g) = sh (nI 1) (nI g) := by
      rw [Int32.or_comm]
      exact or_z _
    rw [hb, show (8 : Nat) = 7 + 1 from rfl, chS_s, if_neg, e1]
    rintro (h1 | h1)
    · omega
    · rw [show bt (nI 0) g = false from b_0 g] at h1
      exact absurd h1 (by decide)
  rw [s1]
  generalize hR : chS s (nG n) (8 - cT (bt (sh (nI 1) (nI g))) 8) (sh (nI 1) (nI g)) (crS s g (nG n)) 1 g = R
  refine lp_ms _ (fun q => 8 - cT (bt q.1) 8) (fun q => ∃ nx l a, q.2.1 = vN nx ∧ (nx < nG n ∨ nx = 8) ∧ a < 8 ∧ q.2.2.1 251 41 = nI l ∧ q.2.2.1 251 42 = nI a ∧ Fr (fun c i => c = 251 ∧ 41 ≤ i ∧ i ≤ 42) h q.2.2 ∧ chS s (nG n) (8 - cT (bt q.1) 8) q.1 nx l a = R) _ ?_ _ ?_
  · rintro ⟨q1, q2, q3⟩ ⟨nx, l, a, rfl, hnx, ha, h41, h42, hF, hc⟩
    dsimp only at h41 h42 hF hc ⊢
    have hv : vN a = nI a := if_neg (by omega)
    unfold M_chain_b20 M_chain_j63
    by_cases hn8 : nx = 8
    · subst hn8
      have hc2 : (l, a) = R := by
        rw [← hc]
        cases hm : 8 - cT (bt q1) 8 with
        | zero => rfl
        | succ m => rw [chS_s, if_pos (Or.inl rfl)]
      simp (disch := omega) only [KK, K1, K2, NN, bnd_eq, sb, smr, bI_ite, if_pos, if_neg, if_true, if_false, or_true, true_or, true_and, and_true, g01, NJ, q_isOf, inT, iz_nI, decide_eq_true_eq, Nat.add_sub_cancel_left, lnm, show vN 8 = jN 1 from rfl]
      refine ok_mk ⟨?_, ?_, hF⟩
      · rw [← hc2, h41]
      · rw [← hc2, h42]
        exact hv.symm
    · have hnx2 : nx < nG n := by omega
      rw [show vN nx = nI nx from if_neg hn8]
      simp (disch := omega) only [KK, K1, K2, NN, bnd_eq, sb, smr, bI_ite, if_pos, if_neg, if_true, if_false, or_true, true_or, true_and, and_true, g01, NJ, q_isOf, inT, iz_nI, decide_eq_true_eq, Nat.add_sub_cancel_left, lnm, q_has q1 (show nx < 32 by omega)]
      by_cases hb : bt q1 nx = true
      · rw [if_pos hb]
        have hc2 : (l, a) = R := by
          rw [← hc]
          cases hm : 8 - cT (bt q1) 8 with
          | zero => rfl
          | succ m => rw [chS_s, if_pos (Or.inr hb)]
        refine ok_mk ⟨?_, ?_, hF⟩
        · rw [← hc2, h41]
        · rw [← hc2, h42]
          exact hv.symm
      · rw [if_neg hb]
        have hlt : cT (bt q1) 8 < 8 := by
          rcases Nat.lt_or_ge (cT (bt q1) 8) 8 with h1 | h1
          · exact h1
          · exact absurd (cT_full 8 h1 nx (by omega)) hb
        have hup := cT_bit (x := q1) (k := nx) (eq_false_of_ne_true hb) (by omega) 8 (by omega)
        rw [if_pos (show nx < 8 by omega)] at hup
        have F2 : Fr (fun c i => c = 251 ∧ 41 ≤ i ∧ i ≤ 42) h (wr (wr q3 251 41 (nI (l + 1))) 251 42 (nI nx)) := fr_tr (fr_tr hF (fr_wr ⟨rfl, by omega, by omega⟩)) (fr_wr ⟨rfl, by omega, by omega⟩)
        obtain ⟨X2, C2⟩ := rst _ F2
        have eC := q_mcred X2 hw C2 hnx2
        simp (disch := omega) only [KK, K1, K2, NN, bnd_eq, sb, smr, bI_ite, if_pos, if_neg, if_true, if_false, or_true, true_or, true_and, and_true, g01, h41, eC]
        refine ok_mk ⟨⟨crS s nx (nG n), l + 1, nx, rfl, crS_lt s nx (nG n), by omega, ?_, ?_, F2, ?_⟩, ?_⟩
        · simp (disch := omega) only [KK, K1, K2, NN, bnd_eq, sb, smr, bI_ite, if_pos, if_neg, if_true, if_false, or_true, true_or, true_and, and_true, g01, wr_at, wr_c, wr_p, ]
        · simp (disch := omega) only [KK, K1, K2, NN, bnd_eq, sb, smr, bI_ite, if_pos, if_neg, if_true, if_false, or_true, true_or, true_and, and_true, g01, wr_at, wr_c, wr_p, ]
        · rw [← hc]
          dsimp only
          rw [hup, show 8 - cT (bt q1) 8 = (8 - (cT (bt q1) 8 + 1)) + 1 by omega, chS_s, if_neg (fun e => e.elim hn8 hb)]
        · dsimp only
          omega
  · refine ⟨crS s g (nG n), 1, g, rfl, crS_lt s g (nG n), by omega, ?_, ?_, F0, hR⟩
    · simp (disch := omega) only [KK, K1, K2, NN, bnd_eq, sb, smr, bI_ite, if_pos, if_neg, if_true, if_false, or_true, true_or, true_and, and_true, g01, wr_at, wr_c, wr_p, ]
    · simp (disch := omega) only [KK, K1, K2, NN, bnd_eq, sb, smr, bI_ite, if_pos, if_neg, if_true, if_false, or_true, true_or, true_and, and_true, g01, wr_at, wr_c, wr_p, ]
theorem t_guest {h : Hp} (I : Inv h) (x1 x2 x3 x4 x5 : Int32) : Sm (K_guest h x1 x2 x3 x4 x5) (fun h1 => M_guest h1 x1 x2 x3 x4 x5) := by
  unfold K_guest M_guest
  refine sm_reach I x1 x2 x3 (jN 1000000) (fun h1 => rfl) (fun h1 => rfl) ?_
  intro n s h1 hw W X C I1
  obtain ⟨a, ha, h6, H, hk, h5, hgg⟩ := cx_g X
  have hG := hw.2.2.1
  have hT := hw.1
  dsimp only
  rw [if_neg (show ¬ (57 : Nat) = 0 by omega), if_pos (show (57 : Nat) = 57 from rfl)]
  unfold K_guest_j27 M_guest_j24 K_guest_j165
  rw [h6]
  by_cases b1 : iz x4 0 (nG n) = true
  case neg =>
    rw [nI_clamp (by omega), if_pos hk, q_hasGuest H hw, sb, eq_false_of_ne_true b1, if_pos (show bI false = 0 from rfl)]
    refine ok_mk ⟨tl_rfl, fun h2 _ X2 C2 _ => ?_⟩
    dsimp only
    rw [q_isGuest X2 hw]
    simp (disch := omega) only [KK, K1, K2, NN, bnd_eq, sb, smr, bI_ite, if_pos, if_neg, if_true, if_false, or_true, true_or, true_and, and_true, g01, NJ, q_isOf, inT, iz_nI, decide_eq_true_eq, Nat.add_sub_cancel_left, lnm, eq_false_of_ne_true b1, Bool.false_eq_true]
    exact ok_mk ⟨rfl, tl_rfl⟩
  obtain ⟨g, hg, hg2, rfl⟩ := iz_0 b1
  obtain ⟨e1, e2, e3⟩ := q_byG X hw C hg
  have eT := q_tableOf C (show g < 31 by omega)
  have eN := q_net X hw C hg
  have eK := q_chain X hw C hg
  have tlc : ∀ {h' : Hp}, Fr (fun c i => c = 57 ∧ 10 ≤ i) h1 h' → Tl h1 h' := fun F => tl_fr F (fun c i hc => by
    have := hc.1
    omega)
  have tlm : ∀ {h2 h' : Hp}, Fr (fun c i => c = 251 ∧ 41 ≤ i ∧ i ≤ 42) h2 h' → Tl h2 h' := fun F => tl_fr F (fun c i hc => by
    have := hc.1
    omega)
  have oth : ∀ {h2 h' : Hp}, MX h2 n → MS h2 s → Fr (fun c i => c = 251 ∧ 41 ≤ i ∧ i ≤ 42) h2 h' → MX h' n ∧ MS h' s := by
    intro h2 h' X2 C2 F2
    have o2 : ∀ c i, ¬ (c = 251 ∧ 41 ≤ i ∧ i ≤ 42) → h'.1 c i = h2.1 c i := fun c i hc => F2 c i hc
    obtain ⟨b1, b2, b3, b4, b5, b6⟩ := C2
    refine ⟨mx_fr X2 (fun c i hc => o2 c i (by omega)), ⟨?_, ?_, ?_, ?_, ?_, ?_⟩⟩
    · intro t ht
      obtain ⟨z3, z4, z5, z6, zR⟩ := b1 t ht
      refine ⟨by rw [o2 266 t (by omega), z3], by rw [o2 267 t (by omega), z4], by rw [o2 268 t (by omega), z5], by rw [o2 269 t (by omega), z6], ?_⟩
      intro i hi
      rw [o2 263 _ (by omega), o2 264 _ (by omega), o2 265 _ (by omega)]
      exact zR i hi
    · intro g hg
      rw [o2 270 g (by omega), o2 271 g (by omega), o2 273 g (by omega)]
      exact b2 g hg
    · intro i hi
      rw [o2 272 i (by omega)]
      exact b3 i hi
    · rw [o2 251 38 (by omega), b4]
    · rw [o2 251 39 (by omega), b5]
    · rw [o2 251 40 (by omega), b6]
  have mg : ∀ h2, MX h2 n → M_isGuest h2 (nI g) = some (bI true) := fun h2 X2 => by rw [q_isGuest X2 hw, b1]
  by_cases b2 : iz x5 10 (nG n) = true
  · obtain ⟨k, hk1, hk2, rfl⟩ := iz_of b2
    simp (disch := omega) only [KK, K1, K2, NN, bnd_eq, sb, smr, bI_ite, if_pos, if_neg, if_true, if_false, or_true, true_or, true_and, and_true, g01, NJ, q_isOf, inT, iz_nI, decide_eq_true_eq, Nat.add_sub_cancel_left, lnm, hk, hgg, q_hasGuest H hw, q_debt X hw C hg hk1]
    refine ok_mk ⟨tl_rfl, fun h2 _ X2 C2 _ => ?_⟩
    dsimp only
    rw [(mx_g X2).2]
    simp (disch := omega) only [KK, K1, K2, NN, bnd_eq, sb, smr, bI_ite, if_pos, if_neg, if_true, if_false, or_true, true_or, true_and, and_true, g01, NJ, q_isOf, inT, iz_nI, decide_eq_true_eq, Nat.add_sub_cancel_left, lnm, mg h2 X2]
    have ec := q_mdebt C2 (show g < 8 by omega) (show k < 8 by omega)
    rw [show 8 * g + (10 + k) - 10 = 8 * g + k by omega, ec]
    exact ok_mk ⟨rfl, tl_rfl⟩
  have b2' := eq_false_of_ne_true b2
  -- the model goes along its chain before it looks what is asked
  have mc : ∀ h2, MX h2 n → MS h2 s → ∀ (F : Hp → Option (Int32 × Hp)) (v : Int32), (∀ h3, MX h3 n → MS h3 s → h3.1 251 41 = nI (chS s (nG n) 8 (nI 0) g 0 8).1 → h3.1 251 42 = vN (chS s (nG n) 8 (nI 0) g 0 8).2 → F h3 = some (v, h3)) → Okk ((M_chain h2 (nI g)).bind F) (fun q => q.1 = v ∧ Tl h2 q.2) := by
    intro h2 X2 C2 F v hF
    refine okb (q_mchain X2 hw C2 hg) ?_
    rintro h3 ⟨a1, a2, a3⟩
    obtain ⟨X3, C3⟩ := oth X2 C2 a3
    rw [hF h3 X3 C3 a1 a2]
    exact ok_mk ⟨rfl, tlm a3⟩
  by_cases c0 : x5 = nI 0
  · subst c0
    simp (disch := omega) only [KK, K1, K2, NN, bnd_eq, sb, smr, bI_ite, if_pos, if_neg, if_true, if_false, or_true, true_or, true_and, and_true, g01, NJ, q_isOf, inT, iz_nI, decide_eq_true_eq, Nat.add_sub_cancel_left, lnm, hk, q_hasGuest H hw, e1]
    refine ok_mk ⟨tl_rfl, fun h2 _ X2 C2 _ => ?_⟩
    dsimp only
    rw [(mx_g X2).2]
    simp (disch := omega) only [KK, K1, K2, NN, bnd_eq, sb, smr, bI_ite, if_pos, if_neg, if_true, if_false, or_true, true_or, true_and, and_true, g01, NJ, q_isOf, inT, iz_nI, decide_eq_true_eq, Nat.add_sub_cancel_left, lnm, mg h2 X2]
    refine mc h2 X2 C2 _ _ (fun h3 X3 C3 f1 f2 => ?_)
    rw [(C3.2.1 g (by omega)).1]
  by_cases c1 : x5 = nI 1
  · subst c1
    simp (disch := omega) only [KK, K1, K2, NN, bnd_eq, sb, smr, bI_ite, if_pos, if_neg, if_true, if_false, or_true, true_or, true_and, and_true, g01, NJ, q_isOf, inT, iz_nI, decide_eq_true_eq, Nat.add_sub_cancel_left, lnm, hk, q_hasGuest H hw, e2]
    refine ok_mk ⟨tl_rfl, fun h2 _ X2 C2 _ => ?_⟩
    dsimp only
    rw [(mx_g X2).2]
    simp (disch := omega) only [KK, K1, K2, NN, bnd_eq, sb, smr, bI_ite, if_pos, if_neg, if_true, if_false, or_true, true_or, true_and, and_true, g01, NJ, q_isOf, inT, iz_nI, decide_eq_true_eq, Nat.add_sub_cancel_left, lnm, mg h2 X2]
    refine mc h2 X2 C2 _ _ (fun h3 X3 C3 f1 f2 => ?_)
    rw [(C3.2.1 g (by omega)).2.1]
  by_cases c2 : x5 = nI 2
  · subst c2
    simp (disch := omega) only [KK, K1, K2, NN, bnd_eq, sb, smr, bI_ite, if_pos, if_neg, if_true, if_false, or_true, true_or, true_and, and_true, g01, NJ, q_isOf, inT, iz_nI, decide_eq_true_eq, Nat.add_sub_cancel_left, lnm, hk, q_hasGuest H hw, eT]
    refine ok_mk ⟨tl_rfl, fun h2 _ X2 C2 _ => ?_⟩
    dsimp only
    rw [(mx_g X2).2]
    simp (disch := omega) only [KK, K1, K2, NN, bnd_eq, sb, smr, bI_ite, if_pos, if_neg, if_true, if_false, or_true, true_or, true_and, and_true, g01, NJ, q_isOf, inT, iz_nI, decide_eq_true_eq, Nat.add_sub_cancel_left, lnm, mg h2 X2]
    refine mc h2 X2 C2 _ _ (fun h3 X3 C3 f1 f2 => ?_)
    obtain ⟨g1, g2⟩ := q_mtab X3 hw C3 W (show g < 31 by omega)
    rw [g1, sb]
    rcases g2 with g2 | g2
    · rw [if_pos g2, if_pos (by omega)]
    · rw [if_neg (by omega), if_neg (by omega)]
  by_cases c3 : x5 = nI 3
  · subst c3
    simp (disch := omega) only [KK, K1, K2, NN, bnd_eq, sb, smr, bI_ite, if_pos, if_neg, if_true, if_false, or_true, true_or, true_and, and_true, g01, NJ, q_isOf, inT, iz_nI, decide_eq_true_eq, Nat.add_sub_cancel_left, lnm, hk, q_hasGuest H hw, eN]
    refine ok_mk ⟨tl_rfl, fun h2 _ X2 C2 _ => ?_⟩
    dsimp only
    rw [(mx_g X2).2]
    simp (disch := omega) only [KK, K1, K2, NN, bnd_eq, sb, smr, bI_ite, if_pos, if_neg, if_true, if_false, or_true, true_or, true_and, and_true, g01, NJ, q_isOf, inT, iz_nI, decide_eq_true_eq, Nat.add_sub_cancel_left, lnm, mg h2 X2]
    refine mc h2 X2 C2 _ _ (fun h3 X3 C3 f1 f2 => ?_)
    rw [q_mnet X3 hw C3 hg, sb]
  by_cases c4 : x5 = nI 4
  · subst c4
    simp (disch := omega) only [KK, K1, K2, NN, bnd_eq, sb, smr, bI_ite, if_pos, if_neg, if_true, if_false, or_true, true_or, true_and, and_true, g01, NJ, q_isOf, inT, iz_nI, decide_eq_true_eq, Nat.add_sub_cancel_left, lnm, hk, q_hasGuest H hw]
    refine okb eK ?_
    rintro h3 ⟨a1, a2, a3⟩
    rw [a1]
    refine ok_mk ⟨tlc a3, fun h2 _ X2 C2 _ => ?_⟩
    dsimp only
    rw [(mx_g X2).2]
    simp (disch := omega) only [KK, K1, K2, NN, bnd_eq, sb, smr, bI_ite, if_pos, if_neg, if_true, if_false, or_true, true_or, true_and, and_true, g01, NJ, q_isOf, inT, iz_nI, decide_eq_true_eq, Nat.add_sub_cancel_left, lnm, mg h2 X2]
    refine mc h2 X2 C2 _ _ (fun h3 X3 C3 f1 f2 => ?_)
    rw [f1]
  by_cases c5 : x5 = nI 5
  · subst c5
    simp (disch := omega) only [KK, K1, K2, NN, bnd_eq, sb, smr, bI_ite, if_pos, if_neg, if_true, if_false, or_true, true_or, true_and, and_true, g01, NJ, q_isOf, inT, iz_nI, decide_eq_true_eq, Nat.add_sub_cancel_left, lnm, hk, q_hasGuest H hw]
    refine okb eK ?_
    rintro h3 ⟨a1, a2, a3⟩
    rw [a2]
    refine ok_mk ⟨tlc a3, fun h2 _ X2 C2 _ => ?_⟩
    dsimp only
    rw [(mx_g X2).2]
    simp (disch := omega) only [KK, K1, K2, NN, bnd_eq, sb, smr, bI_ite, if_pos, if_neg, if_true, if_false, or_true, true_or, true_and, and_true, g01, NJ, q_isOf, inT, iz_nI, decide_eq_true_eq, Nat.add_sub_cancel_left, lnm, mg h2 X2]
    refine mc h2 X2 C2 _ _ (fun h3 X3 C3 f1 f2 => ?_)
    rw [f2]
  simp (disch := omega) only [KK, K1, K2, NN, bnd_eq, sb, smr, bI_ite, if_pos, if_neg, if_true, if_false, or_true, true_or, true_and, and_true, g01, NJ, q_isOf, inT, iz_nI, decide_eq_true_eq, Nat.add_sub_cancel_left, lnm, hk, hgg, q_hasGuest H hw, b2', c0, c1, c2, c3, c4, c5, Bool.false_eq_true]
  refine ok_mk ⟨tl_rfl, fun h2 _ X2 C2 _ => ?_⟩
  dsimp only
  rw [(mx_g X2).2]
  simp (disch := omega) only [KK, K1, K2, NN, bnd_eq, sb, smr, bI_ite, if_pos, if_neg, if_true, if_false, or_true, true_or, true_and, and_true, g01, NJ, q_isOf, inT, iz_nI, decide_eq_true_eq, Nat.add_sub_cancel_left, lnm, mg h2 X2, b2', c0, c1, c2, c3, c4, c5, Bool.false_eq_true]
  exact mc h2 X2 C2 _ _ (fun h3 X3 C3 f1 f2 => rfl)
