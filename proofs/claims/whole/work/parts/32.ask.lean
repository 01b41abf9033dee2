/-! ===== L3: questions to a state ===== -/
def Tl (h h' : Hp) : Prop := ∀ c i, toldC c → h'.1 c i = h.1 c i
theorem tl_rfl {h : Hp} : Tl h h := fun _ _ _ => rfl
theorem tl_tr {h h1 h2 : Hp} (a : Tl h h1) (b : Tl h1 h2) : Tl h h2 := fun c i hc => (b c i hc).trans (a c i hc)
theorem tl_fr {p : Nat → Nat → Prop} {h h' : Hp} (F : Fr p h h') (hp : ∀ c i, p c i → ¬ ((2 ≤ c ∧ c ≤ 45) ∨ (125 ≤ c ∧ c ≤ 250) ∨ (252 ≤ c ∧ c ≤ 260) ∨ c = 280)) : Tl h h' := fun c i hc => F c i (fun hpc => hp c i hpc hc)
theorem tl_wr {h : Hp} {c i : Nat} {v : Int32} (hc : ¬ ((2 ≤ c ∧ c ≤ 45) ∨ (125 ≤ c ∧ c ≤ 250) ∨ (252 ≤ c ∧ c ≤ 260) ∨ c = 280)) : Tl h (wr h c i v) := fun c' i' h' => wr_c _ _ _ _ (fun e => hc (e ▸ h'))
theorem tl_pbg {h h' : Hp} (F : Fr pbg h h') : Tl h h' := tl_fr F (fun c i hc => by
  have hc' : (c = 57 ∧ 6 ≤ i ∧ i ≤ 9) ∨ (59 ≤ c ∧ c ≤ 62) ∨ (70 ≤ c ∧ c < 90) := hc
  omega)
theorem tl_plm {h h' : Hp} (F : Fr plm h h') : Tl h h' := tl_fr F (fun c i hc => by
  have hc' : (c = 251 ∧ (i = 0 ∨ (23 ≤ i ∧ i ≤ 26))) ∨ ((c = 251 ∧ 38 ≤ i ∧ i ≤ 40) ∨ (263 ≤ c ∧ c ≤ 273)) := hc
  omega)
/-- both answer alike, and what is told stays one -/
def Sm (K : Option (Int32 × Hp)) (M : Hp → Option (Int32 × Hp)) : Prop := Okk K (fun r => Okk (M r.2) (fun q => q.1 = r.1 ∧ Inv q.2))
def Again (n : Inn) (s : St) (x3 : Int32) (h2 : Hp) : Prop := ∃ l, x3 = nI l ∧ ∀ h3, (∀ c i, toldC c ∨ (c = 251 ∧ 23 ≤ i ∧ i ≤ 26) → h3.1 c i = h2.1 c i) → Okk (M_play h3 x3) (fun q => MS q.2 s ∧ Fr pms h3 q.2)
theorem k_reach {h : Hp} (I : Inv h) (x1 x2 x3 : Int32) : Okk (K_reach h x1 x2 x3) (fun r => Inv r.2 ∧ Tl h r.2 ∧ (r.1 = 0 ∨ (r.1 = 57 ∧ ∃ n s, wI n ∧ wS n s ∧ CX r.2 n ∧ CS r.2 s))) := by
  rcases q_reach I x1 x2 x3 with ⟨a, -⟩ | ⟨n, s, hw, W, a, -⟩
  · exact okw a (fun r hr => ⟨inv_fr I (tl_pbg hr.2), tl_pbg hr.2, Or.inl hr.1⟩)
  · exact okw a (fun r hr => ⟨inv_fr I (tl_pbg hr.2.2.2), tl_pbg hr.2.2.2, Or.inr ⟨hr.1, n, s, hw, W, hr.2.1, hr.2.2.1⟩⟩)
theorem sm_reach {h : Hp} (I : Inv h) (x1 x2 x3 : Int32) {fK : Nat × Hp → Option (Int32 × Hp)} {fM : Int32 × Hp → Option (Int32 × Hp)} (v0 : Int32) (k0 : ∀ h1, fK (0, h1) = some (v0, h1)) (m0 : ∀ h1, fM (nI 0, h1) = some (v0, h1)) (hy : ∀ n s h1, wI n → wS n s → CX h1 n → CS h1 s → Inv h1 → Okk (fK (57, h1)) (fun r => Tl h1 r.2 ∧ ∀ h2, Inv h2 → MX h2 n → MS h2 s → Again n s x3 h2 → Okk (fM (nI 1, h2)) (fun q => q.1 = r.1 ∧ Tl h2 q.2))) : Sm ((K_reach h x1 x2 x3).bind fK) (fun h1 => bnd (wr h1 251 0 (0 : Int32)) fun h2 => (M_layState h2 x1 x2 x3).bind fM) := by
  rcases q_reach I x1 x2 x3 with ⟨a, b⟩ | ⟨n, s, hw, W, a, b⟩
  · refine okb a ?_
    rintro ⟨r1, r2⟩ ⟨g1, g2⟩
    dsimp only at g1 g2
    subst g1
    rw [k0]
    refine ok_mk ?_
    show Okk ((M_layState (wr r2 251 0 0) x1 x2 x3).bind fM) (fun q => q.1 = v0 ∧ Inv q.2)
    have t1 : Tl h (wr r2 251 0 0) := tl_tr (tl_pbg g2) (tl_wr (by omega))
    refine okb (b _ t1) ?_
    rintro ⟨p1, p2⟩ ⟨e1, e2⟩
    dsimp only at e1 e2
    subst e1
    rw [m0]
    exact ok_mk ⟨rfl, inv_fr I (tl_tr t1 (tl_plm e2))⟩
  · refine okb a ?_
    rintro ⟨r1, r2⟩ ⟨g1, g2, g3, g4⟩
    dsimp only at g1 g2 g3 g4
    subst g1
    have I2 : Inv r2 := inv_fr I (tl_pbg g4)
    refine okw (hy n s r2 hw W g2 g3 I2) ?_
    rintro ⟨q1, q2⟩ ⟨y1, y2⟩
    show Okk ((M_layState (wr q2 251 0 0) x1 x2 x3).bind fM) (fun q => q.1 = q1 ∧ Inv q.2)
    have t1 : Tl h (wr q2 251 0 0) := tl_tr (tl_tr (tl_pbg g4) y1) (tl_wr (by omega))
    refine okb (b _ t1) ?_
    rintro ⟨p1, p2⟩ ⟨e1, e2, e3, e4, e5⟩
    dsimp only at e1 e2 e3 e4 e5
    subst e1
    have I3 : Inv p2 := inv_fr I (tl_tr t1 (tl_plm e4))
    refine okw (y2 p2 I3 e2 e3 e5) ?_
    rintro ⟨z1, z2⟩ ⟨u1, u2⟩
    exact ⟨u1, inv_fr I3 u2⟩
theorem inT (x : Int32) {T : Nat} (hT : T < 2 ^ 30) : M_in x (nI 10) (nI (9 + T)) = some (bI (iz x 10 T)) ∧ M_in x (nI 20) (nI (19 + T)) = some (bI (iz x 20 T)) ∧ M_in x (nI 30) (nI (29 + T)) = some (bI (iz x 30 T)) ∧ M_in x (nI 40) (nI (39 + T)) = some (bI (iz x 40 T)) ∧ M_in x (nI 50) (nI (49 + T)) = some (bI (iz x 50 T)) := by
  refine ⟨?_, ?_, ?_, ?_, ?_⟩
  · rw [q_in x (by omega) (by omega), show 9 + T + 1 - 10 = T by omega]
  · rw [q_in x (by omega) (by omega), show 19 + T + 1 - 20 = T by omega]
  · rw [q_in x (by omega) (by omega), show 29 + T + 1 - 30 = T by omega]
  · rw [q_in x (by omega) (by omega), show 39 + T + 1 - 40 = T by omega]
  · rw [q_in x (by omega) (by omega), show 49 + T + 1 - 50 = T by omega]
theorem q_paidAll {h : Hp} {s : St} (C : CS h s) : S_paidByAll h = some (sT (sP s) 8) := by
  obtain ⟨-, -, l1, -⟩ := ln_st
  apply ok_to
  unfold S_paidByAll S_paidByAll_l4
  refine lp_for _ 8 (fun k s1 => s1 = (sT (sP s) k, nI k)) _ ?_ ?_ 0 _ (by omega) rfl
  · rintro k s1 hk1 rfl
    unfold S_paidByAll_b4
    simp (disch := omega) only [KK, K1, K2, NN, bnd_eq, sb, smr, bI_ite, if_pos, if_neg, if_true, if_false, or_true, true_or, true_and, and_true, g01, l1, (C.2.1 k hk1).2.1]
    exact ok_mk rfl
  · rintro s1 rfl
    unfold S_paidByAll_b4 S_paidByAll_j25
    simp (disch := omega) only [KK, K1, K2, NN, bnd_eq, sb, smr, bI_ite, if_pos, if_neg, if_true, if_false, or_true, true_or, true_and, and_true, g01]
    exact ⟨_, rfl, rfl⟩
theorem q_mpaid {h : Hp} {s : St} (C : MS h s) : M_allPaid h = some (sT (sP s) 8) := by
  apply ok_to
  unfold M_allPaid M_allPaid_l4
  refine lp_for _ 8 (fun k s1 => s1 = (sT (sP s) k, nI k)) _ ?_ ?_ 0 _ (by omega) rfl
  · rintro k s1 hk1 rfl
    unfold M_allPaid_b4
    simp (disch := omega) only [KK, K1, K2, NN, bnd_eq, sb, smr, bI_ite, if_pos, if_neg, if_true, if_false, or_true, true_or, true_and, and_true, g01, lnm, (C.2.1 k hk1).2.1]
    exact ok_mk rfl
  · rintro s1 rfl
    unfold M_allPaid_b4 M_allPaid_j25
    simp (disch := omega) only [KK, K1, K2, NN, bnd_eq, sb, smr, bI_ite, if_pos, if_neg, if_true, if_false, or_true, true_or, true_and, and_true, g01]
    exact ⟨_, rfl, rfl⟩
theorem mx_g {h : Hp} {n : Inn} (H : MX h n) : h.1 251 24 = nI (nT n) ∧ h.1 251 25 = nI (nG n) := by
  obtain ⟨k, -, -, h4, h5, -⟩ := H
  exact ⟨h4, h5⟩
theorem cx_g {h : Hp} {n : Inn} (X : CX h n) : ∃ a, a < 50 ∧ h.1 57 6 = nI a ∧ CH h a n ∧ kd a = 1 ∧ h.1 a 5 = nI (nT n) ∧ h.1 a 6 = nI (nG n) := by
  obtain ⟨a, ha, h6, H⟩ := X
  exact ⟨a, ha, h6, H, H.1, H.2.1, H.2.2.1⟩
theorem t_state {h : Hp} (I : Inv h) (x1 x2 x3 x4 : Int32) : Sm (K_state h x1 x2 x3 x4) (fun h1 => M_state h1 x1 x2 x3 x4) := by
  unfold K_state M_state
  refine sm_reach I x1 x2 x3 (jN 2) (fun h1 => rfl) (fun h1 => rfl) ?_
  intro n s h1 hw W X C I1
  obtain ⟨a, ha, h6, H, hk, h5, hg⟩ := cx_g X
  have hT := hw.1
  have eP := q_paidAll C
  have eS := q_seated C
  show Okk (if (57 : Nat) = 0 then _ else _) _
  rw [if_neg (by omega)]
  simp only [show (57 : Nat) = 57 from rfl, if_true]
  by_cases b1 : iz x4 10 (nT n) = true
  · obtain ⟨k, hk1, hk2, rfl⟩ := iz_of b1
    unfold K_benchFact K_benchFact_j42
    simp (disch := omega) only [KK, K1, K2, NN, bnd_eq, sb, smr, bI_ite, if_pos, if_neg, if_true, if_false, or_true, true_or, true_and, and_true, g01, NJ, q_isOf, inT, iz_nI, decide_eq_true_eq, Nat.add_sub_cancel_left, lnm, h6, h5, hk, q_bat X hw hk1, (el_st k (by omega)).2, (C.1 k (by omega)).1]
    refine ok_mk ⟨tl_rfl, fun h2 _ X2 C2 _ => ?_⟩
    dsimp only
    rw [(mx_g X2).1]
    simp (disch := omega) only [KK, K1, K2, NN, bnd_eq, sb, smr, bI_ite, if_pos, if_neg, if_true, if_false, or_true, true_or, true_and, and_true, g01, NJ, q_isOf, inT, iz_nI, decide_eq_true_eq, Nat.add_sub_cancel_left, lnm, (C2.1 k (by omega)).1]
    exact ok_mk ⟨rfl, tl_rfl⟩
  have b1' := eq_false_of_ne_true b1
  by_cases b2 : iz x4 20 (nT n) = true
  · obtain ⟨k, hk1, hk2, rfl⟩ := iz_of b2
    unfold K_benchFact K_benchFact_j75
    simp (disch := omega) only [KK, K1, K2, NN, bnd_eq, sb, smr, bI_ite, if_pos, if_neg, if_true, if_false, or_true, true_or, true_and, and_true, g01, NJ, q_isOf, inT, iz_nI, decide_eq_true_eq, Nat.add_sub_cancel_left, lnm, h6, h5, hk, q_bat X hw hk1, (el_st k (by omega)).2, (C.1 k (by omega)).2.1]
    refine ok_mk ⟨tl_rfl, fun h2 _ X2 C2 _ => ?_⟩
    dsimp only
    rw [(mx_g X2).1]
    simp (disch := omega) only [KK, K1, K2, NN, bnd_eq, sb, smr, bI_ite, if_pos, if_neg, if_true, if_false, or_true, true_or, true_and, and_true, g01, NJ, q_isOf, inT, iz_nI, decide_eq_true_eq, Nat.add_sub_cancel_left, lnm, (C2.1 k (by omega)).2.1]
    exact ok_mk ⟨rfl, tl_rfl⟩
  have b2' := eq_false_of_ne_true b2
  by_cases b3 : iz x4 30 (nT n) = true
  · obtain ⟨k, hk1, hk2, rfl⟩ := iz_of b3
    unfold K_benchFact K_benchFact_j95 K_benchFact_j108
    simp (disch := omega) only [KK, K1, K2, NN, bnd_eq, sb, smr, bI_ite, if_pos, if_neg, if_true, if_false, or_true, true_or, true_and, and_true, g01, NJ, q_isOf, inT, iz_nI, decide_eq_true_eq, Nat.add_sub_cancel_left, lnm, h6, h5, hk, q_bat X hw hk1, (el_st k (by omega)).2, (C.1 k (by omega)).2.2.1]
    refine ok_mk ⟨tl_rfl, fun h2 _ X2 C2 _ => ?_⟩
    dsimp only
    rw [(mx_g X2).1]
    simp (disch := omega) only [KK, K1, K2, NN, bnd_eq, sb, smr, bI_ite, if_pos, if_neg, if_true, if_false, or_true, true_or, true_and, and_true, g01, NJ, q_isOf, inT, iz_nI, decide_eq_true_eq, Nat.add_sub_cancel_left, lnm, (C2.1 k (by omega)).2.2.1]
    exact ok_mk ⟨rfl, tl_rfl⟩
  have b3' := eq_false_of_ne_true b3
  by_cases c0 : x4 = nI 0
  · subst c0
    simp (disch := omega) only [KK, K1, K2, NN, bnd_eq, sb, smr, bI_ite, if_pos, if_neg, if_true, if_false, or_true, true_or, true_and, and_true, g01, NJ, q_isOf, inT, iz_nI, decide_eq_true_eq, Nat.add_sub_cancel_left, lnm, C.2.2.2.1]
    refine ok_mk ⟨tl_rfl, fun h2 _ X2 C2 _ => ?_⟩
    dsimp only
    rw [(mx_g X2).1]
    simp (disch := omega) only [KK, K1, K2, NN, bnd_eq, sb, smr, bI_ite, if_pos, if_neg, if_true, if_false, or_true, true_or, true_and, and_true, g01, NJ, q_isOf, inT, iz_nI, decide_eq_true_eq, Nat.add_sub_cancel_left, lnm, C2.2.2.2.1]
    exact ok_mk ⟨rfl, tl_rfl⟩
  by_cases c1 : x4 = nI 1
  · subst c1
    simp (disch := omega) only [KK, K1, K2, NN, bnd_eq, sb, smr, bI_ite, if_pos, if_neg, if_true, if_false, or_true, true_or, true_and, and_true, g01, NJ, q_isOf, inT, iz_nI, decide_eq_true_eq, Nat.add_sub_cancel_left, lnm, C.2.2.2.2.1]
    refine ok_mk ⟨tl_rfl, fun h2 _ X2 C2 _ => ?_⟩
    dsimp only
    rw [(mx_g X2).1]
    simp (disch := omega) only [KK, K1, K2, NN, bnd_eq, sb, smr, bI_ite, if_pos, if_neg, if_true, if_false, or_true, true_or, true_and, and_true, g01, NJ, q_isOf, inT, iz_nI, decide_eq_true_eq, Nat.add_sub_cancel_left, lnm, C2.2.2.2.2.1]
    exact ok_mk ⟨rfl, tl_rfl⟩
  by_cases c2 : x4 = nI 2
  · subst c2
    simp (disch := omega) only [KK, K1, K2, NN, bnd_eq, sb, smr, bI_ite, if_pos, if_neg, if_true, if_false, or_true, true_or, true_and, and_true, g01, NJ, q_isOf, inT, iz_nI, decide_eq_true_eq, Nat.add_sub_cancel_left, lnm, C.2.2.2.2.2]
    refine ok_mk ⟨tl_rfl, fun h2 _ X2 C2 _ => ?_⟩
    dsimp only
    rw [(mx_g X2).1]
    simp (disch := omega) only [KK, K1, K2, NN, bnd_eq, sb, smr, bI_ite, if_pos, if_neg, if_true, if_false, or_true, true_or, true_and, and_true, g01, NJ, q_isOf, inT, iz_nI, decide_eq_true_eq, Nat.add_sub_cancel_left, lnm, C2.2.2.2.2.2]
    exact ok_mk ⟨rfl, tl_rfl⟩
  by_cases c3 : x4 = nI 3
  · subst c3
    simp (disch := omega) only [KK, K1, K2, NN, bnd_eq, sb, smr, bI_ite, if_pos, if_neg, if_true, if_false, or_true, true_or, true_and, and_true, g01, NJ, q_isOf, inT, iz_nI, decide_eq_true_eq, Nat.add_sub_cancel_left, lnm, eP]
    refine ok_mk ⟨tl_rfl, fun h2 _ X2 C2 _ => ?_⟩
    dsimp only
    rw [(mx_g X2).1]
    simp (disch := omega) only [KK, K1, K2, NN, bnd_eq, sb, smr, bI_ite, if_pos, if_neg, if_true, if_false, or_true, true_or, true_and, and_true, g01, NJ, q_isOf, inT, iz_nI, decide_eq_true_eq, Nat.add_sub_cancel_left, lnm, q_mpaid C2]
    exact ok_mk ⟨rfl, tl_rfl⟩
  by_cases c4 : x4 = nI 4
  · subst c4
    simp (disch := omega) only [KK, K1, K2, NN, bnd_eq, sb, smr, bI_ite, if_pos, if_neg, if_true, if_false, or_true, true_or, true_and, and_true, g01, NJ, q_isOf, inT, iz_nI, decide_eq_true_eq, Nat.add_sub_cancel_left, lnm, eS]
    refine ok_mk ⟨tl_rfl, fun h2 _ X2 C2 _ => ?_⟩
    dsimp only
    rw [(mx_g X2).1]
    simp (disch := omega) only [KK, K1, K2, NN, bnd_eq, sb, smr, bI_ite, if_pos, if_neg, if_true, if_false, or_true, true_or, true_and, and_true, g01, NJ, q_isOf, inT, iz_nI, decide_eq_true_eq, Nat.add_sub_cancel_left, lnm, q_mseat C2]
    exact ok_mk ⟨rfl, tl_rfl⟩
  unfold K_benchFact K_benchFact_j95 K_benchFact_j108
  simp (disch := omega) only [KK, K1, K2, NN, bnd_eq, sb, smr, bI_ite, if_pos, if_neg, if_true, if_false, or_true, true_or, true_and, and_true, g01, NJ, q_isOf, inT, iz_nI, decide_eq_true_eq, Nat.add_sub_cancel_left, lnm, h6, h5, hk, b1', b2', b3', c0, c1, c2, c3, c4, Bool.false_eq_true]
  refine ok_mk ⟨tl_rfl, fun h2 _ X2 C2 _ => ?_⟩
  dsimp only
  rw [(mx_g X2).1]
  simp (disch := omega) only [KK, K1, K2, NN, bnd_eq, sb, smr, bI_ite, if_pos, if_neg, if_true, if_false, or_true, true_or, true_and, and_true, g01, NJ, q_isOf, inT, iz_nI, decide_eq_true_eq, Nat.add_sub_cancel_left, lnm, b1', b2', b3', c0, c1, c2, c3, c4, Bool.false_eq_true]
  exact ok_mk ⟨rfl, tl_rfl⟩
