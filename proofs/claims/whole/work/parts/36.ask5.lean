/-! ===== L3: rest, cuts ===== -/
def okR (n : Inn) (s : St) (o u a b t : Nat) : Bool := decide (gnS n s o u t b ≤ gnS n s o u a b) && decide (gnS n s u o t a ≤ gnS n s u o b a)
def alB (p : Nat → Bool) : Nat → Bool
  | 0 => true
  | k + 1 => alB p k && p k
theorem alB_f {p : Nat → Bool} {k : Nat} (h : p k = false) : ∀ m, k < m → alB p m = false
  | 0, hk => absurd hk (Nat.not_lt_zero k)
  | m + 1, hk => by
    show (alB p m && p m) = false
    by_cases e : k = m
    · subst e
      rw [h, Bool.and_false]
    · rw [alB_f h m (by omega), Bool.false_and]
def rsS (n : Inn) (s : St) (o u a b : Nat) : Bool := alB (okR n s o u a b) (nT n)
theorem q_isRest {h : Hp} {n : Inn} {s : St} (X : CX h n) (hw : wI n) (C : CS h s) (W : wS n s) {o u a b : Nat} (ho : o < nG n) (hu : u < nG n) (ha : a < nT n) (hb : b < nT n) : S_isRest h (nI o) (nI u) (nI a) (nI b) = some (bI (rsS n s o u a b)) := by
  obtain ⟨z, hz, h6, H, hk, h5, hgg⟩ := cx_g X
  have hT := hw.1
  apply ok_to
  unfold S_isRest S_isRest_l3 rsS
  refine lp_for _ (nT n) (fun k q => q = nI k ∧ alB (okR n s o u a b) k = true) _ ?_ ?_ 0 _ (by omega) ⟨rfl, rfl⟩
  · rintro k q hk1 ⟨rfl, hA⟩
    unfold S_isRest_b3 S_isRest_j37 S_isRest_j60
    simp (disch := omega) only [KK, K1, K2, NN, bnd_eq, sb, smr, bI_ite, if_pos, if_neg, if_true, if_false, or_true, true_or, true_and, and_true, g01, h6, hk, h5, q_gainOf X hw C W ho hu hk1 hb, q_gainOf X hw C W ho hu ha hb, q_gainOf X hw C W hu ho hk1 ha, q_gainOf X hw C W hu ho hb ha]
    by_cases c1 : gnS n s o u k b ≤ gnS n s o u a b
    · rw [if_pos c1]
      by_cases c2 : gnS n s u o k a ≤ gnS n s u o b a
      · rw [if_pos c2]
        refine ok_mk ⟨rfl, ?_⟩
        show (alB (okR n s o u a b) k && okR n s o u a b k) = true
        rw [hA]
        unfold okR
        rw [decide_eq_true c1, decide_eq_true c2]; rfl
      · rw [if_neg c2]
        refine ok_mk ?_
        show nI 0 = bI _
        rw [alB_f (p := okR n s o u a b) (k := k) (by unfold okR; rw [decide_eq_false c2, Bool.and_false]) _ hk1]; rfl
    · rw [if_neg c1]
      refine ok_mk ?_
      show nI 0 = bI _
      rw [alB_f (p := okR n s o u a b) (k := k) (by unfold okR; rw [decide_eq_false c1, Bool.false_and]) _ hk1]; rfl
  · rintro q ⟨rfl, hA⟩
    unfold S_isRest_b3 S_isRest_j68
    simp (disch := omega) only [KK, K1, K2, NN, bnd_eq, sb, smr, bI_ite, if_pos, if_neg, if_true, if_false, or_true, true_or, true_and, and_true, g01, h6, hk, h5]
    refine ⟨_, rfl, ?_⟩
    show nI 1 = bI _
    rw [hA]; rfl
theorem q_mrest1 {h : Hp} {n : Inn} {s : St} (X : MX h n) (hw : wI n) (C : MS h s) (W : wS n s) {o u a b : Nat} (ho : o < nG n) (hu : u < nG n) (ha : a < nT n) (hb : b < nT n) : M_isRest h (nI o) (nI u) (nI a) (nI b) = some (bI (rsS n s o u a b)) := by
  have hT := hw.1
  have h4 := (mx_g X).1
  apply ok_to
  unfold M_isRest M_isRest_l3 rsS
  refine lp_for _ (nT n) (fun k q => q = nI k ∧ alB (okR n s o u a b) k = true) _ ?_ ?_ 0 _ (by omega) ⟨rfl, rfl⟩
  · rintro k q hk1 ⟨rfl, hA⟩
    unfold M_isRest_b3 M_isRest_j55
    simp (disch := omega) only [KK, K1, K2, NN, bnd_eq, sb, smr, bI_ite, if_pos, if_neg, if_true, if_false, or_true, true_or, true_and, and_true, g01, h4, q_mgain X hw C W ho hu hk1 hb, q_mgain X hw C W ho hu ha hb, q_mgain X hw C W hu ho hk1 ha, q_mgain X hw C W hu ho hb ha]
    by_cases c1 : gnS n s o u k b ≤ gnS n s o u a b
    · rw [if_neg (fun e => Int32.not_le.mpr e c1)]
      by_cases c2 : gnS n s u o k a ≤ gnS n s u o b a
      · rw [if_pos c2]
        refine ok_mk ⟨rfl, ?_⟩
        show (alB (okR n s o u a b) k && okR n s o u a b k) = true
        rw [hA]
        unfold okR
        rw [decide_eq_true c1, decide_eq_true c2]; rfl
      · rw [if_neg c2]
        refine ok_mk ?_
        show nI 0 = bI _
        rw [alB_f (p := okR n s o u a b) (k := k) (by unfold okR; rw [decide_eq_false c2, Bool.and_false]) _ hk1]; rfl
    · rw [if_pos (Int32.not_le.mp c1)]
      refine ok_mk ?_
      show nI 0 = bI _
      rw [alB_f (p := okR n s o u a b) (k := k) (by unfold okR; rw [decide_eq_false c1, Bool.false_and]) _ hk1]; rfl
  · rintro q ⟨rfl, hA⟩
    unfold M_isRest_b3 M_isRest_j63
    simp (disch := omega) only [KK, K1, K2, NN, bnd_eq, sb, smr, bI_ite, if_pos, if_neg, if_true, if_false, or_true, true_or, true_and, and_true, g01, h4]
    refine ⟨_, rfl, ?_⟩
    show nI 1 = bI _
    rw [hA]; rfl
def rcS (n : Inn) (s : St) (o u c : Nat) : Bool := rsS n s o u (c / nT n) (c % nT n)
def hitS (n : Inn) (s : St) (o u : Nat) (k : Int32) (c : Nat) : Bool := rcS n s o u c && decide (nI (cT (rcS n s o u) c) = k)
def reS (n : Inn) (s : St) (o u : Nat) (k : Int32) : Int32 := if fF (hitS n s o u k) (nT n * nT n) < nT n * nT n then nI (fF (hitS n s o u k) (nT n * nT n)) else if k = jN 1 then nI (cT (rcS n s o u) (nT n * nT n)) else jN 1
theorem reS_hit {n : Inn} {s : St} {o u c : Nat} {k : Int32} (hf : ∀ i, i < c → hitS n s o u k i = false) (hc : c < nT n * nT n) (hr : rcS n s o u c = true) (hk : nI (cT (rcS n s o u) c) = k) : reS n s o u k = nI c := by
  have hh : hitS n s o u k c = true := by
    unfold hitS
    rw [hr, decide_eq_true hk]; rfl
  unfold reS
  rw [fF_at' (hitS n s o u k) hf hh _ hc, if_pos hc]
theorem reS_no {n : Inn} {s : St} {o u : Nat} {k : Int32} (hf : ∀ i, i < nT n * nT n → hitS n s o u k i = false) : reS n s o u k = if k = jN 1 then nI (cT (rcS n s o u) (nT n * nT n)) else jN 1 := by
  unfold reS
  rw [if_neg]
  intro h1
  have h2 := fF_at (hitS n s o u k) _ h1
  rw [hf _ h1] at h2
  exact absurd h2 (by decide)
theorem q_krest {h : Hp} {n : Inn} {s : St} (X : CX h n) (hw : wI n) (C : CS h s) (W : wS n s) {o u : Nat} (ho : o < nG n) (hu : u < nG n) (k : Int32) : K_rest_l47 (nI o) (nI u) k 57 (nI (nT n)) (0 : Int32) (0 : Int32) h = some (reS n s o u k, h) := by
  have hT := hw.1
  apply ok_to
  unfold K_rest_l47
  have hTT : nT n * nT n ≤ 5 * 5 := Nat.mul_le_mul hT hT
  refine lp_for _ (nT n) (fun a q => q = (nI (cT (rcS n s o u) (nT n * a)), nI a) ∧ ∀ i, i < nT n * a → hitS n s o u k i = false) _ ?_ ?_ 0 _ (by omega) ⟨rfl, fun i hi => absurd hi (by rw [Nat.mul_zero]; exact Nat.not_lt_zero i)⟩
  · rintro a q ha ⟨rfl, hf⟩
    have hTa : nT n * (a + 1) ≤ nT n * nT n := Nat.mul_le_mul (Nat.le_refl _) ha
    rw [Nat.mul_succ] at hTa
    unfold K_rest_b47
    simp (disch := omega) only [KK, K1, K2, NN, bnd_eq, sb, smr, bI_ite, if_pos, if_neg, if_true, if_false, or_true, true_or, true_and, and_true, g01]
    unfold K_rest_l57
    refine lp_for _ (nT n) (fun b q => q = (nI (cT (rcS n s o u) (nT n * a + b)), nI b) ∧ ∀ i, i < nT n * a + b → hitS n s o u k i = false) _ ?_ ?_ 0 _ (by omega) ⟨rfl, hf⟩
    · rintro b q hb ⟨rfl, hf2⟩
      have hcl := cT_le (rcS n s o u) (nT n * a + b)
      have hrc : rcS n s o u (nT n * a + b) = rsS n s o u a b := by
        unfold rcS
        rw [Nat.mul_add_div (by omega), Nat.div_eq_of_lt hb, Nat.mul_add_mod, Nat.mod_eq_of_lt hb, Nat.add_zero]
      unfold K_rest_b57 K_rest_j99 K_rest_j87
      simp (disch := omega) only [KK, K1, K2, NN, bnd_eq, sb, smr, bI_ite, if_pos, if_neg, if_true, if_false, or_true, true_or, true_and, and_true, g01, q_isRest X hw C W ho hu ha hb, ← hrc]
      by_cases c1 : rcS n s o u (nT n * a + b) = true
      · rw [if_pos c1]
        by_cases c2 : nI (cT (rcS n s o u) (nT n * a + b)) = k
        · rw [if_pos c2]
          refine ok_mk ?_
          show (nI (nT n * a + b), h) = (reS n s o u k, h)
          rw [reS_hit hf2 (by omega) c1 c2]
        · rw [if_neg c2]
          refine ok_mk ⟨?_, ?_⟩
          · show _ = (nI (cT (rcS n s o u) (nT n * a + b) + (if rcS n s o u (nT n * a + b) = true then 1 else 0)), nI (b + 1))
            rw [if_pos c1]
          · intro i hi
            by_cases e : i = nT n * a + b
            · rw [e]
              unfold hitS
              rw [decide_eq_false c2, Bool.and_false]
            · exact hf2 i (by omega)
      · rw [if_neg c1]
        refine ok_mk ⟨?_, ?_⟩
        · show _ = (nI (cT (rcS n s o u) (nT n * a + b) + (if rcS n s o u (nT n * a + b) = true then 1 else 0)), nI (b + 1))
          rw [if_neg c1]
          rfl
        · intro i hi
          by_cases e : i = nT n * a + b
          · rw [e]
            unfold hitS
            rw [eq_false_of_ne_true c1, Bool.false_and]
          · exact hf2 i (by omega)
    · rintro q ⟨rfl, hf2⟩
      unfold K_rest_b57 K_rest_j105
      simp (disch := omega) only [KK, K1, K2, NN, bnd_eq, sb, smr, bI_ite, if_pos, if_neg, if_true, if_false, or_true, true_or, true_and, and_true, g01]
      refine ok_mk ⟨?_, ?_⟩
      · show _ = (nI (cT (rcS n s o u) (nT n * (a + 1))), nI (a + 1))
        rw [Nat.mul_succ]
      · intro i hi
        rw [Nat.mul_succ] at hi
        exact hf2 i hi
  · rintro q ⟨rfl, hf⟩
    unfold K_rest_b47 K_rest_j111 K_rest_j123
    simp (disch := omega) only [KK, K1, K2, NN, bnd_eq, sb, smr, bI_ite, if_pos, if_neg, if_true, if_false, or_true, true_or, true_and, and_true, g01]
    rw [reS_no hf]
    by_cases c : k = jN 1
    · rw [if_pos c, if_pos c]
      exact ⟨_, rfl, rfl⟩
    · rw [if_neg c, if_neg c]
      exact ⟨_, rfl, rfl⟩
theorem q_mrest {h : Hp} {n : Inn} {s : St} (X : MX h n) (hw : wI n) (C : MS h s) (W : wS n s) {o u : Nat} (ho : o < nG n) (hu : u < nG n) (k : Int32) : M_rest_l48 (nI o) (nI u) k (0 : Int32) (0 : Int32) h = some (reS n s o u k, h) := by
  have hT := hw.1
  have h4 := (mx_g X).1
  have hTT : nT n * nT n ≤ 5 * 5 := Nat.mul_le_mul hT hT
  apply ok_to
  unfold M_rest_l48
  refine lp_for _ (nT n * nT n) (fun c q => q = (nI (cT (rcS n s o u) c), nI c) ∧ ∀ i, i < c → hitS n s o u k i = false) _ ?_ ?_ 0 _ (by omega) ⟨rfl, fun i hi => absurd hi (Nat.not_lt_zero i)⟩
  · rintro c q hc ⟨rfl, hf⟩
    have hT0 : 0 < nT n := by
      rcases Nat.eq_zero_or_pos (nT n) with h0 | h0
      · rw [h0] at hc
        omega
      · exact h0
    have hd : c / nT n < nT n := Nat.div_lt_of_lt_mul hc
    have hm : c % nT n < nT n := Nat.mod_lt _ hT0
    have hcl := cT_le (rcS n s o u) c
    unfold M_rest_b48 M_rest_j100 M_rest_j94
    simp (disch := omega) only [KK, K1, K2, NN, bnd_eq, sb, smr, bI_ite, if_pos, if_neg, if_true, if_false, or_true, true_or, true_and, and_true, g01, h4, q_mrest1 X hw C W ho hu hd hm]
    have hrc : rsS n s o u (c / nT n) (c % nT n) = rcS n s o u c := rfl
    rw [hrc]
    by_cases c1 : rcS n s o u c = true
    · rw [if_pos c1]
      by_cases c2 : nI (cT (rcS n s o u) c) = k
      · rw [if_pos c2]
        refine ok_mk ?_
        show (nI c, h) = (reS n s o u k, h)
        rw [reS_hit hf hc c1 c2]
      · rw [if_neg c2]
        refine ok_mk ⟨?_, ?_⟩
        · show _ = (nI (cT (rcS n s o u) c + (if rcS n s o u c = true then 1 else 0)), nI (c + 1))
          rw [if_pos c1]
        · intro i hi
          by_cases e : i = c
          · rw [e]
            unfold hitS
            rw [decide_eq_false c2, Bool.and_false]
          · exact hf i (by omega)
    · rw [if_neg c1]
      refine ok_mk ⟨?_, ?_⟩
      · show _ = (nI (cT (rcS n s o u) c + (if rcS n s o u c = true then 1 else 0)), nI (c + 1))
        rw [if_neg c1]
        rfl
      · intro i hi
        by_cases e : i = c
        · rw [e]
          unfold hitS
          rw [eq_false_of_ne_true c1, Bool.false_and]
        · exact hf i (by omega)
  · rintro q ⟨rfl, hf⟩
    unfold M_rest_b48 M_rest_j106 M_rest_j118
    simp (disch := omega) only [KK, K1, K2, NN, bnd_eq, sb, smr, bI_ite, if_pos, if_neg, if_true, if_false, or_true, true_or, true_and, and_true, g01, h4]
    rw [reS_no hf]
    by_cases c : k = jN 1
    · rw [if_pos c, if_pos c]
      exact ⟨_, rfl, rfl⟩
    · rw [if_neg c, if_neg c]
      exact ⟨_, rfl, rfl⟩
theorem t_rest {h : Hp} (I : Inv h) (x1 x2 x3 x4 x5 x6 : Int32) : Sm (K_rest h x1 x2 x3 x4 x5 x6) (fun h1 => M_rest h1 x1 x2 x3 x4 x5 x6) := by
  unfold K_rest M_rest
  refine sm_re I x1 x2 x3 (jN 1) (fun h1 => rfl) (fun h1 => rfl) ?_
  intro n s h1 hw W X C I1
  obtain ⟨a, ha, h6, H, hk, h5, hgg⟩ := cx_g X
  have hG := hw.2.2.1
  dsimp only
  rw [if_neg (show ¬ (57 : Nat) = 0 by omega), if_pos (show (57 : Nat) = 57 from rfl), h6, nI_clamp (by omega), if_pos hk]
  unfold K_rest_j29 M_rest_j40
  rw [q_hasCouple H hw, sb]
  by_cases b1 : iz x4 0 (nG n) = true
  case neg =>
    refine ⟨jN 1, h1, ?_, tl_rfl, fun h2 _ X2 C2 _ => ⟨h2, ?_, tl_rfl⟩⟩
    · rw [eq_false_of_ne_true b1]; rfl
    · rw [q_isGuest X2 hw, eq_false_of_ne_true b1]; rfl
  obtain ⟨o, ho, ho2, rfl⟩ := iz_0 b1
  by_cases b2 : iz x5 0 (nG n) = true
  case neg =>
    refine ⟨jN 1, h1, ?_, tl_rfl, fun h2 _ X2 C2 _ => ⟨h2, ?_, tl_rfl⟩⟩
    · rw [b1, eq_false_of_ne_true b2]; rfl
    · rw [q_isGuest X2 hw, b1, q_isGuest X2 hw, eq_false_of_ne_true b2]
      simp (disch := omega) only [KK, K1, K2, NN, bnd_eq, sb, smr, bI_ite, if_pos, if_neg, if_true, if_false, or_true, true_or, true_and, and_true, g01, bI_0, Bool.false_eq_true, Bool.true_eq_false] <;> rfl
  obtain ⟨u, hu, hu2, rfl⟩ := iz_0 b2
  by_cases b3 : nI o = nI u
  · refine ⟨jN 1, h1, ?_, tl_rfl, fun h2 _ X2 C2 _ => ⟨h2, ?_, tl_rfl⟩⟩
    · rw [b1, b2, decide_eq_false (fun e => e b3)]; rfl
    · rw [q_isGuest X2 hw, b1, q_isGuest X2 hw, b2, if_pos b3]
      simp (disch := omega) only [KK, K1, K2, NN, bnd_eq, sb, smr, bI_ite, if_pos, if_neg, if_true, if_false, or_true, true_or, true_and, and_true, g01, bI_0, Bool.false_eq_true, Bool.true_eq_false] <;> rfl
  have ecp : (iz (nI o) 0 (nG n) && iz (nI u) 0 (nG n) && decide (nI o ≠ nI u)) = true := by
    rw [b1, b2, decide_eq_true b3]; rfl
  rw [ecp]
  refine ⟨reS n s o u x6, h1, ?_, tl_rfl, fun h2 _ X2 C2 _ => ⟨h2, ?_, tl_rfl⟩⟩
  · rw [if_neg (show ¬ bI true = 0 by decide +kernel), h5, bnd_eq]
    exact q_krest X hw C W ho hu x6
  · rw [q_isGuest X2 hw, b1, q_isGuest X2 hw, b2, if_neg b3]
    exact q_mrest X2 hw C2 W ho hu x6
/-! cuts -/
theorem q_quiet {h : Hp} {n : Inn} (X : MX h n) (hw : wI n) (x : Int32) : M_isQuiet h x = some (bI (pk n x)) := by
  have hc := cp_le (nQ n) x x 8
  unfold M_isQuiet M_isQuiet_j16 pk
  simp (disch := omega) only [KK, K1, K2, NN, bnd_eq, sb, smr, bI_ite, if_pos, if_neg, if_true, if_false, or_true, true_or, true_and, and_true, g01, (q_mcoup X hw x x).1]
  by_cases h0 : cp (nQ n) x x 8 = 0
  · rw [if_pos h0, decide_eq_true h0]; rfl
  · rw [if_neg h0, decide_eq_false h0]; rfl
/-- cuts so far, and the part that goes on -/
def fcS (n : Inn) (x : Bn) : Nat → Nat × Int32
  | 0 => (0, nI 0)
  | k + 1 => if pk n ((fcS n x k).2 ||| (bR x k).1) = true then ((fcS n x k).1, (fcS n x k).2 ||| (bR x k).1) else ((fcS n x k).1 + 1, (bR x k).1)
def fcR (n : Inn) (x : Bn) : Int32 := if alB (fun k => pk n (bR x k).1) (bL x) = true then nI (fcS n x (bL x)).1 else jN 1
theorem fcS_le (n : Inn) (x : Bn) : ∀ k, (fcS n x k).1 ≤ k
  | 0 => Nat.le_refl _
  | k + 1 => by
    have := fcS_le n x k
    show (if pk n ((fcS n x k).2 ||| (bR x k).1) = true then ((fcS n x k).1, (fcS n x k).2 ||| (bR x k).1) else ((fcS n x k).1 + 1, (bR x k).1)).1 ≤ k + 1
    by_cases h : pk n ((fcS n x k).2 ||| (bR x k).1) = true
    · rw [if_pos h]
      show (fcS n x k).1 ≤ k + 1
      omega
    · rw [if_neg h]
      show (fcS n x k).1 + 1 ≤ k + 1
      omega
theorem q_fewCuts {h : Hp} {n : Inn} {a b : Nat} {x : Bn} (H : CH h a n) (hw : wI n) (hb : kd b = 0) (C : CB h b x) (hl : bL x ≤ 12) : P_fewestCuts h a b = some (fcR n x) := by
  have hk := H.1
  apply ok_to
  unfold P_fewestCuts P_fewestCuts_l8
  refine lp_for _ (bL x) (fun k q => q = (nI (fcS n x k).1, (fcS n x k).2, nI k) ∧ alB (fun k => pk n (bR x k).1) k = true) _ ?_ ?_ 0 _ (by omega) ⟨rfl, rfl⟩
  · rintro k q hk1 ⟨rfl, hA⟩
    have hfc := fcS_le n x k
    unfold P_fewestCuts_b8 P_fewestCuts_j34 P_fewestCuts_j65
    simp (disch := omega) only [KK, K1, K2, NN, bnd_eq, sb, smr, bI_ite, if_pos, if_neg, if_true, if_false, or_true, true_or, true_and, and_true, g01, hb, C.1, (q_bnI hb C hl hk1).1, hk, q_isPeaceful H hw]
    by_cases c1 : pk n (bR x k).1 = true
    · rw [if_pos c1]
      have hA2 : alB (fun k => pk n (bR x k).1) (k + 1) = true := by
        show (alB (fun k => pk n (bR x k).1) k && pk n (bR x k).1) = true
        rw [hA, c1]; rfl
      by_cases c2 : pk n ((fcS n x k).2 ||| (bR x k).1) = true
      · rw [if_pos c2]
        refine ok_mk ⟨?_, hA2⟩
        show _ = (nI (if pk n ((fcS n x k).2 ||| (bR x k).1) = true then ((fcS n x k).1, (fcS n x k).2 ||| (bR x k).1) else ((fcS n x k).1 + 1, (bR x k).1)).1, (if pk n ((fcS n x k).2 ||| (bR x k).1) = true then ((fcS n x k).1, (fcS n x k).2 ||| (bR x k).1) else ((fcS n x k).1 + 1, (bR x k).1)).2, nI (k + 1))
        rw [if_pos c2]
      · rw [if_neg c2]
        refine ok_mk ⟨?_, hA2⟩
        show _ = (nI (if pk n ((fcS n x k).2 ||| (bR x k).1) = true then ((fcS n x k).1, (fcS n x k).2 ||| (bR x k).1) else ((fcS n x k).1 + 1, (bR x k).1)).1, (if pk n ((fcS n x k).2 ||| (bR x k).1) = true then ((fcS n x k).1, (fcS n x k).2 ||| (bR x k).1) else ((fcS n x k).1 + 1, (bR x k).1)).2, nI (k + 1))
        rw [if_neg c2]
    · rw [if_neg c1]
      refine ok_mk ?_
      show jN 1 = _
      unfold fcR
      rw [alB_f (p := fun k => pk n (bR x k).1) (k := k) (eq_false_of_ne_true c1) _ hk1]
      rfl
  · rintro q ⟨rfl, hA⟩
    unfold P_fewestCuts_b8 P_fewestCuts_j71
    simp (disch := omega) only [KK, K1, K2, NN, bnd_eq, sb, smr, bI_ite, if_pos, if_neg, if_true, if_false, or_true, true_or, true_and, and_true, g01, hb, C.1]
    refine ⟨_, rfl, ?_⟩
    unfold fcR
    rw [if_pos hA]
    rfl
theorem q_cutsOf {h : Hp} {n : Inn} {t : Nat} {x : Bn} (X : MX h n) (hw : wI n) (ht : t < 5) (C : MB h t x) (hl : bL x ≤ 12) : M_cutsOf h (nI t) = some (fcR n x) := by
  apply ok_to
  unfold M_cutsOf M_cutsOf_l7
  refine lp_for _ (bL x) (fun k q => q = (nI (fcS n x k).1, (fcS n x k).2, nI k) ∧ alB (fun k => pk n (bR x k).1) k = true) _ ?_ ?_ 0 _ (by omega) ⟨rfl, rfl⟩
  · rintro k q hk1 ⟨rfl, hA⟩
    have hfc := fcS_le n x k
    unfold M_cutsOf_b7 M_cutsOf_j41 M_cutsOf_j64 M_cutsOf_j80
    simp (disch := omega) only [KK, K1, K2, NN, bnd_eq, sb, smr, bI_ite, if_pos, if_neg, if_true, if_false, or_true, true_or, true_and, and_true, g01, lnm, C.1, (C.2.2.2.2 k hk1).1, q_quiet X hw]
    by_cases c1 : pk n (bR x k).1 = true
    · rw [if_pos c1]
      have hA2 : alB (fun k => pk n (bR x k).1) (k + 1) = true := by
        show (alB (fun k => pk n (bR x k).1) k && pk n (bR x k).1) = true
        rw [hA, c1]; rfl
      by_cases c2 : pk n ((fcS n x k).2 ||| (bR x k).1) = true
      · simp only [if_pos c2]
        refine ok_mk ⟨?_, hA2⟩
        show _ = (nI (if pk n ((fcS n x k).2 ||| (bR x k).1) = true then ((fcS n x k).1, (fcS n x k).2 ||| (bR x k).1) else ((fcS n x k).1 + 1, (bR x k).1)).1, (if pk n ((fcS n x k).2 ||| (bR x k).1) = true then ((fcS n x k).1, (fcS n x k).2 ||| (bR x k).1) else ((fcS n x k).1 + 1, (bR x k).1)).2, nI (k + 1))
        rw [if_pos c2]
        rfl
      · simp only [if_neg c2]
        refine ok_mk ⟨?_, hA2⟩
        show _ = (nI (if pk n ((fcS n x k).2 ||| (bR x k).1) = true then ((fcS n x k).1, (fcS n x k).2 ||| (bR x k).1) else ((fcS n x k).1 + 1, (bR x k).1)).1, (if pk n ((fcS n x k).2 ||| (bR x k).1) = true then ((fcS n x k).1, (fcS n x k).2 ||| (bR x k).1) else ((fcS n x k).1 + 1, (bR x k).1)).2, nI (k + 1))
        rw [if_neg c2]
    · rw [if_neg c1]
      refine ok_mk ?_
      show jN 1 = _
      unfold fcR
      rw [alB_f (p := fun k => pk n (bR x k).1) (k := k) (eq_false_of_ne_true c1) _ hk1]
      rfl
  · rintro q ⟨rfl, hA⟩
    unfold M_cutsOf_b7 M_cutsOf_j87
    simp (disch := omega) only [KK, K1, K2, NN, bnd_eq, sb, smr, bI_ite, if_pos, if_neg, if_true, if_false, or_true, true_or, true_and, and_true, g01, lnm, C.1]
    refine ⟨_, rfl, ?_⟩
    unfold fcR
    rw [if_pos hA]
    rfl
/-- who is left behind when the sittings of a set are forgotten -/
def lfS (x : Bn) (g : Nat) : Nat → Int32 := oT (fun k => if bt (nI g) k = true then nI 0 else (bR x k).1)
def qfS (n : Inn) (x : Bn) (g : Nat) : Bool := pk n (lfS x g (bL x))
/-- the least set: fewest sittings, of those the least number -/
def lmS (n : Inn) (x : Bn) (L : Nat) : Prop := L < 2 ^ bL x ∧ qfS n x L = true ∧ ∀ g, g < 2 ^ bL x → qfS n x g = true → pc (nI L) ≤ pc (nI g) ∧ (pc (nI L) = pc (nI g) → L ≤ g)
theorem lm_un {n : Inn} {x : Bn} {L M : Nat} (a : lmS n x L) (b : lmS n x M) : L = M := by
  have h1 := a.2.2 M b.1 b.2.1
  have h2 := b.2.2 L a.1 a.2.1
  have e : pc (nI L) = pc (nI M) := by omega
  have h3 := h1.2 e
  have h4 := h2.2 e.symm
  omega
theorem pk_0 (n : Inn) : pk n (nI 0) = true := by
  unfold pk
  have : ∀ k, cp (nQ n) (nI 0) (nI 0) k = 0 := by
    intro k
    induction k with
    | zero => rfl
    | succ k ih =>
      show cp (nQ n) (nI 0) (nI 0) k + (if bt (nI 0) k = true then _ else 0) = 0
      rw [ih, show bt (nI 0) k = false from b_0 k, if_neg (by decide)]
  rw [this]
  rfl
theorem qf_full (n : Inn) (x : Bn) (hl : bL x ≤ 6) : qfS n x (2 ^ bL x - 1) = true := by
  unfold qfS
  have e : lfS x (2 ^ bL x - 1) (bL x) = nI 0 := by
    unfold lfS
    have key : ∀ k, k ≤ bL x → oT (fun k => if bt (nI (2 ^ bL x - 1)) k = true then nI 0 else (bR x k).1) k = nI 0 := by
      intro k
      induction k with
      | zero => intro _; rfl
      | succ k ih =>
        intro hk
        rw [oT_s, ih (by omega), b_nI _ k (by omega), Nat.testBit_two_pow_sub_one, if_pos (by rw [decide_eq_true_eq]; omega)]
        rfl
    exact key _ (Nat.le_refl _)
  rw [e]
  exact pk_0 n
theorem p64 {k : Nat} (h : k ≤ 6) : 2 ^ k ≤ 64 := Nat.pow_le_pow_right (n := 2) (by decide) h
theorem q_leastF {h : Hp} {n : Inn} {a b : Nat} {x : Bn} (H : CH h a n) (hw : wI n) (hb : kd b = 0) (C : CB h b x) (hl : bL x ≤ 6) : Okk (P_leastForgotten h a b) (fun r => ∃ L, r = nI L ∧ lmS n x L) := by
  have hk := H.1
  have hp := p64 hl
  have hp0 : 0 < 2 ^ bL x := Nat.two_pow_pos _
  unfold P_leastForgotten
  have emn : mn (nI (bL x)) (nI 6) = nI (bL x) := by
    unfold mn
    rw [if_neg (by rw [nI_ltI (by omega) (by omega)]; omega)]
  have e31 : bL x < 31 := by omega
  simp (disch := omega) only [KK, K1, K2, NN, bnd_eq, sb, smr, bI_ite, if_pos, if_neg, if_true, if_false, or_true, true_or, true_and, and_true, g01, hb, C.1, emn, sh_nI e31]
  unfold P_leastForgotten_l21
  refine lp_for _ (2 ^ bL x) (fun k q => q.2 = (if k < 2 ^ bL x then nI (2 ^ bL x - 1 - k) else jN 1) ∧ ∃ L, q.1 = nI L ∧ L < 2 ^ bL x ∧ qfS n x L = true ∧ ∀ g, 2 ^ bL x ≤ g + k → g < 2 ^ bL x → qfS n x g = true → pc (nI L) ≤ pc (nI g) ∧ (pc (nI L) = pc (nI g) → L ≤ g)) _ ?_ ?_ 0 _ (by omega) ?_
  · rintro k ⟨q1, q2⟩ hk1 ⟨e1, L, e2, hL1, hL2, hL3⟩
    dsimp only at e1 e2
    rw [if_pos hk1] at e1
    subst e1
    subst e2
    obtain ⟨g, hg⟩ : ∃ g, g = 2 ^ bL x - 1 - k := ⟨_, rfl⟩
    rw [← hg]
    unfold P_leastForgotten_b21
    simp (disch := omega) only [KK, K1, K2, NN, bnd_eq, sb, smr, bI_ite, if_pos, if_neg, if_true, if_false, or_true, true_or, true_and, and_true, g01]
    unfold P_leastForgotten_l32
    refine lp_for _ (bL x) (fun j q => q = (lfS x g j, nI j)) _ ?_ ?_ 0 _ (by omega) rfl
    · rintro j q hj rfl
      unfold P_leastForgotten_b32 P_leastForgotten_j60
      simp (disch := omega) only [KK, K1, K2, NN, bnd_eq, sb, smr, bI_ite, if_pos, if_neg, if_true, if_false, or_true, true_or, true_and, and_true, g01, q_isIn (nI g) (show j < 31 by omega), hb, (q_bnI hb C (show bL x ≤ 12 by omega) hj).1]
      show Okk _ (Sum.elim (fun q => q = (lfS x g j ||| (if bt (nI g) j = true then nI 0 else (bR x j).1), nI (j + 1))) _)
      by_cases c : bt (nI g) j = true
      · rw [if_pos c, if_pos c]
        exact ok_mk rfl
      · rw [if_neg c, if_neg c]
        exact ok_mk rfl
    · rintro q rfl
      have hpg := pc_le (nI g)
      have hpL := pc_le (nI L)
      have lo1 : lo 10 (nI g) := lo_nI (by omega) (by omega)
      have lo2 : lo 10 (nI L) := lo_nI (by omega) (by omega)
      have nxt : nI g + jN 1 = (if k + 1 < 2 ^ bL x then nI (2 ^ bL x - 1 - (k + 1)) else jN 1) := by
        by_cases c : k + 1 < 2 ^ bL x
        · rw [if_pos c]
          have : nI g + jN 1 = nI (g - 1) := by
            obtain ⟨c, hc⟩ : ∃ c, g = c + 1 := ⟨g - 1, by omega⟩
            rw [hc]
            exact pk_m1 c
          rw [this]
          congr 1
          omega
        · rw [if_neg c, show g = 0 by omega]
          rfl
      have skip : (qfS n x g = false ∨ pc (nI L) < pc (nI g)) → ∀ g', 2 ^ bL x ≤ g' + (k + 1) → g' < 2 ^ bL x → qfS n x g' = true → pc (nI L) ≤ pc (nI g') ∧ (pc (nI L) = pc (nI g') → L ≤ g') := by
        intro hs g' h1 h2 h3
        by_cases e : g' = g
        · subst e
          rcases hs with hs | hs
          · rw [hs] at h3
            exact absurd h3 (by decide)
          · exact ⟨by omega, fun e => by omega⟩
        · exact hL3 g' (by omega) h2 h3
      unfold P_leastForgotten_b32 P_leastForgotten_j69 P_leastForgotten_j95
      have eP : H_isPeaceful h a (lfS x g (bL x)) = some (bI (qfS n x g)) := q_isPeaceful H hw _
      rw [if_pos (show nI (bL x) ≤ nI (bL x) by rw [nI_leI (by omega) (by omega)]; omega)]
      refine okmr ?_
      rw [q_bits lo1, sb, q_bits lo2, sb]
      by_cases c1 : pc (nI L) < pc (nI g)
      · rw [if_pos (by rw [nI_ltI (by omega) (by omega)]; exact c1)]
        refine ok_mk ⟨nxt, L, rfl, hL1, hL2, skip (Or.inr c1)⟩
      · rw [if_neg (by rw [nI_ltI (by omega) (by omega)]; exact c1), if_pos hk, eP, sb, bI_it0]
        by_cases c2 : qfS n x g = true
        · rw [if_pos c2]
          refine ok_mk ⟨nxt, g, rfl, by omega, c2, ?_⟩
          intro g' h1 h2 h3
          by_cases e : g' = g
          · subst e
            exact ⟨Nat.le_refl _, fun _ => Nat.le_refl _⟩
          · have := hL3 g' (by omega) h2 h3
            exact ⟨by omega, fun _ => by omega⟩
        · rw [if_neg c2]
          refine ok_mk ⟨nxt, L, rfl, hL1, hL2, skip (Or.inl (eq_false_of_ne_true c2))⟩
  · rintro ⟨q1, q2⟩ ⟨e1, L, e2, hL1, hL2, hL3⟩
    dsimp only at e1 e2
    rw [if_neg (Nat.lt_irrefl _)] at e1
    subst e1
    subst e2
    unfold P_leastForgotten_b21 P_leastForgotten_j101
    rw [if_pos (show jN 1 < 0 by decide +kernel)]
    exact ⟨_, rfl, L, rfl, hL1, hL2, fun g h1 h2 => hL3 g (by omega) h1 h2⟩
  · refine ⟨?_, 2 ^ bL x - 1, rfl, by omega, qf_full n x hl, ?_⟩
    · rw [if_pos hp0]
      rfl
    · intro g h1 h2
      omega
theorem q_leastG {h : Hp} {n : Inn} {t : Nat} {x : Bn} (X : MX h n) (hw : wI n) (ht : t < 5) (C : MB h t x) (hl : bL x ≤ 6) : Okk (M_leastGone h (nI t)) (fun r => ∃ L, r = nI L ∧ lmS n x L) := by
  have hp := p64 hl
  have hp0 : 0 < 2 ^ bL x := Nat.two_pow_pos _
  have e31 : bL x < 31 := by omega
  unfold M_leastGone M_leastGone_l4
  refine lp_for _ (2 ^ bL x) (fun k q => q.2 = nI k ∧ ((q.1 = jN 1 ∧ ∀ g, g < k → qfS n x g = false) ∨ ∃ L, q.1 = nI L ∧ L < k ∧ qfS n x L = true ∧ ∀ g, g < k → qfS n x g = true → pc (nI L) ≤ pc (nI g) ∧ (pc (nI L) = pc (nI g) → L ≤ g))) _ ?_ ?_ 0 _ (by omega) ?_
  · rintro k ⟨q1, q2⟩ hk1 ⟨e1, hB⟩
    dsimp only at e1
    subst e1
    unfold M_leastGone_b4
    simp (disch := omega) only [KK, K1, K2, NN, bnd_eq, sb, smr, bI_ite, if_pos, if_neg, if_true, if_false, or_true, true_or, true_and, and_true, g01, lnm, C.1, sh_nI e31]
    unfold M_leastGone_l22
    refine lp_for _ (bL x) (fun j q => q = (lfS x k j, nI j)) _ ?_ ?_ 0 _ (by omega) rfl
    · rintro j q hj rfl
      unfold M_leastGone_b22 M_leastGone_j60
      simp (disch := omega) only [KK, K1, K2, NN, bnd_eq, sb, smr, bI_ite, if_pos, if_neg, if_true, if_false, or_true, true_or, true_and, and_true, g01, lnm, C.1, q_has (nI k) (show j < 32 by omega), (C.2.2.2.2 j hj).1]
      show Okk _ (Sum.elim (fun q => q = (lfS x k j ||| (if bt (nI k) j = true then nI 0 else (bR x j).1), nI (j + 1))) _)
      by_cases c : bt (nI k) j = true
      · rw [if_pos c, if_pos c]
        exact ok_mk rfl
      · rw [if_neg c, if_neg c]
        exact ok_mk rfl
    · rintro q rfl
      have hpk := pc_le (nI k)
      have eP : M_isQuiet h (lfS x k (bL x)) = some (bI (qfS n x k)) := q_quiet X hw _
      unfold M_leastGone_b22 M_leastGone_j69 M_leastGone_j98 M_leastGone_j94 M_leastGone_j99
      simp (disch := omega) only [KK, K1, K2, NN, bnd_eq, sb, smr, bI_ite, if_pos, if_neg, if_true, if_false, or_true, true_or, true_and, and_true, g01, lnm, C.1, eP]
      by_cases c2 : qfS n x k = true
      · rw [if_pos c2]
        rcases hB with ⟨hq, hn⟩ | ⟨L, hq, hL1, hL2, hL3⟩
        · dsimp only at hq
          subst hq
          rw [if_pos rfl]
          refine ok_mk ⟨rfl, Or.inr ⟨k, rfl, by omega, c2, ?_⟩⟩
          intro g h1 h2
          by_cases e : g = k
          · subst e
            exact ⟨Nat.le_refl _, fun _ => Nat.le_refl _⟩
          · rw [hn g (by omega)] at h2
            exact absurd h2 (by decide)
        · dsimp only at hq
          subst hq
          have hpL := pc_le (nI L)
          simp (disch := omega) only [KK, K1, K2, NN, bnd_eq, sb, smr, bI_ite, if_pos, if_neg, if_true, if_false, or_true, true_or, true_and, and_true, g01, NJ, q_ones]
          by_cases c3 : pc (nI L) ≤ pc (nI k)
          · rw [if_pos c3]
            refine ok_mk ⟨rfl, Or.inr ⟨L, rfl, by omega, hL2, ?_⟩⟩
            intro g h1 h2
            by_cases e : g = k
            · subst e
              exact ⟨c3, fun _ => by omega⟩
            · exact hL3 g (by omega) h2
          · rw [if_neg c3]
            refine ok_mk ⟨rfl, Or.inr ⟨k, rfl, by omega, c2, ?_⟩⟩
            intro g h1 h2
            by_cases e : g = k
            · subst e
              exact ⟨Nat.le_refl _, fun _ => Nat.le_refl _⟩
            · have := hL3 g (by omega) h2
              exact ⟨by omega, fun _ => by omega⟩
      · rw [if_neg c2]
        refine ok_mk ⟨rfl, ?_⟩
        rcases hB with ⟨hq, hn⟩ | ⟨L, hq, hL1, hL2, hL3⟩
        · refine Or.inl ⟨hq, ?_⟩
          intro g h1
          by_cases e : g = k
          · subst e
            exact eq_false_of_ne_true c2
          · exact hn g (by omega)
        · refine Or.inr ⟨L, hq, by omega, hL2, ?_⟩
          intro g h1 h2
          by_cases e : g = k
          · subst e
            exact absurd h2 c2
          · exact hL3 g (by omega) h2
  · rintro ⟨q1, q2⟩ ⟨e1, hB⟩
    dsimp only at e1
    subst e1
    unfold M_leastGone_b4 M_leastGone_j106
    simp (disch := omega) only [KK, K1, K2, NN, bnd_eq, sb, smr, bI_ite, if_pos, if_neg, if_true, if_false, or_true, true_or, true_and, and_true, g01, lnm, C.1, sh_nI e31]
    rcases hB with ⟨hq, hn⟩ | ⟨L, hq, hL1, hL2, hL3⟩
    · have := qf_full n x hl
      rw [hn _ (by omega)] at this
      exact absurd this (by decide)
    · exact ⟨_, rfl, L, hq, hL1, hL2, hL3⟩
  · exact ⟨rfl, Or.inl ⟨rfl, fun g hg => absurd hg (Nat.not_lt_zero g)⟩⟩
theorem t_cuts {h : Hp} (I : Inv h) (x1 x2 x3 x4 x5 : Int32) : Sm (K_cuts h x1 x2 x3 x4 x5) (fun h1 => M_cuts h1 x1 x2 x3 x4 x5) := by
  by_cases b : iz x5 0 3 = true
  case neg =>
    unfold K_cuts
    have nv : ∀ i, i < 3 → ¬ x5 = nI i := by
      rintro i hi rfl
      rw [iz_nI 0 3 (by omega), decide_eq_true_eq] at b
      omega
    refine sm_no I x1 x2 x3 (jN 1) (fun h1 => rfl) ?_ ?_
    · intro n s h1 hw W X C
      refine ⟨h1, ?_, tl_rfl⟩
      dsimp only
      rw [if_neg (show ¬ (57 : Nat) = 0 by omega), if_pos (show (57 : Nat) = 57 from rfl), q_benchAt X hw, sb]
      unfold K_cuts_j25
      rw [if_neg (show ¬ x5 = (0 : Int32) from nv 0 (by omega)), if_neg (show ¬ x5 = (1 : Int32) from nv 1 (by omega)), if_neg (show ¬ x5 = (2 : Int32) from nv 2 (by omega))]
      repeat' split
      all_goals rfl
    · intro h1
      unfold M_cuts M_cuts_j34
      rw [bnd_eq, show (2 : Int32) = nI 2 from rfl, show M_in x5 (0 : Int32) (nI 2) = _ from q_in x5 (a := 0) (b := 2) (by omega) (by omega), sb, bI_it0, show 2 + 1 - 0 = 3 from rfl, if_neg b]
      rfl
  obtain ⟨w, hw3, -, rfl⟩ := iz_0 b
  have em : ∀ h1, M_cuts h1 x1 x2 x3 x4 (nI w) = bnd (wr h1 251 0 (0 : Int32)) fun h1 => (M_layState h1 x1 x2 x3).bind fun (r4, h5) => if r4 = 0 then ((M_cuts_j34 h5)) else ((M_isTable h5 x4).bind fun r7 => if r7 = 0 then ((M_cuts_j34 h5)) else (if nI w = 0 then ((M_cutsOf h5 x4).bind fun r10 => (M_cuts_j74 r10 h5)) else (if nI w = (1 : Int32) then ((M_leastGone h5 x4).bind fun r12 => (M_ones r12).bind fun r13 => (M_cuts_j74 r13 h5)) else ((M_leastGone h5 x4).bind fun r14 => (M_cuts_j74 r14 h5))))) := by
    intro h1
    unfold M_cuts
    rw [bnd_eq, bnd_eq, show M_in (nI w) (0 : Int32) (2 : Int32) = some (bI (iz (nI w) 0 (2 + 1 - 0))) from q_in (nI w) (a := 0) (b := 2) (by omega) (by omega), sb, show 2 + 1 - 0 = 3 from rfl, b, if_neg (show ¬ bI true = 0 by decide +kernel)]
  refine sm_cg ?_ em
  unfold K_cuts
  refine sm_re I x1 x2 x3 (jN 1) (fun h1 => rfl) (fun h1 => rfl) ?_
  intro n s h1 hw W X C I1
  obtain ⟨a, ha, h6, H, hk, h5, hgg⟩ := cx_g X
  have hT := hw.1
  have hG := hw.2.2.1
  dsimp only
  rw [if_neg (show ¬ (57 : Nat) = 0 by omega), if_pos (show (57 : Nat) = 57 from rfl), q_benchAt X hw, sb]
  unfold M_cuts_j34 M_cuts_j74
  by_cases b1 : iz x4 0 (nT n) = true
  case neg =>
    refine ⟨jN 1, h1, ?_, tl_rfl, fun h2 _ X2 C2 _ => ⟨h2, ?_, tl_rfl⟩⟩
    · rw [if_neg b1]
      unfold K_cuts_j25
      rw [if_pos rfl]; rfl
    · rw [q_isTable X2 hw, eq_false_of_ne_true b1]; rfl
  obtain ⟨t, ht, ht2, rfl⟩ := iz_0 b1
  obtain ⟨e1, e2⟩ := el_st t (by omega)
  have Ct := C.1 t (by omega)
  have hL := (W.1 t (by omega)).1.1
  have hk6 := kp_le hw t
  rw [if_pos b1, nI_clamp ht2]
  unfold K_cuts_j25
  rw [if_neg (show ¬ 70 + 4 * t = 0 by omega), h6, nI_clamp (by omega)]
  simp only [show (57 : Nat) = 57 from rfl, if_true]
  have mt : ∀ h2, MX h2 n → M_isTable h2 (nI t) = some (bI true) := fun h2 X2 => by rw [q_isTable X2 hw, b1]
  rcases Nat.lt_or_ge w 1 with c | c
  · have : w = 0 := by omega
    subst this
    refine ⟨fcR n (sB s t), h1, ?_, tl_rfl, fun h2 _ X2 C2 _ => ⟨h2, ?_, tl_rfl⟩⟩
    · rw [if_pos (show nI 0 = (0 : Int32) from rfl), q_fewCuts H hw e2 Ct (by omega)]; rfl
    · rw [mt h2 X2]
      simp (disch := omega) only [KK, K1, K2, NN, bnd_eq, sb, smr, bI_ite, if_pos, if_neg, if_true, if_false, or_true, true_or, true_and, and_true, g01, NJ, bI_0, Bool.true_eq_false, q_cutsOf X2 hw (show t < 5 by omega) (C2.1 t (by omega)) (show bL (sB s t) ≤ 12 by omega)]
  obtain ⟨r, hr, L, rfl, hLm⟩ := q_leastF H hw e2 Ct (show bL (sB s t) ≤ 6 by omega)
  have hL64 : L < 64 := Nat.lt_of_lt_of_le hLm.1 (p64 (by omega))
  have mo : ∀ h2, MX h2 n → MS h2 s → M_leastGone h2 (nI t) = some (nI L) := by
    intro h2 X2 C2
    obtain ⟨r2, hr2, L2, rfl, hLm2⟩ := q_leastG X2 hw (show t < 5 by omega) (C2.1 t (by omega)) (show bL (sB s t) ≤ 6 by omega)
    rw [hr2, lm_un hLm hLm2]
  have lo1 : lo 10 (nI L) := lo_nI (by omega) (by omega)
  rcases Nat.lt_or_ge w 2 with c3 | c3
  · have : w = 1 := by omega
    subst this
    refine ⟨nI (pc (nI L)), h1, ?_, tl_rfl, fun h2 _ X2 C2 _ => ⟨h2, ?_, tl_rfl⟩⟩
    · rw [if_neg (show ¬ nI 1 = (0 : Int32) from ne_nI (b := 0) (by omega) (by omega) (by omega)), if_pos (show nI 1 = (1 : Int32) from rfl), hr, sb, q_bits lo1]; rfl
    · rw [mt h2 X2]
      simp (disch := omega) only [KK, K1, K2, NN, bnd_eq, sb, smr, bI_ite, if_pos, if_neg, if_true, if_false, or_true, true_or, true_and, and_true, g01, NJ, bI_0, Bool.true_eq_false, mo h2 X2 C2, q_ones]
  · have : w = 2 := by omega
    subst this
    refine ⟨nI L, h1, ?_, tl_rfl, fun h2 _ X2 C2 _ => ⟨h2, ?_, tl_rfl⟩⟩
    · rw [if_neg (show ¬ nI 2 = (0 : Int32) from ne_nI (b := 0) (by omega) (by omega) (by omega)), if_neg (show ¬ nI 2 = (1 : Int32) from ne_nI (b := 1) (by omega) (by omega) (by omega)), if_pos (show nI 2 = (2 : Int32) from rfl), hr]; rfl
    · rw [mt h2 X2]
      simp (disch := omega) only [KK, K1, K2, NN, bnd_eq, sb, smr, bI_ite, if_pos, if_neg, if_true, if_false, or_true, true_or, true_and, and_true, g01, NJ, bI_0, Bool.true_eq_false, mo h2 X2 C2]
