/-! ===== L3: weddings asked ===== -/
def dnF (P : Nat → Bool) : Nat → Int32
  | 0 => jN 1
  | j + 1 => if P (63 - j) = true then nI (63 - j) else dnF P j
theorem dnF_s (P : Nat → Bool) (j : Nat) : dnF P (j + 1) = if P (63 - j) = true then nI (63 - j) else dnF P j := rfl
theorem dnF_q (P : Nat → Bool) : ∀ j, j ≤ 64 → ((∀ i, 64 - j ≤ i → i < 64 → P i = false) ∧ dnF P j = jN 1) ∨ ∃ k, 64 - j ≤ k ∧ k < 64 ∧ P k = true ∧ (∀ i, 64 - j ≤ i → i < k → P i = false) ∧ dnF P j = nI k
  | 0, _ => Or.inl ⟨fun i h1 h2 => absurd h1 (by omega), rfl⟩
  | j + 1, hj => by
    rw [dnF_s]
    by_cases hp : P (63 - j) = true
    · rw [if_pos hp]
      exact Or.inr ⟨63 - j, by omega, by omega, hp, fun i h1 h2 => absurd h1 (by omega), rfl⟩
    · rw [if_neg hp]
      rcases dnF_q P j (by omega) with ⟨a1, a2⟩ | ⟨k, k1, k2, k3, k4, k5⟩
      · refine Or.inl ⟨fun i h1 h2 => ?_, a2⟩
        rcases Nat.lt_or_ge i (64 - j) with h3 | h3
        · obtain rfl : i = 63 - j := by omega
          exact eq_false_of_ne_true hp
        · exact a1 i h3 h2
      · refine Or.inr ⟨k, by omega, k2, k3, fun i h1 h2 => ?_, k5⟩
        rcases Nat.lt_or_ge i (64 - j) with h3 | h3
        · obtain rfl : i = 63 - j := by omega
          exact eq_false_of_ne_true hp
        · exact k4 i h3 h2
theorem dnF_64 (P : Nat → Bool) : dnF P 64 = if fF P 64 < 64 then nI (fF P 64) else jN 1 := by
  rcases dnF_q P 64 (Nat.le_refl _) with ⟨a1, a2⟩ | ⟨k, k1, k2, k3, k4, k5⟩
  · rw [if_neg (fun c => ?_), a2]
    have h1 := fF_at P 64 c
    rw [a1 _ (by omega) c] at h1
    exact absurd h1 (by decide)
  · have e := fF_at' P (k := k) (fun i hi => k4 i (by omega) hi) k3 64 k2
    rw [e, if_pos k2, k5]
theorem q_mcouple {h : Hp} {n : Inn} {s : St} (X : MX h n) (hw : wI n) (C : MS h s) (W : wS n s) (L : ∀ d, d ≤ nT n → LV n s d h) {u : Nat} (hu : u < nT n) : M_coupleAt h (nI u) = some (rW n s (nT n) (nI 0) u) := by
  have hT := hw.1
  have e279 : ln 279 = 1536 := by decide +kernel
  apply ok_to
  unfold M_coupleAt M_coupleAt_l7
  refine lp_for _ (u + 1) (fun t q => q.2.2 = nI t ∧ ∃ k, k < 256 ∧ q.1 = nI k ∧ (t ≤ u → rW n s (nT n) (nI 0) u = rW n s (nT n - t) (nI k) (u - t)) ∧ (t = u + 1 → q.2.1 = rW n s (nT n) (nI 0) u)) _ ?_ ?_ 0 _ (by omega) ⟨rfl, 0, by omega, rfl, fun _ => rfl, fun c => absurd c (by omega)⟩
  · rintro t ⟨q1, q2, q3⟩ ht ⟨rfl, k, hk, rfl, hr, -⟩
    have ed : nT n - t = (nT n - (t + 1)) + 1 := by omega
    have et : nT n - ((nT n - (t + 1)) + 1) = t := by omega
    have hr' := hr (by omega)
    rw [ed] at hr'
    unfold M_coupleAt_b7
    dsimp only
    rw [if_neg (show ¬ nI u < nI t from fun e => by rw [i_lt, nI_toInt (by omega), nI_toInt (by omega)] at e; omega)]
    unfold M_coupleAt_l19
    refine lp_for _ 64 (fun j q => q.1 = dnF (gP n s (nT n - (t + 1)) (nI k)) j ∧ q.2 = nI (64 - j) + jN 1) _ ?_ ?_ 0 _ (by omega) ⟨rfl, of_eq_true (by decide +kernel)⟩
    · rintro j ⟨q1, q2⟩ hj ⟨rfl, rfl⟩
      have e5 : nI (64 - j) + jN 1 = nI (63 - j) := by
        rw [show 64 - j = (63 - j) + 1 by omega]
        exact pk_m1 _
      have ew1 := L (nT n - (t + 1)) (by omega) (k ||| tn (63 - j)) (tn_lt (by omega) hk)
      have ew2 := L (nT n - t) (by omega) k hk
      have hlt := tn_lt (c := 63 - j) (by omega) hk
      have hl1 := wM_le n s (nT n - (t + 1)) (nI (k ||| tn (63 - j)))
      have hl2 := wM_le n s (nT n - t) (nI k)
      rw [show nT n - (nT n - (t + 1)) = t + 1 by omega] at ew1
      rw [show nT n - (nT n - t) = t by omega] at ew2
      unfold M_coupleAt_b19 M_coupleAt_j81 M_coupleAt_j82
      dsimp only
      rw [e5, if_neg (show ¬ nI (63 - j) < 0 from fun e => by rw [i_lt, nI_toInt (by omega)] at e; have : (0 : Int32).toInt = 0 := rfl; omega), q_canWed X hw C W (show t < nT n by omega) (show 63 - j < 64 by omega) (nI k), sb, bI_it0, dnF_s]
      have e6 : nI (63 - j) + (-1 : Int32) = nI (64 - (j + 1)) + jN 1 := by
        rw [show 64 - (j + 1) = 63 - j by omega]
        rfl
      rw [bnd_eq, e6]
      have eg : gP n s (nT n - (t + 1)) (nI k) (63 - j) = (okW n s t (63 - j) (nI k) && decide (wM n s (nT n - (t + 1)) (nI k ||| tk (63 - j)) + 1 = wM n s (nT n - t) (nI k))) := by
        unfold gP
        rw [et, ← ed]
      rw [eg]
      cases ok : okW n s t (63 - j) (nI k)
      case false =>
        rw [if_neg (by decide), Bool.false_and, if_neg (by decide)]
        exact ok_mk ⟨rfl, rfl⟩
      rw [if_pos rfl, q_tak (show 63 - j < 64 by omega), sb, n_or, Bool.true_and]
      have et1 : (256 : Int32) * (nI t + (1 : Int32)) + nI (k ||| tn (63 - j)) = nI (256 * (t + 1) + (k ||| tn (63 - j))) := by simp (disch := omega) only [KK, K1, K2, NN, bnd_eq, sb, smr, bI_ite, if_pos, if_neg, if_true, if_false, or_true, true_or, true_and, and_true, g01]
      have et2 : (256 : Int32) * nI t + nI k = nI (256 * t + k) := by simp (disch := omega) only [KK, K1, K2, NN, bnd_eq, sb, smr, bI_ite, if_pos, if_neg, if_true, if_false, or_true, true_or, true_and, and_true, g01]
      rw [et1, et2, if_pos (by rw [e279]; exact nI_in (by omega) (by omega)), if_pos (by rw [e279]; exact nI_in (by omega) (by omega)), nI_clamp (by omega), nI_clamp (by omega), ew1, ew2, show (1 : Int32) + nI (wM n s (nT n - (t + 1)) (nI (k ||| tn (63 - j)))) = nI (1 + wM n s (nT n - (t + 1)) (nI (k ||| tn (63 - j)))) from nI_add _ _]
      rw [tk_n (show 63 - j < 64 by omega), n_or]
      by_cases c1 : wM n s (nT n - (t + 1)) (nI (k ||| tn (63 - j))) + 1 = wM n s (nT n - t) (nI k)
      · rw [if_pos (show nI _ = nI _ by rw [← c1]; congr 1; omega), decide_eq_true c1, if_pos rfl]
        exact ok_mk ⟨rfl, rfl⟩
      · rw [if_neg (fun e => c1 (by have := (nI_eq (by omega) (by omega)).mp e; omega)), decide_eq_false c1, if_neg (by decide)]
        exact ok_mk ⟨rfl, rfl⟩
    · rintro ⟨q1, q2⟩ ⟨rfl, rfl⟩
      unfold M_coupleAt_b19 M_coupleAt_j89 M_coupleAt_j104
      dsimp only
      rw [if_pos (show nI (64 - 64) + jN 1 < 0 from of_eq_true (by decide +kernel)), dnF_64]
      have e0 : rW n s (nT n - (t + 1) + 1) (nI k) 0 = if gC n s (nT n - (t + 1)) (nI k) < 64 then nI (gC n s (nT n - (t + 1)) (nI k)) else jN 1 := rW_0 _ _ _ _
      by_cases c1 : gC n s (nT n - (t + 1)) (nI k) < 64
      · have c1' : fF (gP n s (nT n - (t + 1)) (nI k)) 64 < 64 := c1
        rw [if_pos c1] at e0
        rw [if_pos c1', if_neg (show ¬ nI (fF (gP n s (nT n - (t + 1)) (nI k)) 64) = (-1 : Int32) from ne_jN (by omega)), q_tak c1', sb, n_or, show nI t + (1 : Int32) = nI (t + 1) from nI_add _ _]
        refine okmr (ok_mk ⟨rfl, k ||| tn (gC n s (nT n - (t + 1)) (nI k)), tn_lt c1 hk, rfl, fun h1 => ?_, fun h1 => ?_⟩)
        · rw [hr', show u - t = (u - (t + 1)) + 1 by omega, rW_s, if_pos c1, tk_n c1, n_or]
        · rw [hr', show u - t = 0 by omega, e0]
          rfl
      · have c1' : ¬ fF (gP n s (nT n - (t + 1)) (nI k)) 64 < 64 := c1
        rw [if_neg c1] at e0
        rw [if_neg c1', if_pos (show jN 1 = (-1 : Int32) from rfl), show nI t + (1 : Int32) = nI (t + 1) from nI_add _ _]
        refine okmr (ok_mk ⟨rfl, k, hk, or_z _, fun h1 => ?_, fun h1 => ?_⟩)
        · rw [hr', show u - t = (u - (t + 1)) + 1 by omega, rW_s, if_neg c1]
        · rw [hr', show u - t = 0 by omega, e0]
  · rintro ⟨q1, q2, q3⟩ ⟨rfl, k, hk, rfl, -, hr⟩
    unfold M_coupleAt_b7 M_coupleAt_j112
    dsimp only
    rw [if_pos (show nI u < nI (u + 1) by rw [i_lt, nI_toInt (by omega), nI_toInt (by omega)]; omega)]
    exact okmr (ok_mk (hr rfl))
theorem tl_vs {h h' : Hp} (F : Fr pVs h h') : Tl h h' := tl_fr F (fun c i hc => by
  have hc' : 113 ≤ c ∧ c ≤ 116 := hc
  omega)
theorem tl_279 {h h' : Hp} (F : Fr p279 h h') : Tl h h' := tl_fr F (fun c i hc => by
  have hc' : c = 279 := hc
  omega)
theorem t_weddings {h : Hp} (I : Inv h) (x1 x2 x3 x4 : Int32) : Sm (K_weddings h x1 x2 x3 x4) (fun h1 => M_weddings h1 x1 x2 x3 x4) := by
  unfold K_weddings M_weddings
  refine sm_reach I x1 x2 x3 (jN 2) (fun h1 => rfl) (fun h1 => rfl) ?_
  intro n s h1 hw W X C I1
  have hT := hw.1
  have s1_0 : ¬ nI 1 = (0 : Int32) := by decide +kernel
  show Okk (if (57 : Nat) = 0 then _ else _) _
  rw [if_neg (by omega)]
  refine okb (q_vsearch X hw C W) ?_
  rintro h4 ⟨v1, v2, v3⟩
  have t4 := tl_vs v3
  obtain ⟨a, ha, h6, H, hk, h5, hg⟩ := cx_g (cs_vs hw v3 X C).1
  by_cases c0 : x4 = 0
  · rw [if_pos c0, v1]
    refine ok_mk ⟨t4, fun h2 _ X2 C2 _ => ?_⟩
    dsimp only
    rw [if_neg s1_0, if_pos c0]
    unfold M_weddings_j40 M_weddings_j67
    refine okb (q_findWeds X2 hw C2 W) ?_
    rintro h3 ⟨m1, m2⟩
    rw [if_pos c0]
    have e := m1 (nT n) (Nat.le_refl _) 0 (by omega)
    rw [Nat.sub_self] at e
    exact ok_mk ⟨e, tl_279 m2⟩
  · rw [if_neg c0, if_pos rfl, h6, nI_clamp (show a < 2 ^ 31 by omega), if_pos hk, h5, show K_isOf x4 (10 : Int32) (nI (nT n)) = some (bI (iz x4 10 (nT n))) from q_isOf x4 (a := 10) (by omega) (by omega), sb, bI_it0]
    have em : ∀ h2 : Hp, MX h2 n → M_in x4 (10 : Int32) ((9 : Int32) + h2.1 251 24) = some (bI (iz x4 10 (nT n))) := fun h2 X2 => by
      rw [(mx_g X2).1, show (9 : Int32) + nI (nT n) = nI (9 + nT n) from nI_add _ _]
      exact (inT x4 (by omega)).1
    unfold K_weddings_j74
    by_cases b : iz x4 10 (nT n) = true
    · obtain ⟨u, hu, -, rfl⟩ := iz_of b
      have eu : nI (10 + u) - (10 : Int32) = nI u := (pk_sub (b := 10) (by omega)).trans (by rw [show 10 + u - 10 = u by omega])
      have eV : V_coupleAt h4 (nI u) = some (rW n s (nT n) (nI 0) u) := by
        unfold V_coupleAt V_coupleAt_j19
        rw [show K_isOf (nI u) (0 : Int32) (5 : Int32) = some (bI (iz (nI u) 0 5)) from q_isOf _ (a := 0) (n := 5) (by omega) (by omega), sb, iz_nI 0 5 (by omega), decide_eq_true (show 0 ≤ u ∧ u < 0 + 5 by omega), if_neg (show ¬ bI true = 0 by decide +kernel), if_pos (by rw [ln113.2.2]; exact nI_in (by omega) (by omega)), nI_clamp (show u < 2 ^ 31 by omega), v2 u hu]
      rw [if_pos b, eu, eV, sb]
      refine ok_mk ⟨t4, fun h2 _ X2 C2 _ => ?_⟩
      dsimp only
      rw [if_neg s1_0, if_neg c0, em h2 X2, sb, bI_it0, if_pos b]
      unfold M_weddings_j40 M_weddings_j67
      refine okb (q_findWeds X2 hw C2 W) ?_
      rintro h3 ⟨m1, m2⟩
      obtain ⟨X3, C3⟩ := p279_x m2 X2 C2
      rw [if_neg c0, eu, q_mcouple X3 hw C3 W m1 hu, sb]
      exact ok_mk ⟨rfl, tl_279 m2⟩
    · rw [if_neg b]
      refine ok_mk ⟨t4, fun h2 _ X2 C2 _ => ?_⟩
      dsimp only
      rw [if_neg s1_0, if_neg c0, em h2 X2, sb, bI_it0, if_neg b]
      exact ok_mk ⟨rfl, tl_rfl⟩
