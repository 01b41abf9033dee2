/-! ===== L3: comes, whisper, forgets asked ===== -/
theorem ms_fr {h h' : Hp} {s : St} (C : MS h s) (o : ∀ c i, (263 ≤ c ∧ c ≤ 273) ∨ (c = 251 ∧ 38 ≤ i ∧ i ≤ 40) → h'.1 c i = h.1 c i) : MS h' s := by
  obtain ⟨b1, b2, b3, b4, b5, b6⟩ := C
  refine ⟨?_, ?_, ?_, ?_, ?_, ?_⟩
  · intro t ht
    obtain ⟨z3, z4, z5, z6, zR⟩ := b1 t ht
    refine ⟨by rw [o 266 t (by omega), z3], by rw [o 267 t (by omega), z4], by rw [o 268 t (by omega), z5], by rw [o 269 t (by omega), z6], ?_⟩
    intro i hi
    rw [o 263 _ (by omega), o 264 _ (by omega), o 265 _ (by omega)]
    exact zR i hi
  · intro g hg
    rw [o 270 g (by omega), o 271 g (by omega), o 273 g (by omega)]
    exact b2 g hg
  · intro i hi
    rw [o 272 i (by omega)]
    exact b3 i hi
  · rw [o 251 38 (by omega), b4]
  · rw [o 251 39 (by omega), b5]
  · rw [o 251 40 (by omega), b6]
theorem q_in9 (x : Int32) : M_in x (0 : Int32) (9 : Int32) = some (bI (iz x 0 10)) := q_in x (a := 0) (b := 9) (by omega) (by omega)
theorem q_in2 (x : Int32) : M_in x (0 : Int32) (2 : Int32) = some (bI (iz x 0 3)) := q_in x (a := 0) (b := 2) (by omega) (by omega)
theorem q_of10 (x : Int32) : K_isOf x (0 : Int32) (10 : Int32) = some (bI (iz x 0 10)) := q_isOf x (a := 0) (n := 10) (by omega) (by omega)
theorem cF_fr {h h' : Hp} (F : Fr (fun c i => c = 251 ∧ 46 ≤ i ∧ i ≤ 48) h h') : Tl h h' := tl_fr F (fun c i hc => by
  have := hc.1
  omega)
theorem t_comes {h : Hp} (I : Inv h) (x1 x2 x3 x4 x5 x6 : Int32) : Sm (K_comes h x1 x2 x3 x4 x5 x6) (fun h1 => M_comes h1 x1 x2 x3 x4 x5 x6) := by
  by_cases b : iz x5 0 10 = true
  case neg =>
    unfold K_comes
    refine sm_no I x1 x2 x3 (jN 1) (fun h1 => rfl) ?_ ?_
    · intro n s h1 hw W X C
      obtain ⟨a, ha, h6, H, hk, h5, hgg⟩ := cx_g X
      refine ⟨h1, ?_, tl_rfl⟩
      dsimp only
      unfold K_comes_j38
      rw [if_neg (show ¬ (57 : Nat) = 0 by omega), if_pos (show (57 : Nat) = 57 from rfl), h6, nI_clamp (by omega), if_pos hk, q_hasTable H hw, sb, bI_it0, q_of10, sb, bI_it0, if_neg b]
      split <;> rfl
    · intro h1
      unfold M_comes M_comes_j45
      rw [bnd_eq, q_in9, sb, bI_it0, if_neg b]
      rfl
  obtain ⟨w, hw10, -, rfl⟩ := iz_0 b
  by_cases b2 : iz x6 0 3 = true
  case neg =>
    have nv : ∀ i, i < 3 → ¬ x6 = nI i := by
      rintro i hi rfl
      rw [iz_nI 0 3 (by omega), decide_eq_true_eq] at b2
      omega
    unfold K_comes
    refine sm_no I x1 x2 x3 (jN 1) (fun h1 => rfl) ?_ ?_
    · intro n s h1 hw W X C
      obtain ⟨a, ha, h6, H, hk, h5, hgg⟩ := cx_g X
      dsimp only
      unfold K_comes_j38
      rw [if_neg (show ¬ (57 : Nat) = 0 by omega), if_pos (show (57 : Nat) = 57 from rfl), h6, nI_clamp (by omega), if_pos hk, q_hasTable H hw, sb, bI_it0]
      by_cases b3 : iz x4 0 (nT n) = true
      · obtain ⟨t, ht, ht2, rfl⟩ := iz_0 b3
        obtain ⟨h3, e3, -, -, -, F3⟩ := q_await X hw C W ht hw10
        refine ⟨h3, ?_, tl_pN F3⟩
        rw [if_pos b3, q_of10, b, sb, if_neg (show ¬ bI true = 0 by decide +kernel), e3, sb, if_neg (show ¬ x6 = (0 : Int32) from nv 0 (by omega)), if_neg (show ¬ x6 = (1 : Int32) from nv 1 (by omega)), if_neg (show ¬ x6 = (2 : Int32) from nv 2 (by omega))]
        rfl
      · refine ⟨h1, ?_, tl_rfl⟩
        rw [if_neg b3]; rfl
    · intro h1
      unfold M_comes M_comes_j45
      rw [bnd_eq, q_in9, sb, b, if_neg (show ¬ bI true = 0 by decide +kernel), q_in2, sb, bI_it0, if_neg b2]
      rfl
  obtain ⟨v, hv3, -, rfl⟩ := iz_0 b2
  have em : ∀ h1, M_comes h1 x1 x2 x3 x4 (nI w) (nI v) = bnd (wr h1 251 0 (0 : Int32)) fun h1 => (M_layState h1 x1 x2 x3).bind fun (r6, h7) => if r6 = 0 then ((M_comes_j45 h7)) else ((M_isTable h7 x4).bind fun r9 => if r9 = 0 then ((M_comes_j45 h7)) else ((M_findComes h7 x4 (nI w)).bind fun h11 => if nI v = 0 then ((M_comes_j84 (h11.1 251 46) h11)) else (if nI v = (1 : Int32) then ((M_comes_j84 (h11.1 251 47) h11)) else ((M_comes_j84 (h11.1 251 48) h11))))) := by
    intro h1
    unfold M_comes
    rw [bnd_eq, bnd_eq, q_in9, sb, b, if_neg (show ¬ bI true = 0 by decide +kernel), q_in2, sb, b2, if_neg (show ¬ bI true = 0 by decide +kernel)]
  refine sm_cg ?_ em
  unfold K_comes
  refine sm_re I x1 x2 x3 (jN 1) (fun h1 => rfl) (fun h1 => rfl) ?_
  intro n s h1 hw W X C I1
  obtain ⟨a, ha, h6, H, hk, h5, hgg⟩ := cx_g X
  dsimp only
  unfold K_comes_j38 M_comes_j45 M_comes_j84
  rw [if_neg (show ¬ (57 : Nat) = 0 by omega), if_pos (show (57 : Nat) = 57 from rfl), h6, nI_clamp (by omega), if_pos hk, q_hasTable H hw, sb, bI_it0]
  by_cases b3 : iz x4 0 (nT n) = true
  case neg =>
    refine ⟨jN 1, h1, ?_, tl_rfl, fun h2 _ X2 C2 _ => ⟨h2, ?_, tl_rfl⟩⟩
    · rw [if_neg b3]; rfl
    · rw [q_isTable X2 hw, eq_false_of_ne_true b3]; rfl
  obtain ⟨t, ht, ht2, rfl⟩ := iz_0 b3
  obtain ⟨h3, e3, f1, f2, f3, F3⟩ := q_await X hw C W ht hw10
  have mt : ∀ h2, MX h2 n → M_isTable h2 (nI t) = some (bI true) := fun h2 X2 => by rw [q_isTable X2 hw, b3]
  rw [if_pos b3, q_of10, b, sb, if_neg (show ¬ bI true = 0 by decide +kernel), e3, sb, f1, f2, f3]
  refine ⟨(if v = 0 then vF (cm3 (hT n s t w) 6).1 else if v = 1 then vF (cm3 (hT n s t w) 6).2.1 else nI (cm3 (hT n s t w) 6).2.2), h3, ?_, tl_pN F3, fun h2 _ X2 C2 _ => ?_⟩
  · rcases Nat.lt_or_ge v 1 with c | c
    · have : v = 0 := by omega
      subst this
      simp (disch := omega) only [KK, K1, K2, NN, bnd_eq, sb, smr, bI_ite, if_pos, if_neg, if_true, if_false, or_true, true_or, true_and, and_true, g01]
    · rcases Nat.lt_or_ge v 2 with c2 | c2
      · have : v = 1 := by omega
        subst this
        simp (disch := omega) only [KK, K1, K2, NN, bnd_eq, sb, smr, bI_ite, if_pos, if_neg, if_true, if_false, or_true, true_or, true_and, and_true, g01]
      · have : v = 2 := by omega
        subst this
        simp (disch := omega) only [KK, K1, K2, NN, bnd_eq, sb, smr, bI_ite, if_pos, if_neg, if_true, if_false, or_true, true_or, true_and, and_true, g01]
  · obtain ⟨h4, e4, g1, g2, g3, F4⟩ := q_findC X2 hw C2 W ht hw10
    refine ⟨h4, ?_, cF_fr F4⟩
    rw [if_neg (show ¬ nI 1 = (0 : Int32) from ne_nI (b := 0) (by omega) (by omega) (by omega)), mt h2 X2, sb, if_neg (show ¬ bI true = 0 by decide +kernel), e4, sb, g1, g2, g3]
    rcases Nat.lt_or_ge v 1 with c | c
    · have : v = 0 := by omega
      subst this
      simp (disch := omega) only [KK, K1, K2, NN, bnd_eq, sb, smr, bI_ite, if_pos, if_neg, if_true, if_false, or_true, true_or, true_and, and_true, g01]
    · rcases Nat.lt_or_ge v 2 with c2 | c2
      · have : v = 1 := by omega
        subst this
        simp (disch := omega) only [KK, K1, K2, NN, bnd_eq, sb, smr, bI_ite, if_pos, if_neg, if_true, if_false, or_true, true_or, true_and, and_true, g01]
      · have : v = 2 := by omega
        subst this
        simp (disch := omega) only [KK, K1, K2, NN, bnd_eq, sb, smr, bI_ite, if_pos, if_neg, if_true, if_false, or_true, true_or, true_and, and_true, g01]
/-! whisper -/
def fwS (n : Inn) (s : St) (w t : Nat) : Nat := (cm3 (hT n s t w) 6).1
def whS (f : Nat → Nat) : Nat → Nat × Nat
  | 0 => (0, 5)
  | t + 1 => if f t = 0 then whS f t else if (whS f t).1 = 0 then (f t, t) else if (whS f t).1 ≤ f t then whS f t else (f t, t)
theorem whS_s (f : Nat → Nat) (t : Nat) : whS f (t + 1) = if f t = 0 then whS f t else if (whS f t).1 = 0 then (f t, t) else if (whS f t).1 ≤ f t then whS f t else (f t, t) := rfl
theorem whS_in (f : Nat → Nat) (hf : ∀ t, f t ≤ 6) : ∀ t, (whS f t).1 ≤ 6 ∧ (((whS f t).1 = 0 ∧ (whS f t).2 = 5) ∨ (0 < (whS f t).1 ∧ (whS f t).2 < t))
  | 0 => ⟨Nat.zero_le _, Or.inl ⟨rfl, rfl⟩⟩
  | t + 1 => by
    have ih := whS_in f hf t
    have h6 := hf t
    rw [whS_s]
    by_cases c1 : f t = 0
    · rw [if_pos c1]
      omega
    · rw [if_neg c1]
      by_cases c2 : (whS f t).1 = 0
      · rw [if_pos c2]
        refine ⟨h6, Or.inr ⟨?_, ?_⟩⟩
        · show 0 < f t
          omega
        · show t < t + 1
          omega
      · rw [if_neg c2]
        by_cases c3 : (whS f t).1 ≤ f t
        · rw [if_pos c3]
          omega
        · rw [if_neg c3]
          refine ⟨h6, Or.inr ⟨?_, ?_⟩⟩
          · show 0 < f t
            omega
          · show t < t + 1
            omega
theorem fw_le (n : Inn) (s : St) (w t : Nat) : fwS n s w t ≤ 6 := (cm3_le (hT n s t w) 6).1
theorem vF_n {b : Nat} (h : b ≠ 0) : vF b = nI b := if_neg h
theorem vF_ne {b : Nat} (h : b ≠ 0) (hb : b < 2 ^ 31) : ¬ vF b = jN 1 := by
  rw [vF_n h]
  intro e
  have := (NJ b 1 (by omega) (by omega)).2.2.2.2.1 hb
  rw [this] at e
  exact e
theorem q_kwh {h : Hp} {n : Inn} {s : St} (X : CX h n) (hw : wI n) (C : CS h s) (W : wS n s) {w : Nat} (hw10 : w < 10) (x5 : Int32) : Okk (K_whisper_l36 (nI w) x5 57 (-1 : Int32) (-1 : Int32) (0 : Int32) h) (fun r => r.1 = (if x5 = nI 0 then vF (whS (fwS n s w) (nT n)).1 else vT (whS (fwS n s w) (nT n)).2) ∧ Fr pN h r.2) := by
  have hT5 := hw.1
  unfold K_whisper_l36
  refine lp_for _ (nT n) (fun t q => q.1 = vF (whS (fwS n s w) t).1 ∧ q.2.1 = vT (whS (fwS n s w) t).2 ∧ q.2.2.1 = nI t ∧ Fr pN h q.2.2.2) _ ?_ ?_ 0 _ (by omega) ⟨rfl, rfl, rfl, fr_rfl⟩
  · rintro t ⟨q1, q2, q3, q4⟩ ht ⟨e1, e2, e3, hF⟩
    dsimp only at e1 e2 e3 hF
    subst e1
    subst e2
    subst e3
    have Xq := pN_cx X hF
    have Cq := pN_cs C hF
    obtain ⟨a, ha, h6, H, hk, h5, hgg⟩ := cx_g Xq
    have hin := whS_in (fwS n s w) (fw_le n s w) t
    have hf6 := fw_le n s w t
    unfold K_whisper_b36
    dsimp only
    rw [if_pos (show (57 : Nat) = 57 from rfl), h6, nI_clamp (by omega), if_pos hk, h5, if_neg (by rw [nI_leI (by omega) (by omega)]; omega)]
    refine okb (q_await Xq hw Cq W ht hw10) ?_
    rintro h7 ⟨f1, f2, f3, F7⟩
    have f1' : h7.1 90 5 = vF (fwS n s w t) := f1
    have G := fr_tr hF F7
    have skip : whS (fwS n s w) (t + 1) = whS (fwS n s w) t → Okk (K_whisper_j104 (nI w) x5 57 (vF (whS (fwS n s w) t).1) (vT (whS (fwS n s w) t).2) (nI t) h7) (Sum.elim (fun q => q.1 = vF (whS (fwS n s w) (t + 1)).1 ∧ q.2.1 = vT (whS (fwS n s w) (t + 1)).2 ∧ q.2.2.1 = nI (t + 1) ∧ Fr pN h q.2.2.2) (fun r => r.1 = (if x5 = nI 0 then vF (whS (fwS n s w) (nT n)).1 else vT (whS (fwS n s w) (nT n)).2) ∧ Fr pN h r.2)) := by
      intro e
      unfold K_whisper_j104
      refine ok_mk ⟨?_, ?_, nI_1 t, G⟩
      · rw [e]
      · rw [e]
    have set : whS (fwS n s w) (t + 1) = (fwS n s w t, t) → Okk (K_whisper_j91 (nI w) x5 57 (nI t) h7) (Sum.elim (fun q => q.1 = vF (whS (fwS n s w) (t + 1)).1 ∧ q.2.1 = vT (whS (fwS n s w) (t + 1)).2 ∧ q.2.2.1 = nI (t + 1) ∧ Fr pN h q.2.2.2) (fun r => r.1 = (if x5 = nI 0 then vF (whS (fwS n s w) (nT n)).1 else vT (whS (fwS n s w) (nT n)).2) ∧ Fr pN h r.2)) := by
      intro e
      unfold K_whisper_j91 K_whisper_j104
      rw [f1']
      refine ok_mk ⟨?_, ?_, nI_1 t, G⟩
      · rw [e]
      · rw [e]
        exact (if_neg (by omega)).symm
    rw [f1']
    by_cases c1 : fwS n s w t = 0
    · rw [if_pos (show vF (fwS n s w t) = (-1 : Int32) by rw [c1]; rfl)]
      exact skip (by rw [whS_s, if_pos c1])
    · rw [if_neg (show ¬ vF (fwS n s w t) = (-1 : Int32) from vF_ne c1 (by omega))]
      by_cases c2 : (whS (fwS n s w) t).1 = 0
      · rw [if_pos (show vF (whS (fwS n s w) t).1 = (-1 : Int32) by rw [c2]; rfl)]
        exact set (by rw [whS_s, if_neg c1, if_pos c2])
      · rw [if_neg (show ¬ vF (whS (fwS n s w) t).1 = (-1 : Int32) from vF_ne c2 (by omega))]
        by_cases c3 : (whS (fwS n s w) t).1 ≤ fwS n s w t
        · rw [if_pos (by rw [vF_n c1, vF_n c2, nI_leI (by omega) (by omega)]; exact c3)]
          exact skip (by rw [whS_s, if_neg c1, if_neg c2, if_pos c3])
        · rw [if_neg (by rw [vF_n c1, vF_n c2, nI_leI (by omega) (by omega)]; exact c3)]
          exact set (by rw [whS_s, if_neg c1, if_neg c2, if_neg c3])
  · rintro ⟨q1, q2, q3, q4⟩ ⟨e1, e2, e3, hF⟩
    dsimp only at e1 e2 e3 hF
    subst e1
    subst e2
    subst e3
    obtain ⟨a, ha, h6, H, hk, h5, hgg⟩ := cx_g (pN_cx X hF)
    unfold K_whisper_b36 K_whisper_j110 K_whisper_j122
    dsimp only
    rw [if_pos (show (57 : Nat) = 57 from rfl), h6, nI_clamp (by omega), if_pos hk, h5, if_pos (by rw [nI_leI (by omega) (by omega)]; omega)]
    refine okmr ?_
    by_cases c : x5 = nI 0
    · rw [if_pos (show x5 = (0 : Int32) from c), if_pos c]
      exact ok_mk ⟨rfl, hF⟩
    · rw [if_neg (show ¬ x5 = (0 : Int32) from c), if_neg c]
      exact ok_mk ⟨rfl, hF⟩
def lsV (b : Nat) : Int32 := if b = 0 then nI 1000000 else nI b
theorem q_mwh {h : Hp} {n : Inn} {s : St} (X : MX h n) (hw : wI n) (C : MS h s) (W : wS n s) {w : Nat} (hw10 : w < 10) (x5 : Int32) : Okk (M_whisper_l39 (nI w) x5 (-1 : Int32) (1000000 : Int32) (0 : Int32) h) (fun r => r.1 = (if x5 = nI 0 then vF (whS (fwS n s w) (nT n)).1 else vT (whS (fwS n s w) (nT n)).2) ∧ Fr (fun c i => c = 251 ∧ 46 ≤ i ∧ i ≤ 48) h r.2) := by
  have hT5 := hw.1
  have oX : ∀ {h' : Hp}, Fr (fun c i => c = 251 ∧ 46 ≤ i ∧ i ≤ 48) h h' → MX h' n := fun F => mx_fr X (fun c i hc => F c i (by show ¬ (c = 251 ∧ 46 ≤ i ∧ i ≤ 48); omega))
  have oC : ∀ {h' : Hp}, Fr (fun c i => c = 251 ∧ 46 ≤ i ∧ i ≤ 48) h h' → MS h' s := fun F => ms_fr C (fun c i hc => F c i (by show ¬ (c = 251 ∧ 46 ≤ i ∧ i ≤ 48); omega))
  unfold M_whisper_l39
  refine lp_for _ (nT n) (fun t q => q.1 = vT (whS (fwS n s w) t).2 ∧ q.2.1 = lsV (whS (fwS n s w) t).1 ∧ q.2.2.1 = nI t ∧ Fr (fun c i => c = 251 ∧ 46 ≤ i ∧ i ≤ 48) h q.2.2.2) _ ?_ ?_ 0 _ (by omega) ⟨rfl, rfl, rfl, fr_rfl⟩
  · rintro t ⟨q1, q2, q3, q4⟩ ht ⟨e1, e2, e3, hF⟩
    dsimp only at e1 e2 e3 hF
    subst e1
    subst e2
    subst e3
    have Xq := oX hF
    have hin := whS_in (fwS n s w) (fw_le n s w) t
    have hf6 := fw_le n s w t
    unfold M_whisper_b39
    dsimp only
    rw [(mx_g Xq).1, if_neg (by rw [nI_leI (by omega) (by omega)]; omega)]
    refine okb (q_findC Xq hw (oC hF) W ht hw10) ?_
    rintro h7 ⟨f1, f2, f3, F7⟩
    have f1' : h7.1 251 46 = vF (fwS n s w t) := f1
    have G := fr_tr hF F7
    have skip : whS (fwS n s w) (t + 1) = whS (fwS n s w) t → Okk (M_whisper_j77 (nI w) x5 (vT (whS (fwS n s w) t).2) (lsV (whS (fwS n s w) t).1) (nI t) h7) (Sum.elim (fun q => q.1 = vT (whS (fwS n s w) (t + 1)).2 ∧ q.2.1 = lsV (whS (fwS n s w) (t + 1)).1 ∧ q.2.2.1 = nI (t + 1) ∧ Fr (fun c i => c = 251 ∧ 46 ≤ i ∧ i ≤ 48) h q.2.2.2) (fun r => r.1 = (if x5 = nI 0 then vF (whS (fwS n s w) (nT n)).1 else vT (whS (fwS n s w) (nT n)).2) ∧ Fr (fun c i => c = 251 ∧ 46 ≤ i ∧ i ≤ 48) h r.2)) := by
      intro e
      unfold M_whisper_j77 M_whisper_j78 M_whisper_j92 M_whisper_j108
      rw [if_pos rfl, if_pos rfl]
      refine ok_mk ⟨?_, ?_, nI_1 t, G⟩
      · rw [e]
      · rw [e]
    have set : whS (fwS n s w) (t + 1) = (fwS n s w t, t) → fwS n s w t ≠ 0 → Okk (M_whisper_j78 (nI w) x5 (vT (whS (fwS n s w) t).2) (lsV (whS (fwS n s w) t).1) (nI t) (1 : Int32) h7) (Sum.elim (fun q => q.1 = vT (whS (fwS n s w) (t + 1)).2 ∧ q.2.1 = lsV (whS (fwS n s w) (t + 1)).1 ∧ q.2.2.1 = nI (t + 1) ∧ Fr (fun c i => c = 251 ∧ 46 ≤ i ∧ i ≤ 48) h q.2.2.2) (fun r => r.1 = (if x5 = nI 0 then vF (whS (fwS n s w) (nT n)).1 else vT (whS (fwS n s w) (nT n)).2) ∧ Fr (fun c i => c = 251 ∧ 46 ≤ i ∧ i ≤ 48) h r.2)) := by
      intro e hne
      unfold M_whisper_j78 M_whisper_j92 M_whisper_j108
      rw [f1', if_neg (show ¬ (1 : Int32) = 0 by decide +kernel), if_neg (show ¬ (1 : Int32) = 0 by decide +kernel)]
      refine ok_mk ⟨?_, ?_, nI_1 t, G⟩
      · rw [e]
        exact (if_neg (by omega)).symm
      · rw [e]
        show vF (fwS n s w t) = lsV (fwS n s w t)
        unfold vF lsV
        rw [if_neg hne, if_neg hne]
    rw [f1']
    by_cases c1 : fwS n s w t = 0
    · rw [if_pos (show vF (fwS n s w t) = (-1 : Int32) by rw [c1]; rfl)]
      exact skip (by rw [whS_s, if_pos c1])
    · rw [if_neg (show ¬ vF (fwS n s w t) = (-1 : Int32) from vF_ne c1 (by omega)), vF_n c1]
      by_cases c2 : (whS (fwS n s w) t).1 = 0
      · rw [if_neg (show ¬ lsV (whS (fwS n s w) t).1 ≤ nI (fwS n s w t) by rw [c2]; show ¬ nI 1000000 ≤ _; rw [nI_leI (by omega) (by omega)]; omega)]
        exact set (by rw [whS_s, if_neg c1, if_pos c2]) c1
      · rw [show lsV (whS (fwS n s w) t).1 = nI (whS (fwS n s w) t).1 from if_neg c2] at skip set ⊢
        by_cases c3 : (whS (fwS n s w) t).1 ≤ fwS n s w t
        · rw [if_pos (by rw [nI_leI (by omega) (by omega)]; exact c3)]
          exact skip (by rw [whS_s, if_neg c1, if_neg c2, if_pos c3])
        · rw [if_neg (by rw [nI_leI (by omega) (by omega)]; exact c3)]
          exact set (by rw [whS_s, if_neg c1, if_neg c2, if_neg c3]) c1
  · rintro ⟨q1, q2, q3, q4⟩ ⟨e1, e2, e3, hF⟩
    dsimp only at e1 e2 e3 hF
    subst e1
    subst e2
    subst e3
    have hin := whS_in (fwS n s w) (fw_le n s w) (nT n)
    unfold M_whisper_b39 M_whisper_j116 M_whisper_j127 M_whisper_j134
    dsimp only
    rw [(mx_g (oX hF)).1, if_pos (by rw [nI_leI (by omega) (by omega)]; omega)]
    refine okmr ?_
    rcases hin.2 with ⟨c1, c2⟩ | ⟨c1, c2⟩
    · rw [c2, if_pos (show vT 5 = (-1 : Int32) from rfl)]
      refine ok_mk ⟨?_, hF⟩
      rw [c1]
      show jN 1 = _
      split <;> rfl
    · have e : vT (whS (fwS n s w) (nT n)).2 = nI (whS (fwS n s w) (nT n)).2 := if_neg (by omega)
      rw [if_neg (show ¬ vT (whS (fwS n s w) (nT n)).2 = (-1 : Int32) by
        rw [e]
        intro e2
        have e2' : nI (whS (fwS n s w) (nT n)).2 = jN 1 := e2
        have := (NJ (whS (fwS n s w) (nT n)).2 1 (by omega) (by omega)).2.2.2.2.1 (by omega)
        rw [this] at e2'
        exact e2')]
      by_cases c : x5 = nI 0
      · rw [if_pos (show x5 = (0 : Int32) from c)]
        refine ok_mk ⟨?_, hF⟩
        rw [if_pos c]
        show lsV _ = vF _
        unfold lsV vF
        rw [if_neg (by omega), if_neg (by omega)]
      · rw [if_neg (show ¬ x5 = (0 : Int32) from c)]
        refine ok_mk ⟨?_, hF⟩
        rw [if_neg c]
theorem t_whisper {h : Hp} (I : Inv h) (x1 x2 x3 x4 x5 : Int32) : Sm (K_whisper h x1 x2 x3 x4 x5) (fun h1 => M_whisper h1 x1 x2 x3 x4 x5) := by
  by_cases b : iz x4 0 10 = true
  case neg =>
    unfold K_whisper
    refine sm_no I x1 x2 x3 (jN 1) (fun h1 => rfl) ?_ ?_
    · intro n s h1 hw W X C
      refine ⟨h1, ?_, tl_rfl⟩
      dsimp only
      unfold K_whisper_j25
      rw [if_neg (show ¬ (57 : Nat) = 0 by omega), q_of10, sb, bI_it0, if_neg b]
      rfl
    · intro h1
      unfold M_whisper M_whisper_j26
      rw [bnd_eq, q_in9, sb, bI_it0, if_neg b]
      rfl
  obtain ⟨w, hw10, -, rfl⟩ := iz_0 b
  have em : ∀ h1, M_whisper h1 x1 x2 x3 (nI w) x5 = bnd (wr h1 251 0 (0 : Int32)) fun h10 => (M_layState h10 x1 x2 x3).bind fun (r13, h14) => if r13 = 0 then ((M_whisper_j26 h14)) else ((M_whisper_l39 (nI w) x5 (-1 : Int32) (1000000 : Int32) (0 : Int32) h14)) := by
    intro h1
    unfold M_whisper
    rw [bnd_eq, bnd_eq, q_in9, sb, b, if_neg (show ¬ bI true = 0 by decide +kernel)]
  refine sm_cg ?_ em
  unfold K_whisper
  refine sm_re I x1 x2 x3 (jN 1) (fun h1 => rfl) (fun h1 => rfl) ?_
  intro n s h1 hw W X C I1
  obtain ⟨⟨r1, r2⟩, e1, e2, e3⟩ := q_kwh X hw C W hw10 x5
  dsimp only at e2 e3 ⊢
  refine ⟨r1, r2, ?_, tl_pN e3, fun h2 _ X2 C2 _ => ?_⟩
  · rw [if_neg (show ¬ (57 : Nat) = 0 by omega), q_of10, b, sb, if_neg (show ¬ bI true = 0 by decide +kernel)]
    exact e1
  · obtain ⟨⟨p1, p2⟩, f1, f2, f3⟩ := q_mwh X2 hw C2 W hw10 x5
    dsimp only at f2 f3
    refine ⟨p2, ?_, cF_fr f3⟩
    rw [if_neg (show ¬ nI 1 = (0 : Int32) from ne_nI (b := 0) (by omega) (by omega) (by omega)), f1, e2, f2]
/-! forgets -/
def cfS (n : Inn) (s : St) (t g j : Nat) : Bool := bt (bA (zT n s t j)) g
def fgS (n : Inn) (s : St) (t g : Nat) : Nat := fF (fun j => !cfS n s t g j) 6
theorem cf_6 {n : Inn} {s : St} (hw : wI n) (W : wS n s) {t : Nat} (ht : t < 5) (g : Nat) : cfS n s t g 6 = false := by
  have hk6 := kp_le hw t
  obtain ⟨g1, -⟩ := gB_zT W ht 6
  have qq := qT_zT n s t 6
  unfold cfS
  have e : bA (zT n s t 6) = nI 0 := by
    have key : ∀ k, k ≤ bL (zT n s t 6) → oT (fun k => (bR (zT n s t 6) k).1) k = nI 0 := by
      intro k
      induction k with
      | zero => intro _; rfl
      | succ k ih =>
        intro hk
        rw [oT_s, ih (by omega), (qq k (by omega) (by omega)).1]
        rfl
    exact key _ (Nat.le_refl _)
  rw [e]
  exact b_0 g
theorem q_until {h : Hp} {n : Inn} {s : St} (X : CX h n) (hw : wI n) (C : CS h s) (W : wS n s) {t g : Nat} (ht : t < nT n) (hg : g < 31) : Okk (N_untilForgotten h 57 (nI t) (nI g)) (fun r => r.1 = nI (fgS n s t g) ∧ Fr pN h r.2) := by
  have hT5 := hw.1
  have hk6 := kp_le hw t
  unfold N_untilForgotten
  refine okb (q_try X hw C W ht) ?_
  rintro h1 ⟨B1, F1⟩
  unfold N_untilForgotten_l9
  refine lp_for _ 6 (fun j q => q.1 = nI j ∧ CB q.2 91 (zT n s t j) ∧ Fr pN h q.2 ∧ ∀ i, i < j → cfS n s t g i = true) _ ?_ ?_ 0 _ (by omega) ⟨rfl, B1, pb91 F1, fun i hi => absurd hi (Nat.not_lt_zero i)⟩
  · rintro j ⟨q1, q2⟩ hj ⟨e1, hB, hF, hc⟩
    dsimp only at e1 hB hF
    subst e1
    obtain ⟨g1, g2⟩ := gB_zT W (show t < 5 by omega) j
    have Xq := pN_cx X hF
    have Cq := pN_cs C hF
    obtain ⟨a, ha, h6, H, hk, h5, hgg⟩ := cx_g Xq
    unfold N_untilForgotten_b9 N_untilForgotten_j55
    dsimp only
    rw [if_neg (show ¬ (6 : Int32) ≤ nI j by rw [show (6 : Int32) = nI 6 from rfl, nI_leI (by omega) (by omega)]; omega), q_allGuests k91 hB (by omega), sb, q_isIn _ hg, sb, bI_it0]
    by_cases c : bt (bA (zT n s t j)) g = true
    · rw [if_pos c, if_pos (show (57 : Nat) = 57 from rfl), h6, nI_clamp (by omega), if_pos hk, q_keepsOf H hw (by omega), sb]
      refine okb (q_quietly Xq hw Cq W (show t < 5 by omega) hB) ?_
      rintro h8 ⟨B8, F8⟩
      refine ok_mk ⟨nI_1 j, B8, fr_tr hF (pb91 F8), ?_⟩
      intro i hi
      by_cases e : i = j
      · subst e
        exact c
      · exact hc i (by omega)
    · rw [if_neg c]
      refine ok_mk ⟨?_, hF⟩
      show nI j = nI (fgS n s t g)
      unfold fgS
      rw [fF_at' (fun j => !cfS n s t g j) (fun i hi => by rw [hc i hi]; rfl) (by
        show (!bt (bA (zT n s t j)) g) = true
        rw [eq_false_of_ne_true c]; rfl) 6 hj]
  · rintro ⟨q1, q2⟩ ⟨e1, hB, hF, hc⟩
    dsimp only at e1 hB hF
    subst e1
    unfold N_untilForgotten_b9 N_untilForgotten_j55
    dsimp only
    rw [if_pos (show (6 : Int32) ≤ nI 6 by decide +kernel)]
    refine ok_mk ⟨?_, hF⟩
    show nI 6 = nI (fgS n s t g)
    unfold fgS
    have e : fF (fun j => !cfS n s t g j) 6 = 6 := by
      have h1 := fF_le (fun j => !cfS n s t g j) 6
      rcases Nat.lt_or_ge (fF (fun j => !cfS n s t g j) 6) 6 with h2 | h2
      · have h3 := fF_at (fun j => !cfS n s t g j) 6 h2
        rw [hc _ h2] at h3
        exact absurd h3 (by decide)
      · omega
    rw [e]
/-- two rows in which the same pasts hold a guest -/
def rG (g : Nat) (y z : Bn) : Prop := bL y = bL z ∧ bU y ≤ 12 ∧ ∀ i, i < bL z → bt (bR y i).1 g = bt (bR z i).1 g
theorem rG_s {g k : Nat} {y z : Bn} (N N' wd a b : Int32) (hg : g < 8) (r : rG g y z) : rG g (bSt (bKp (bAp (bSt y (nI 256) wd) (nI 256, wd, N)) k) a b) (bQt z N' k) := by
  obtain ⟨r1, r2, r3⟩ := r
  refine ⟨?_, ?_, ?_⟩
  · show bL y + 1 - (bL y + 1 - k) = bL z + 1 - (bL z + 1 - k)
    rw [r1]
  · show bU y - (bL y + 1 - k) ≤ 12
    omega
  · intro i hi
    have hi' : i < bL z + 1 - (bL z + 1 - k) := hi
    show bt (up (bR y) (bL y) (nI 256, wd, N) (i + (bL y + 1 - k))).1 g = bt (up (bR z) (bL z) (nI 0, nI 0, N') (i + (bL z + 1 - k))).1 g
    rw [r1]
    by_cases e : i + (bL z + 1 - k) = bL z
    · rw [e, up_at, up_at]
      show bt (nI 256) g = bt (nI 0) g
      rw [b_nI 256 g (by omega), show bt (nI 0) g = false from b_0 g]
      exact (by decide : ∀ g, g < 8 → (256 : Nat).testBit g = false) g hg
    · rw [up_ne _ _ e, up_ne _ _ e]
      exact r3 _ (by omega)
theorem bA_eq {g : Nat} {y z : Bn} (r : rG g y z) : bt (bA y) g = bt (bA z) g := by
  obtain ⟨r1, r2, r3⟩ := r
  apply Bool.eq_iff_iff.mpr
  show bt (oT _ (bL y)) g = true ↔ bt (oT _ (bL z)) g = true
  rw [b_oT, b_oT, r1]
  constructor
  · rintro ⟨j, hj, h⟩
    exact ⟨j, hj, by rw [← r3 j hj]; exact h⟩
  · rintro ⟨j, hj, h⟩
    exact ⟨j, hj, by rw [r3 j hj]; exact h⟩
theorem q_mcro {h : Hp} {t : Nat} {x : Bn} (ht : t < 5) (Ct : MB h t x) (hL : bL x ≤ 12) : M_crowdOf h (nI t) = some (bA x) := by
  apply ok_to
  unfold M_crowdOf M_crowdOf_l4
  refine lp_for _ (bL x) (fun k q => q = (oT (fun k => (bR x k).1) k, nI k)) _ ?_ ?_ 0 _ (by omega) rfl
  · rintro k q hk1 rfl
    unfold M_crowdOf_b4
    simp (disch := omega) only [KK, K1, K2, NN, bnd_eq, sb, smr, bI_ite, if_pos, if_neg, if_true, if_false, or_true, true_or, true_and, and_true, g01, lnm, Ct.1, (Ct.2.2.2.2 k hk1).1]
    exact ok_mk rfl
  · rintro q rfl
    unfold M_crowdOf_b4 M_crowdOf_j34
    simp (disch := omega) only [KK, K1, K2, NN, bnd_eq, sb, smr, bI_ite, if_pos, if_neg, if_true, if_false, or_true, true_or, true_and, and_true, g01, lnm, Ct.1]
    exact ⟨_, rfl, rfl⟩
theorem q_mforg {h : Hp} {n : Inn} {s : St} (X : MX h n) (hw : wI n) (W : wS n s) {t g : Nat} (ht : t < nT n) (hg : g < 8) {y0 : Bn} (B : MB h t y0) (r0 : rG g y0 (zT n s t 0)) : Okk (M_forgets_l54 (nI t) (nI g) (0 : Int32) h) (fun r => r.1 = nI (fgS n s t g) ∧ Fr pms h r.2) := by
  have hT5 := hw.1
  have hk6 := kp_le hw t
  unfold M_forgets_l54
  refine lp_for _ 6 (fun j q => q.1 = nI j ∧ (∃ y, MB q.2 t y ∧ rG g y (zT n s t j)) ∧ Fr pms h q.2 ∧ ∀ i, i < j → cfS n s t g i = true) _ ?_ ?_ 0 _ (by omega) ⟨rfl, ⟨y0, B, r0⟩, fr_rfl, fun i hi => absurd hi (Nat.not_lt_zero i)⟩
  · rintro j ⟨q1, q2⟩ hj ⟨e1, ⟨y, hB, hr⟩, hF, hc⟩
    dsimp only at e1 hB hF
    subst e1
    obtain ⟨g1, g2⟩ := gB_zT W (show t < 5 by omega) j
    have hyl := hr.1
    have hyu := hr.2.1
    have Xq : MX q2 n := mx_st X hF
    have eb : bt (bA y) g = cfS n s t g j := bA_eq hr
    unfold M_forgets_b54 M_forgets_j90
    dsimp only
    rw [q_mcro (show t < 5 by omega) hB (by omega), sb, q_has _ (show g < 32 by omega), sb, bI_it0, eb]
    by_cases c : cfS n s t g j = true
    · rw [if_pos c]
      have B5 : MB (wr q2 268 t (nI 256)) t (bSt y (nI 256) (bW y)) := by
        obtain ⟨c3, c4, c5, c6, cR⟩ := hB
        refine ⟨?_, ?_, ?_, ?_, ?_⟩
        · simp (disch := omega) only [KK, K1, K2, NN, bnd_eq, sb, smr, bI_ite, if_pos, if_neg, if_true, if_false, or_true, true_or, true_and, and_true, g01, wr_at, wr_c, wr_p, c3]; rfl
        · simp (disch := omega) only [KK, K1, K2, NN, bnd_eq, sb, smr, bI_ite, if_pos, if_neg, if_true, if_false, or_true, true_or, true_and, and_true, g01, wr_at, wr_c, wr_p, c4]; rfl
        · simp (disch := omega) only [KK, K1, K2, NN, bnd_eq, sb, smr, bI_ite, if_pos, if_neg, if_true, if_false, or_true, true_or, true_and, and_true, g01, wr_at, wr_c, wr_p, ]; rfl
        · simp (disch := omega) only [KK, K1, K2, NN, bnd_eq, sb, smr, bI_ite, if_pos, if_neg, if_true, if_false, or_true, true_or, true_and, and_true, g01, wr_at, wr_c, wr_p, c6]; rfl
        · intro i hi
          simp (disch := omega) only [KK, K1, K2, NN, bnd_eq, sb, smr, bI_ite, if_pos, if_neg, if_true, if_false, or_true, true_or, true_and, and_true, g01, wr_at, wr_c, wr_p, ]
          exact cR i hi
      have F5 : Fr (pm t) q2 (wr q2 268 t (nI 256)) := fr_wr (Or.inr ⟨by omega, by omega, rfl⟩)
      simp (disch := omega) only [KK, K1, K2, NN, bnd_eq, sb, smr, bI_ite, if_pos, if_neg, if_true, if_false, or_true, true_or, true_and, and_true, g01, lnm]
      refine okb (q_becomes (mx_st Xq (fr_mo F5 pm_pms)) hw ht B5 (show bL y ≤ 11 by omega) (show bU y ≤ 12 by omega)) ?_
      rintro h6 ⟨B6, F6⟩
      rw [← kp_at ht] at B6
      refine ok_mk ⟨rfl, ⟨_, B6, rG_s _ (sN s) (bW y) _ _ hg hr⟩, fr_tr hF (fr_tr (fr_mo F5 pm_pms) (fr_mo F6 pm_pms)), ?_⟩
      intro i hi
      by_cases e : i = j
      · subst e
        exact c
      · exact hc i (by omega)
    · rw [if_neg c]
      refine ok_mk ⟨?_, hF⟩
      show nI j = nI (fgS n s t g)
      unfold fgS
      rw [fF_at' (fun j => !cfS n s t g j) (fun i hi => by rw [hc i hi]; rfl) (by
        show (!cfS n s t g j) = true
        rw [eq_false_of_ne_true c]; rfl) 6 hj]
  · rintro ⟨q1, q2⟩ ⟨e1, ⟨y, hB, hr⟩, hF, hc⟩
    dsimp only at e1 hB hF
    subst e1
    obtain ⟨g1, g2⟩ := gB_zT W (show t < 5 by omega) 6
    have hyl := hr.1
    have eb : bt (bA y) g = cfS n s t g 6 := bA_eq hr
    unfold M_forgets_b54 M_forgets_j90
    dsimp only
    rw [q_mcro (show t < 5 by omega) hB (by omega), sb, q_has _ (show g < 32 by omega), sb, bI_it0, eb, cf_6 hw W (show t < 5 by omega) g, if_neg (by decide)]
    refine ok_mk ⟨?_, hF⟩
    show nI 6 = nI (fgS n s t g)
    unfold fgS
    have e : fF (fun j => !cfS n s t g j) 6 = 6 := by
      have h1 := fF_le (fun j => !cfS n s t g j) 6
      rcases Nat.lt_or_ge (fF (fun j => !cfS n s t g j) 6) 6 with h2 | h2
      · have h3 := fF_at (fun j => !cfS n s t g j) 6 h2
        rw [hc _ h2] at h3
        exact absurd h3 (by decide)
      · omega
    rw [e]
theorem tl_pms {h h' : Hp} (F : Fr pms h h') : Tl h h' := tl_fr F (fun c i hc => by
  have hc' : (c = 251 ∧ 38 ≤ i ∧ i ≤ 40) ∨ (263 ≤ c ∧ c ≤ 273) := hc
  omega)
theorem t_forgets {h : Hp} (I : Inv h) (x1 x2 x3 x4 x5 : Int32) : Sm (K_forgets h x1 x2 x3 x4 x5) (fun h1 => M_forgets h1 x1 x2 x3 x4 x5) := by
  unfold K_forgets M_forgets
  refine sm_re I x1 x2 x3 (jN 1) (fun h1 => rfl) (fun h1 => rfl) ?_
  intro n s h1 hw W X C I1
  obtain ⟨a, ha, h6, H, hk, h5, hgg⟩ := cx_g X
  have hT5 := hw.1
  have hG := hw.2.2.1
  dsimp only
  unfold K_forgets_j40 M_forgets_j33
  rw [if_neg (show ¬ (57 : Nat) = 0 by omega), if_pos (show (57 : Nat) = 57 from rfl), h6, nI_clamp (by omega), if_pos hk, q_hasTable H hw, sb, bI_it0]
  by_cases b1 : iz x4 0 (nT n) = true
  case neg =>
    refine ⟨jN 1, h1, ?_, tl_rfl, fun h2 _ X2 C2 _ => ⟨h2, ?_, tl_rfl⟩⟩
    · rw [if_neg b1]; rfl
    · rw [q_isTable X2 hw, eq_false_of_ne_true b1]; rfl
  obtain ⟨t, ht, ht2, rfl⟩ := iz_0 b1
  rw [if_pos b1, q_hasGuest H hw, sb, bI_it0]
  by_cases b2 : iz x5 0 (nG n) = true
  case neg =>
    refine ⟨jN 1, h1, ?_, tl_rfl, fun h2 _ X2 C2 _ => ⟨h2, ?_, tl_rfl⟩⟩
    · rw [if_neg b2]; rfl
    · rw [q_isTable X2 hw, b1, q_isGuest X2 hw, eq_false_of_ne_true b2]
      simp (disch := omega) only [KK, K1, K2, NN, bnd_eq, sb, smr, bI_ite, if_pos, if_neg, if_true, if_false, or_true, true_or, true_and, and_true, g01, bI_0, Bool.false_eq_true, Bool.true_eq_false] <;> rfl
  obtain ⟨g, hg, hg2, rfl⟩ := iz_0 b2
  rw [if_pos b2]
  obtain ⟨⟨r1, r2⟩, e1, e2, e3⟩ := q_until X hw C W ht (show g < 31 by omega)
  dsimp only at e2 e3
  refine ⟨r1, r2, ?_, tl_pN e3, fun h2 _ X2 C2 _ => ?_⟩
  · rw [e1]; rfl
  · have Ct := C2.1 t (by omega)
    have Wt := (W.1 t (by omega)).1
    have hk6 := kp_le hw t
    have hL := Wt.1
    obtain ⟨hl, hu⟩ := wB_u Wt (by omega)
    have pre : ∃ p2, (if inb (nI t) (ln 268) then (if (h2.1 268 (Int32.toNatClampNeg (nI t))) = 0 then ((M_forgets_j51 (nI t) (nI g) h2)) else ((M_becomesPast h2 (nI t)).bind fun h18 => (M_forgets_j51 (nI t) (nI g) h18))) else none) = some (nI (fgS n s t g), p2) ∧ Tl h2 p2 := by
      rw [if_pos (show inb (nI t) (ln 268) by rw [show ln 268 = 5 by decide +kernel]; exact nI_in (by omega) (by omega)), nI_clamp (by omega), Ct.2.2.1]
      unfold M_forgets_j51
      by_cases c : bS (sB s t) = nI 0
      · rw [if_pos (show bS (sB s t) = 0 from c)]
        have ez : zT n s t 0 = bSt (sB s t) (nI 0) (nI 0) := if_pos c
        obtain ⟨⟨p1, p2⟩, f1, f2, f3⟩ := q_mforg X2 hw W ht (show g < 8 by omega) Ct (by rw [ez]; exact ⟨rfl, hu, fun i _ => rfl⟩)
        dsimp only at f2 f3
        exact ⟨p2, by rw [f1, f2], tl_pms f3⟩
      · rw [if_neg (show ¬ bS (sB s t) = 0 from c)]
        have ez : zT n s t 0 = bSt (bKp (bAp (sB s t) (bS (sB s t), bW (sB s t), sN s)) (kp n t)) (nI 0) (nI 0) := if_neg c
        obtain ⟨h18, f0, B18, F18⟩ := q_becomes X2 hw ht Ct (by omega) hu
        rw [C2.2.2.2.1, ← kp_at ht] at B18
        obtain ⟨⟨p1, p2⟩, f1, f2, f3⟩ := q_mforg (mx_st X2 (fr_mo F18 pm_pms)) hw W ht (show g < 8 by omega) B18 (by
          rw [ez]
          refine ⟨rfl, ?_, fun i _ => rfl⟩
          show bU (sB s t) - _ ≤ 12
          omega)
        dsimp only at f2 f3
        exact ⟨p2, by rw [f0, sb, f1, f2], tl_pms (fr_tr (fr_mo F18 pm_pms) f3)⟩
    obtain ⟨p2, f1, f2⟩ := pre
    refine ⟨p2, ?_, f2⟩
    rw [if_neg (show ¬ nI 1 = (0 : Int32) from ne_nI (b := 0) (by omega) (by omega) (by omega)), q_isTable X2 hw, b1, sb, if_neg (show ¬ bI true = 0 by decide +kernel), q_isGuest X2 hw, b2, sb, if_neg (show ¬ bI true = 0 by decide +kernel), e2]
    exact f1
