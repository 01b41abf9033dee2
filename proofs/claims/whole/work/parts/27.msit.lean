/-! ===== L3: the model's sittings ===== -/
def mm (so ot : Int32) (f : Nat → Int32) (g : Nat) : Int32 := (f g ||| ((if bt so g = true then ot else nI 0) ||| (if bt ot g = true then so else nI 0))) &&& (sh (nI 1) (nI g) ^^^ jN 1)
theorem q_mmeet {h : Hp} (so ot : Int32) : Okk (M_meet h so ot) (fun h' => (∀ g, g < 8 → h'.1 273 g = mm so ot (h.1 273) g) ∧ Fr (fun c _ => c = 273) h h') := by
  unfold M_meet M_meet_l2
  refine lp_for _ 8 (fun k s => s.1 = nI k ∧ Fr (fun c _ => c = 273) h s.2 ∧ ∀ g, g < 8 → s.2.1 273 g = if g < k then mm so ot (h.1 273) g else h.1 273 g) _ ?_ ?_ 0 _ (by omega) ?_
  · rintro k ⟨s1, s2⟩ hk1 ⟨rfl, hF, hv⟩
    dsimp only at hF hv ⊢
    have hvk := hv k hk1
    rw [if_neg (by omega)] at hvk
    have key : ∀ u v, u = (if bt so k = true then ot else nI 0) → v = (if bt ot k = true then so else nI 0) → Okk (M_meet_j41 so ot (nI k) (nI k) (h.1 273 k) u v s2) (Sum.elim (fun s => s.1 = nI (k + 1) ∧ Fr (fun c _ => c = 273) h s.2 ∧ ∀ g, g < 8 → s.2.1 273 g = if g < k + 1 then mm so ot (h.1 273) g else h.1 273 g) (fun h' => (∀ g, g < 8 → h'.1 273 g = mm so ot (h.1 273) g) ∧ Fr (fun c _ => c = 273) h h')) := by
      rintro u v hu hv1
      unfold M_meet_j41
      simp (disch := omega) only [KK, K1, K2, NN, bnd_eq, sb, smr, bI_ite, if_pos, if_neg, if_true, if_false, or_true, true_or, true_and, and_true, g01, wr_at, wr_c, wr_p, lnm]
      refine ok_mk ⟨rfl, fr_tr (fr_tr hF (fr_wr rfl)) (fr_wr rfl), ?_⟩
      intro g hg
      by_cases e : g = k
      · subst e
        simp (disch := omega) only [KK, K1, K2, NN, bnd_eq, sb, smr, bI_ite, if_pos, if_neg, if_true, if_false, or_true, true_or, true_and, and_true, g01, wr_at, wr_c, wr_p, ]
        unfold mm
        rw [hu, hv1]
      · simp (disch := omega) only [KK, K1, K2, NN, bnd_eq, sb, smr, bI_ite, if_pos, if_neg, if_true, if_false, or_true, true_or, true_and, and_true, g01, wr_at, wr_c, wr_p, hv g hg]
        by_cases h1 : g < k
        · rw [if_pos h1, if_pos (by omega)]
        · rw [if_neg h1, if_neg (by omega)]
    unfold M_meet_b2 M_meet_j28
    simp (disch := omega) only [KK, K1, K2, NN, bnd_eq, sb, smr, bI_ite, if_pos, if_neg, if_true, if_false, or_true, true_or, true_and, and_true, g01, lnm, q_has so (show k < 32 by omega), q_has ot (show k < 32 by omega), hvk]
    by_cases hb : bt so k = true
    · rw [if_pos hb]
      by_cases hc : bt ot k = true
      · rw [if_pos hc]
        exact key _ _ (by rw [if_pos hb]) (by rw [if_pos hc])
      · rw [if_neg hc]
        exact key _ _ (by rw [if_pos hb]) (by rw [if_neg hc])
    · rw [if_neg hb]
      by_cases hc : bt ot k = true
      · rw [if_pos hc]
        exact key _ _ (by rw [if_neg hb]) (by rw [if_pos hc])
      · rw [if_neg hc]
        exact key _ _ (by rw [if_neg hb]) (by rw [if_neg hc])
  · rintro ⟨s1, s2⟩ ⟨rfl, hF, hv⟩
    dsimp only at hF hv ⊢
    unfold M_meet_b2 M_meet_j64
    simp (disch := omega) only [KK, K1, K2, NN, bnd_eq, sb, smr, bI_ite, if_pos, if_neg, if_true, if_false, or_true, true_or, true_and, and_true, g01]
    refine ok_mk ⟨?_, hF⟩
    intro g hg
    rw [hv g hg, if_pos hg]
  · refine ⟨rfl, fr_rfl, ?_⟩
    intro g hg
    rw [if_neg (by omega)]
theorem or_z (x : Int32) : x ||| nI 0 = x := Int32.or_zero
theorem ad_z (x : Int32) : x + nI 0 = x := Int32.add_zero x
theorem q_mhears {h : Hp} (who wd : Int32) : Okk (M_hears h who wd) (fun h' => (∀ g, g < 8 → h'.1 270 g = dH who wd (h.1 270) g) ∧ Fr (fun c _ => c = 270) h h') := by
  unfold M_hears M_hears_l2
  refine lp_for _ 8 (fun k s => s.1 = nI k ∧ Fr (fun c _ => c = 270) h s.2 ∧ ∀ g, g < 8 → s.2.1 270 g = if g < k then dH who wd (h.1 270) g else h.1 270 g) _ ?_ ?_ 0 _ (by omega) ?_
  · rintro k ⟨s1, s2⟩ hk1 ⟨rfl, hF, hv⟩
    dsimp only at hF hv ⊢
    have hvk := hv k hk1
    rw [if_neg (by omega)] at hvk
    have key : ∀ v, h.1 270 k ||| v = dH who wd (h.1 270) k → Okk (M_hears_j28 who wd (nI k) (nI k) (h.1 270 k) v s2) (Sum.elim (fun s => s.1 = nI (k + 1) ∧ Fr (fun c _ => c = 270) h s.2 ∧ ∀ g, g < 8 → s.2.1 270 g = if g < k + 1 then dH who wd (h.1 270) g else h.1 270 g) (fun h' => (∀ g, g < 8 → h'.1 270 g = dH who wd (h.1 270) g) ∧ Fr (fun c _ => c = 270) h h')) := by
      rintro v hv1
      unfold M_hears_j28
      simp (disch := omega) only [KK, K1, K2, NN, bnd_eq, sb, smr, bI_ite, if_pos, if_neg, if_true, if_false, or_true, true_or, true_and, and_true, g01, lnm]
      refine ok_mk ⟨rfl, fr_tr hF (fr_wr rfl), ?_⟩
      intro g hg
      by_cases e : g = k
      · subst e
        simp (disch := omega) only [KK, K1, K2, NN, bnd_eq, sb, smr, bI_ite, if_pos, if_neg, if_true, if_false, or_true, true_or, true_and, and_true, g01, wr_at, wr_c, wr_p, ]
        exact hv1
      · simp (disch := omega) only [KK, K1, K2, NN, bnd_eq, sb, smr, bI_ite, if_pos, if_neg, if_true, if_false, or_true, true_or, true_and, and_true, g01, wr_at, wr_c, wr_p, hv g hg]
        by_cases h1 : g < k
        · rw [if_pos h1, if_pos (by omega)]
        · rw [if_neg h1, if_neg (by omega)]
    unfold M_hears_b2
    simp (disch := omega) only [KK, K1, K2, NN, bnd_eq, sb, smr, bI_ite, if_pos, if_neg, if_true, if_false, or_true, true_or, true_and, and_true, g01, lnm, q_has who (show k < 32 by omega), hvk]
    by_cases hb : bt who k = true
    · rw [if_pos hb]
      exact key _ (by unfold dH; rw [if_pos hb])
    · rw [if_neg hb]
      exact key _ (by unfold dH; rw [if_neg hb, or_z])
  · rintro ⟨s1, s2⟩ ⟨rfl, hF, hv⟩
    dsimp only at hF hv ⊢
    unfold M_hears_b2 M_hears_j36
    simp (disch := omega) only [KK, K1, K2, NN, bnd_eq, sb, smr, bI_ite, if_pos, if_neg, if_true, if_false, or_true, true_or, true_and, and_true, g01]
    refine ok_mk ⟨?_, hF⟩
    intro g hg
    rw [hv g hg, if_pos hg]
  · refine ⟨rfl, fr_rfl, ?_⟩
    intro g hg
    rw [if_neg (by omega)]
theorem fF_at' (p : Nat → Bool) {k : Nat} (h0 : ∀ i, i < k → p i = false) (hk : p k = true) : ∀ m, k < m → fF p m = k := by
  intro m
  induction m with
  | zero => intro h; omega
  | succ m ih =>
    intro h
    rw [fF_s]
    by_cases h1 : k < m
    · rw [ih h1, if_pos h1]
    · have : k = m := by omega
      subst this
      have h2 : ¬ fF p k < k := by
        intro h3
        have h4 := fF_at p k h3
        rw [h0 _ h3] at h4
        exact absurd h4 (by decide)
      rw [if_neg h2, if_pos hk]
theorem q_least {x : Int32} (hl : fF (bt x) 8 < 8) : M_leastOf x = some (nI (fF (bt x) 8)) := by
  apply ok_to
  unfold M_leastOf M_leastOf_l2
  refine lp_for _ (fF (bt x) 8) (fun k s => s = nI k) _ ?_ ?_ 0 _ (by omega) rfl
  · rintro k s hk rfl
    unfold M_leastOf_b2
    simp (disch := omega) only [KK, K1, K2, NN, bnd_eq, sb, smr, bI_ite, if_pos, if_neg, if_true, if_false, or_true, true_or, true_and, and_true, g01, q_has x (show k < 32 by omega), fF_no (bt x) 8 k hk, Bool.false_eq_true]
    exact ok_mk rfl
  · rintro s rfl
    unfold M_leastOf_b2 M_leastOf_j16
    simp (disch := omega) only [KK, K1, K2, NN, bnd_eq, sb, smr, bI_ite, if_pos, if_neg, if_true, if_false, or_true, true_or, true_and, and_true, g01, q_has x (show fF (bt x) 8 < 32 by omega), fF_at (bt x) 8 hl]
    exact ⟨_, rfl, rfl⟩
theorem aT_z (x p : Int32) (b : Nat → Bool) : ∀ k, (∀ i, i < k → b i = false) → aT x p b k = x
  | 0, _ => rfl
  | k + 1, h => by
    show (if b k = true then _ else _) = _
    rw [h k (by omega), if_neg (by decide)]
    exact aT_z x p b k (fun i hi => h i (by omega))
theorem mm_dM {who gh : Int32} {f : Nat → Int32} {g : Nat} (hg : g < 8) (hf : bt (f g) g = false) : mm who gh (mm who who f) g = dM who gh f g := by
  unfold mm dM
  apply b_ext
  intro i hi
  simp only [b_or, b_and, b_nt _ i hi, b_sh (show g < 32 by omega) i hi]
  by_cases e : i = g
  · subst e
    rw [hf, decide_eq_true rfl]
    simp
  · rw [decide_eq_false e]
    have z : bt (nI 0) i = false := b_0 i
    by_cases h1 : bt who g = true
    · by_cases h2 : bt gh g = true
      · simp only [if_pos h1, if_pos h2, b_or]
        cases bt (f g) i <;> cases bt who i <;> cases bt gh i <;> rfl
      · simp only [if_pos h1, if_neg h2, b_or, z]
        cases bt (f g) i <;> cases bt who i <;> cases bt gh i <;> rfl
    · by_cases h2 : bt gh g = true
      · simp only [if_neg h1, if_pos h2, b_or, z]
        cases bt (f g) i <;> cases bt who i <;> cases bt gh i <;> rfl
      · simp only [if_neg h1, if_neg h2, b_or, z]
        cases bt (f g) i <;> cases bt who i <;> cases bt gh i <;> rfl
theorem mm_d0 {who : Int32} {f : Nat → Int32} {g : Nat} (hg : g < 8) (hf : bt (f g) g = false) : mm who who f g = dM who (nI 0) f g := by
  unfold mm dM
  apply b_ext
  intro i hi
  simp only [b_or, b_and, b_nt _ i hi, b_sh (show g < 32 by omega) i hi]
  have z : ∀ i, bt (nI 0) i = false := b_0
  by_cases e : i = g
  · subst e
    rw [hf, decide_eq_true rfl]
    simp
  · rw [decide_eq_false e]
    by_cases h1 : bt who g = true
    · simp only [if_pos h1, b_or, z]
      cases bt (f g) i <;> cases bt who i <;> rfl
    · simp only [if_neg h1, z, Bool.false_eq_true, if_false]
      cases bt (f g) i <;> cases bt who i <;> rfl
theorem q_repeats {h : Hp} {n : Inn} {t : Nat} {x : Bn} {who : Int32} (H : MX h n) (hw : wI n) (ht : t < nT n) (B : MB h t x) (hl : bL x ≤ 12) (hu : bU x < bL x) (hne : fF (bt who) 8 < 8) : Okk (M_repeats h (nI t) who) (fun h' => h'.1 267 t = nI (bU (bTn x)) ∧ (∀ g, g < 8 → h'.1 270 g = dH who (bV x) (h.1 270) g ∧ h'.1 271 g = (if g = fF (bt who) 8 then aT (h.1 271 g) (nP n t) (bt (bG x)) 8 else h.1 271 g) ∧ h'.1 273 g = mm who (bG x) (h.1 273) g) ∧ (∀ i, i < 64 → h'.1 272 i = dD who (bG x) (nP n t) (h.1 272) i) ∧ h'.1 251 39 = h.1 251 39 + nI (cp (nQ n) who (bG x) 8) ∧ h'.1 251 40 = h.1 251 40 + nI (cp (nL n) who (bG x) 8) ∧ Fr (fun c i => (c = 267 ∧ i = t) ∨ c = 270 ∨ c = 271 ∨ c = 272 ∨ c = 273 ∨ (c = 251 ∧ 39 ≤ i ∧ i ≤ 40)) h h') := by
  have hn := hw.1
  obtain ⟨h3, h4, h5, h6, hR⟩ := B
  obtain ⟨r1, r2, r3⟩ := hR (bU x) hu
  have eG : bG x = (bR x (bU x)).1 := if_pos hu
  have eV : bV x = (bR x (bU x)).2.1 := if_pos hu
  unfold M_repeats
  simp (disch := omega) only [KK, K1, K2, NN, bnd_eq, sb, smr, bI_ite, if_pos, if_neg, if_true, if_false, or_true, true_or, true_and, and_true, g01, lnm, h4, r1, r2]
  rw [← eG, ← eV]
  refine okb (q_mhears who _) ?_
  rintro h17 ⟨p1, F1⟩
  refine okb (q_mmeet who _) ?_
  rintro h18 ⟨p2, F2⟩
  have f18 : ∀ c i, c ≠ 270 → c ≠ 273 → h18.1 c i = h.1 c i := by
    intro c i a1 a2
    rw [F2 c i a2, F1 c i a1]
  have H18 : MX h18 n := mx_fr H (fun c i hc => f18 c i (by omega) (by omega))
  rw [(q_mcoup H18 hw who (bG x)).1, sb, f18 251 39 (by omega) (by omega)]
  have H20 : MX (wr h18 251 39 (h.1 251 39 + nI (cp (nQ n) who (bG x) 8))) n := mx_fr H18 (fun c i hc => by
    by_cases e : c = 251
    · rw [wr_p _ _ _ _ (by omega)]
    · rw [wr_c _ _ _ _ e])
  rw [(q_mcoup H20 hw who (bG x)).2, sb]
  simp (disch := omega) only [KK, K1, K2, NN, bnd_eq, sb, smr, bI_ite, if_pos, if_neg, if_true, if_false, or_true, true_or, true_and, and_true, g01, wr_at, wr_c, wr_p, f18, h3, h4]
  generalize hm : wr (wr (wr h18 251 39 (h.1 251 39 + nI (cp (nQ n) who (bG x) 8))) 251 40 (h.1 251 40 + nI (cp (nL n) who (bG x) 8))) 267 t (nI ((bU x + 1) % bL x)) = m
  have mo : ∀ c i, c ≠ 251 ∨ i < 39 ∨ 40 < i → c ≠ 267 ∨ i ≠ t → m.1 c i = h18.1 c i := by
    intro c i a1 a2
    rw [← hm]
    rw [wr_i, if_neg (by omega), wr_i, if_neg (by omega), wr_i, if_neg (by omega)]
  have m1 : m.1 267 t = nI (bU (bTn x)) := by
    rw [← hm]
    simp (disch := omega) only [KK, K1, K2, NN, bnd_eq, sb, smr, bI_ite, if_pos, if_neg, if_true, if_false, or_true, true_or, true_and, and_true, g01, wr_at, wr_c, wr_p, ]
    congr 1
    show _ = if bU x + 1 < bL x then bU x + 1 else 0
    by_cases e : bU x + 1 < bL x
    · rw [if_pos e, Nat.mod_eq_of_lt e]
    · rw [if_neg e, show bU x + 1 = bL x by omega, Nat.mod_self]
  have m2 : m.1 251 39 = h.1 251 39 + nI (cp (nQ n) who (bG x) 8) := by
    rw [← hm]
    simp (disch := omega) only [KK, K1, K2, NN, bnd_eq, sb, smr, bI_ite, if_pos, if_neg, if_true, if_false, or_true, true_or, true_and, and_true, g01, wr_at, wr_c, wr_p, ]
  have m3 : m.1 251 40 = h.1 251 40 + nI (cp (nL n) who (bG x) 8) := by
    rw [← hm]
    simp (disch := omega) only [KK, K1, K2, NN, bnd_eq, sb, smr, bI_ite, if_pos, if_neg, if_true, if_false, or_true, true_or, true_and, and_true, g01, wr_at, wr_c, wr_p, ]
  have Hm : MX m n := mx_fr H18 (fun c i hc => mo c i (by omega) (by omega))
  rw [q_least hne, sb, (q_ofT Hm hw ht).2.2, sb]
  have m71 : ∀ g, m.1 271 g = h.1 271 g := fun g => by rw [mo 271 g (by omega) (by omega), f18 271 g (by omega) (by omega)]
  have m72 : ∀ g, m.1 272 g = h.1 272 g := fun g => by rw [mo 272 g (by omega) (by omega), f18 272 g (by omega) (by omega)]
  unfold M_repeats_l113
  refine lp_for _ 8 (fun k s => s.1 = nI k ∧ Fr (fun c _ => c = 271 ∨ c = 272) m s.2 ∧ (∀ g, g < 8 → s.2.1 271 g = if g = fF (bt who) 8 then aT (h.1 271 g) (nP n t) (bt (bG x)) k else h.1 271 g) ∧ (∀ i, i < 64 → s.2.1 272 i = if i % 8 < k then dD who (bG x) (nP n t) (h.1 272) i else h.1 272 i)) _ ?_ ?_ 0 _ (by omega) ?_
  · rintro k ⟨s1, s2⟩ hk1 ⟨rfl, hF, hv, hw2⟩
    dsimp only at hF hv hw2 ⊢
    have hvk := hv (fF (bt who) 8) hne
    rw [if_pos rfl] at hvk
    have hwk := hw2 (8 * fF (bt who) 8 + k) (by omega)
    rw [if_neg (by omega)] at hwk
    unfold M_repeats_b113 M_repeats_j171
    simp (disch := omega) only [KK, K1, K2, NN, bnd_eq, sb, smr, bI_ite, if_pos, if_neg, if_true, if_false, or_true, true_or, true_and, and_true, g01, lnm, q_has (bG x) (show k < 32 by omega)]
    by_cases hb : bt (bG x) k = true
    · rw [if_pos hb]
      have key : ∀ v, v = (if k = fF (bt who) 8 then nI 0 else nP n t) → Okk (M_repeats_j169 (bG x) (nI (fF (bt who) 8)) (nP n t) (nI k) (nI (8 * fF (bt who) 8 + k)) (h.1 272 (8 * fF (bt who) 8 + k)) v (wr s2 271 (fF (bt who) 8) (s2.1 271 (fF (bt who) 8) + nP n t))) (Sum.elim (fun s => s.1 = nI (k + 1) ∧ Fr (fun c _ => c = 271 ∨ c = 272) m s.2 ∧ (∀ g, g < 8 → s.2.1 271 g = if g = fF (bt who) 8 then aT (h.1 271 g) (nP n t) (bt (bG x)) (k + 1) else h.1 271 g) ∧ (∀ i, i < 64 → s.2.1 272 i = if i % 8 < k + 1 then dD who (bG x) (nP n t) (h.1 272) i else h.1 272 i)) (fun h' => h'.1 267 t = nI (bU (bTn x)) ∧ (∀ g, g < 8 → h'.1 270 g = dH who (bV x) (h.1 270) g ∧ h'.1 271 g = (if g = fF (bt who) 8 then aT (h.1 271 g) (nP n t) (bt (bG x)) 8 else h.1 271 g) ∧ h'.1 273 g = mm who (bG x) (h.1 273) g) ∧ (∀ i, i < 64 → h'.1 272 i = dD who (bG x) (nP n t) (h.1 272) i) ∧ h'.1 251 39 = h.1 251 39 + nI (cp (nQ n) who (bG x) 8) ∧ h'.1 251 40 = h.1 251 40 + nI (cp (nL n) who (bG x) 8) ∧ Fr (fun c i => (c = 267 ∧ i = t) ∨ c = 270 ∨ c = 271 ∨ c = 272 ∨ c = 273 ∨ (c = 251 ∧ 39 ≤ i ∧ i ≤ 40)) h h')) := by
        intro v hv1
        unfold M_repeats_j169 M_repeats_j171
        simp (disch := omega) only [KK, K1, K2, NN, bnd_eq, sb, smr, bI_ite, if_pos, if_neg, if_true, if_false, or_true, true_or, true_and, and_true, g01, lnm]
        refine ok_mk ⟨rfl, fr_tr (fr_tr hF (fr_wr (Or.inl rfl))) (fr_wr (Or.inr rfl)), ?_, ?_⟩
        · intro g hg
          by_cases e : g = fF (bt who) 8
          · rw [e]
            simp (disch := omega) only [KK, K1, K2, NN, bnd_eq, sb, smr, bI_ite, if_pos, if_neg, if_true, if_false, or_true, true_or, true_and, and_true, g01, wr_at, wr_c, wr_p, hvk]
            show _ = if bt (bG x) k = true then _ else _
            rw [if_pos hb]
          · simp (disch := omega) only [KK, K1, K2, NN, bnd_eq, sb, smr, bI_ite, if_pos, if_neg, if_true, if_false, or_true, true_or, true_and, and_true, g01, wr_at, wr_c, wr_p, hv g hg]
        · intro i hi
          by_cases e : i = 8 * fF (bt who) 8 + k
          · have hdiv : i / 8 = fF (bt who) 8 := by omega
            have hmod : i % 8 = k := by omega
            rw [hmod, if_pos (by omega)]
            unfold dD
            rw [hmod, hdiv, if_pos ⟨rfl, hb⟩, e]
            simp (disch := omega) only [KK, K1, K2, NN, bnd_eq, sb, smr, bI_ite, if_pos, if_neg, if_true, if_false, or_true, true_or, true_and, and_true, g01, wr_at, wr_c, wr_p, hv1]
          · simp (disch := omega) only [KK, K1, K2, NN, bnd_eq, sb, smr, bI_ite, if_pos, if_neg, if_true, if_false, or_true, true_or, true_and, and_true, g01, wr_at, wr_c, wr_p, hw2 i hi]
            by_cases h1 : i % 8 < k
            · rw [if_pos h1, if_pos (by omega)]
            · rw [if_neg h1]
              by_cases h2 : i % 8 < k + 1
              · rw [if_pos h2]
                unfold dD
                rw [if_neg]
                rintro ⟨h3, -⟩
                omega
              · rw [if_neg h2]
      simp (disch := omega) only [KK, K1, K2, NN, bnd_eq, sb, smr, bI_ite, if_pos, if_neg, if_true, if_false, or_true, true_or, true_and, and_true, g01, wr_at, wr_c, wr_p, hwk, lnm]
      by_cases hkl : k = fF (bt who) 8
      · rw [if_pos hkl]
        exact key _ (by rw [if_pos hkl])
      · rw [if_neg hkl]
        exact key _ (by rw [if_neg hkl])
    · rw [if_neg hb]
      refine ok_mk ⟨rfl, hF, ?_, ?_⟩
      · intro g hg
        show s2.1 271 g = _
        rw [hv g hg]
        show _ = if g = fF (bt who) 8 then (if bt (bG x) k = true then _ else _) else _
        rw [if_neg hb]
      · intro i hi
        show s2.1 272 i = _
        rw [hw2 i hi]
        by_cases h1 : i % 8 < k
        · rw [if_pos h1, if_pos (by omega)]
        · rw [if_neg h1]
          by_cases h2 : i % 8 < k + 1
          · rw [if_pos h2]
            unfold dD
            rw [if_neg]
            rintro ⟨-, h3⟩
            rw [show i % 8 = k by omega] at h3
            exact hb h3
          · rw [if_neg h2]
  · rintro ⟨s1, s2⟩ ⟨rfl, hF, hv, hw2⟩
    dsimp only at hF hv hw2 ⊢
    have so : ∀ c i, c ≠ 271 → c ≠ 272 → s2.1 c i = m.1 c i := fun c i a1 a2 => hF c i (by show ¬ (c = 271 ∨ c = 272); omega)
    unfold M_repeats_b113 M_repeats_j177
    simp (disch := omega) only [KK, K1, K2, NN, bnd_eq, sb, smr, bI_ite, if_pos, if_neg, if_true, if_false, or_true, true_or, true_and, and_true, g01]
    refine ok_mk ⟨?_, ?_, ?_, ?_, ?_, ?_⟩
    · rw [so 267 t (by omega) (by omega), m1]
    · intro g hg
      refine ⟨?_, hv g hg, ?_⟩
      · rw [so 270 g (by omega) (by omega), mo 270 g (by omega) (by omega), F2 270 g (by show ¬ (270 : Nat) = 273; omega), p1 g hg]
      · rw [so 273 g (by omega) (by omega), mo 273 g (by omega) (by omega), p2 g hg]
        unfold mm
        rw [F1 273 g (by show ¬ (273 : Nat) = 270; omega)]
    · intro i hi
      rw [hw2 i hi, if_pos (by omega)]
    · rw [so 251 39 (by omega) (by omega), m2]
    · rw [so 251 40 (by omega) (by omega), m3]
    · intro c i hc
      have hc' : ¬ ((c = 267 ∧ i = t) ∨ c = 270 ∨ c = 271 ∨ c = 272 ∨ c = 273 ∨ (c = 251 ∧ 39 ≤ i ∧ i ≤ 40)) := hc
      rw [so c i (by omega) (by omega), mo c i (by omega) (by omega), f18 c i (by omega) (by omega)]
  · refine ⟨rfl, fr_rfl, ?_, ?_⟩
    · intro g hg
      show m.1 271 g = _
      rw [m71]
      by_cases e : g = fF (bt who) 8
      · rw [if_pos e]; rfl
      · rw [if_neg e]
    · intro i hi
      show m.1 272 i = _
      rw [m72, if_neg (by omega)]
