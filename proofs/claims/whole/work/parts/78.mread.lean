/-! ===== L3: texts: the model's text, and where it is kept ===== -/
def pMr : Nat → Nat → Prop := fun c i => (c = 251 ∧ 10 ≤ i ∧ i ≤ 22 ∧ i ≠ 11) ∨ c = 261 ∨ c = 262 ∨ (c = 254 ∧ i = 0) ∨ (c = 255 ∧ i = 0)
theorem pmr_o {h h' : Hp} (F : Fr pMr h h') : ∀ c i, ¬ ((c = 251 ∧ 10 ≤ i ∧ i ≤ 22 ∧ i ≠ 11) ∨ c = 261 ∨ c = 262 ∨ (c = 254 ∧ i = 0) ∨ (c = 255 ∧ i = 0)) → h'.1 c i = h.1 c i := F
theorem me_r {h h' : Hp} (F : Fr pMe h h') : Fr pMr h h' := fr_mo F (fun c i hc => by
  have hc' : (c = 251 ∧ 10 ≤ i ∧ i ≤ 22 ∧ i ≠ 11) ∨ c = 261 ∨ c = 262 := hc
  show (c = 251 ∧ 10 ≤ i ∧ i ≤ 22 ∧ i ≠ 11) ∨ c = 261 ∨ c = 262 ∨ (c = 254 ∧ i = 0) ∨ (c = 255 ∧ i = 0)
  omega)
/-- what the model says of a fault -/
def MF (h : Hp) (f : Nat × Nat) : Prop := h.1 254 0 = nI f.1 ∧ h.1 255 0 = (if f.1 = 0 then jN 1 else nI f.2)
theorem l45 : ln 254 = 4 ∧ ln 255 = 4 := ⟨lnm.2.2.1, lnm.2.2.2.1⟩
theorem in0 {n : Nat} (h : 0 < n) (hn : n < 2 ^ 30) : inb (0 : Int32) n := nI_in (c := 0) h (by omega)
/-- the end: off -/
theorem q_r98b {h : Hp} {f : Nat × Nat} (hf : f.1 = 1) (h16 : h.1 251 16 = nI f.2) : Okk (M_readText_j98 (0 : Int32) h) (fun r => r.1 = bI (decide (f.1 = 0)) ∧ MF r.2 f ∧ Fr (fun c i => (c = 254 ∨ c = 255) ∧ i = 0) h r.2) := by
  obtain ⟨l4, l5⟩ := l45
  unfold M_readText_j98 M_readText_j115 M_readText_j147 M_readText_j162
  rw [if_pos rfl, if_pos (by rw [l4]; exact in0 (by omega) (by omega)), bnd_eq, if_pos rfl, wr_c _ _ _ _ (show 251 ≠ 254 by omega), h16, if_pos (by rw [l5]; exact in0 (by omega) (by omega)), bnd_eq, cl0, if_neg (show ¬ (wr (wr h 254 0 (1 : Int32)) 255 0 (nI f.2)).1 254 0 = 0 by rw [wr_c _ _ _ _ (by omega), wr_at]; exact ne10), if_pos (Or.inl rfl)]
  refine ok_mk ⟨?_, ⟨?_, ?_⟩, fr_tr (fr_wr ⟨Or.inl rfl, rfl⟩) (fr_wr ⟨Or.inr rfl, rfl⟩)⟩
  · rw [hf]; rfl
  · dsimp only
    rw [wr_c _ _ _ _ (by omega), wr_at, hf]; rfl
  · dsimp only
    rw [wr_at, hf, if_neg (by decide)]
/-- the end: with no fault of form -/
theorem q_r98g {h : Hp} {f : Nat × Nat} (hf : f.1 ≤ 4) (h17 : h.1 251 17 = nI f.1) (h18 : f.1 ≠ 0 → h.1 251 18 = nI f.2) : Okk (M_readText_j98 (1 : Int32) h) (fun r => r.1 = bI (decide (f.1 = 0)) ∧ MF r.2 f ∧ Fr (fun c i => (c = 254 ∨ c = 255) ∧ i = 0) h r.2) := by
  obtain ⟨l4, l5⟩ := l45
  have e10 : ¬ (1 : Int32) = 0 := by decide +kernel
  unfold M_readText_j98 M_readText_j115 M_readText_j147 M_readText_j162
  rw [if_neg e10, if_pos (by rw [l4]; exact in0 (by omega) (by omega)), bnd_eq, if_neg e10, wr_c _ _ _ _ (show 251 ≠ 254 by omega), h17]
  by_cases c : f.1 = 0
  · rw [if_pos (show nI f.1 ≤ 0 by rw [c]; decide +kernel), if_pos (by rw [l5]; exact in0 (by omega) (by omega)), bnd_eq, cl0, if_pos (show (wr (wr h 254 0 (nI f.1)) 255 0 (-1 : Int32)).1 254 0 = 0 by rw [wr_c _ _ _ _ (by omega), wr_at, c]; rfl), if_pos (Or.inr rfl)]
    refine ok_mk ⟨?_, ⟨?_, ?_⟩, fr_tr (fr_wr ⟨Or.inl rfl, rfl⟩) (fr_wr ⟨Or.inr rfl, rfl⟩)⟩
    · rw [decide_eq_true c]; rfl
    · dsimp only
      rw [wr_c _ _ _ _ (by omega), wr_at]
    · dsimp only
      rw [wr_at, if_pos c]; rfl
  · rw [if_neg (show ¬ nI f.1 ≤ 0 from fun e => by have := (nI_leI (b := 0) (by omega) (by omega)).mp e; omega), wr_c _ _ _ _ (show 251 ≠ 254 by omega), h18 c, if_pos (by rw [l5]; exact in0 (by omega) (by omega)), bnd_eq, cl0, if_neg (show ¬ (wr (wr h 254 0 (nI f.1)) 255 0 (nI f.2)).1 254 0 = 0 by rw [wr_c _ _ _ _ (by omega), wr_at]; exact ne_nI (b := 0) (by omega) (by omega) c), if_pos (Or.inl rfl)]
    refine ok_mk ⟨?_, ⟨?_, ?_⟩, fr_tr (fr_wr ⟨Or.inl rfl, rfl⟩) (fr_wr ⟨Or.inr rfl, rfl⟩)⟩
    · rw [decide_eq_false c]; rfl
    · dsimp only
      rw [wr_c _ _ _ _ (by omega), wr_at]
    · dsimp only
      rw [wr_at, if_neg c]
/-- the start: all is laid down, the first token read -/
theorem q_rtop {X : Tx} {h : Hp} {s : Nat} (hX : okX X) (T : MTx X h) {Q : Int32 × Hp → Prop} (hQ : ∀ h', MP X h' S0 → (∀ i, i < 121 → i ≠ 1 → h'.1 261 i = nI 0) → h'.1 261 1 = (if s = 0 then nI 4 else nI 0) → h'.1 251 21 = jN 1 → Fr pMe h h' → Okk ((M_lines h' (nI s)).bind fun (r16, h17) => if r16 = 0 then ((M_readText_j98 r16 h17)) else (if nI s = 0 then (if (h17.1 251 17) = 0 then (if (h17.1 251 21) < (h17.1 261 1) then ((M_readText_j98 r16 h17)) else ((M_later h17 (4 : Int32) (h17.1 251 12)).bind fun h22 => (M_readText_j98 r16 h22))) else ((M_readText_j98 r16 h17))) else ((M_readText_j98 r16 h17)))) Q) (hs : s < 4) : Okk (M_readText h (nI s)) Q := by
  have l1 := l261
  obtain ⟨c1, c2⟩ := cl12
  have j35 : ∀ y v, (∀ i, i < 121 → y.1 261 i = nI 0) → Fr pMe h y → v = (if s = 0 then nI 4 else nI 0) → Okk (M_readText_j35 (nI s) (1 : Int32) v y) Q := by
    intro y v hy Fy hv
    unfold M_readText_j35
    rw [if_pos (show inb (1 : Int32) (ln 261) from nI_in (c := 1) (by omega) (by omega)), c1, bnd_eq, bnd_eq, bnd_eq, bnd_eq]
    have o : ∀ c i, ¬ ((c = 261 ∧ i = 1) ∨ (c = 251 ∧ (i = 21 ∨ i = 10 ∨ i = 17))) → (wr (wr (wr (wr y 261 1 v) 251 21 (-1)) 251 10 0) 251 17 0).1 c i = y.1 c i := fun c i hc => by
      rw [wr_i, if_neg (by omega), wr_i, if_neg (by omega), wr_i, if_neg (by omega), wr_i, if_neg (by omega)]
    have F1 : Fr pMe h (wr (wr (wr (wr y 261 1 v) 251 21 (-1)) 251 10 0) 251 17 0) := fr_tr Fy (fr_tr (fr_tr (fr_tr (pme_w (by omega)) (pme_w (by omega))) (pme_w (by omega))) (pme_w (by omega)))
    have e1 : (wr (wr (wr (wr y 261 1 v) 251 21 (-1)) 251 10 0) 251 17 0).1 261 1 = v := by
      rw [wr_c _ _ _ _ (by omega), wr_c _ _ _ _ (by omega), wr_c _ _ _ _ (by omega), wr_at]
    have e21 : (wr (wr (wr (wr y 261 1 v) 251 21 (-1)) 251 10 0) 251 17 0).1 251 21 = jN 1 := by
      rw [wr_p _ _ _ _ (by omega), wr_p _ _ _ _ (by omega), wr_at]; rfl
    have e10 : (wr (wr (wr (wr y 261 1 v) 251 21 (-1)) 251 10 0) 251 17 0).1 251 10 = nI 0 := by
      rw [wr_p _ _ _ _ (by omega), wr_at]; rfl
    have e17 : (wr (wr (wr (wr y 261 1 v) 251 21 (-1)) 251 10 0) 251 17 0).1 251 17 = nI 0 := wr_at _ _ _ _
    generalize wr (wr (wr (wr y 261 1 v) 251 21 (-1)) 251 10 0) 251 17 0 = z at *
    have oz := pme_o F1
    have Tz : MTx X z := mtx_fr T (fun c i hc => oz c i (by omega))
    refine okb (q_token hX Tz (p := 0) (Nat.zero_le _) e10) ?_
    rintro h1 ⟨K, F2⟩
    have o2 := pmk_o F2
    refine hQ h1 ⟨mtx_k Tz F2, K, Nat.zero_le _, Nat.zero_le _, by decide, by rw [o2 _ _ (by omega), e17]; rfl, fun c => absurd rfl c⟩ (fun i hi h1 => ?_) ?_ ?_ (fr_tr F1 (pmk_e F2))
    · rw [o2 _ _ (by omega), o _ _ (by omega), hy i hi]
    · rw [o2 _ _ (by omega), e1, hv]
    · rw [o2 _ _ (by omega), e21]
  have j21 : ∀ y, (∀ i, i < 121 → y.1 261 i = nI 0) → Fr pMe h y → Okk (M_readText_j21 (nI s) y) Q := by
    intro y hy Fy
    unfold M_readText_j21
    by_cases c : s = 0
    · rw [if_pos (show nI s = 0 by rw [c]; rfl)]
      exact j35 y _ hy Fy (by rw [if_pos c]; rfl)
    · rw [if_neg (show ¬ nI s = 0 from ne_nI (b := 0) (by omega) (by omega) c)]
      exact j35 y _ hy Fy (by rw [if_neg c]; rfl)
  unfold M_readText M_readText_l2
  refine lp_for _ 121 (fun k z => z.1 = nI k ∧ (∀ i, i < k → z.2.1 261 i = nI 0) ∧ Fr pMe h z.2) _ ?_ ?_ 0 _ (by omega) ⟨rfl, fun i hi => absurd hi (by omega), fr_rfl⟩
  · rintro k ⟨z1, z2⟩ hk ⟨e1, e2, e3⟩
    dsimp only at e1 e2 e3
    subst e1
    unfold M_readText_b2
    dsimp only
    rw [if_neg (show ¬ (121 : Int32) ≤ nI k from fun e => by have := (nI_leI (a := 121) (by omega) (by omega)).mp e; omega), if_pos (by rw [l1]; exact nI_in (by omega) (by omega)), nI_clamp (show k < 2 ^ 31 by omega), bnd_eq, bnd_eq]
    refine ok_mk ⟨nI_add _ 1, fun i hi => ?_, fr_tr e3 (pme_w (by omega))⟩
    dsimp only
    by_cases c : i = k
    · subst c
      rw [wr_at]; rfl
    · rw [wr_p _ _ _ _ c, e2 i (by omega)]
  · rintro ⟨z1, z2⟩ ⟨e1, e2, e3⟩
    dsimp only at e1 e2 e3
    subst e1
    unfold M_readText_b2
    dsimp only
    rw [if_pos (show (121 : Int32) ≤ nI 121 from (nI_leI (a := 121) (by omega) (by omega)).mpr (Nat.le_refl _))]
    exact okmr (j21 z2 e2 e3)
/-- what the model's reading leaves -/
theorem q_mrI {X : Tx} {h : Hp} (hX : okX X) (T : MTx X h) : Okk (M_readText h (nI 0)) (fun r => r.1 = bI (decide ((endI X).1 = 0)) ∧ MF r.2 (endI X) ∧ ((endI X).1 = 0 → (FI X).1.2.1 = 0 ∧ MDI r.2 (FI X).1 (FI X).2) ∧ Fr pMr h r.2) := by
  obtain ⟨c1, c2⟩ := cl12
  refine q_rtop hX T ?_ (by omega)
  intro h1 M1 a0 a1 a21 F1
  refine okb (q_mloop hX (gI X) MDI (fun h h' S S' D H hS o => mdi_fr H hS o) (fun h S D M H h22 => q_mlofI hX M H h22) (fun S D h1 h2 => stI_m h1 h2) M1 (D := D0I) ⟨⟨0, by omega, a0 0 (by omega) (by omega)⟩, fun _ => ⟨Nat.zero_le _, a0 0 (by omega) (by omega), by rw [a1, if_pos rfl]; rfl, fun t ht => absurd ht (Nat.not_lt_zero _), fun g hg => ⟨a0 _ (by omega) (by omega), a0 _ (by omega) (by omega)⟩, Or.inl ⟨a21, rfl⟩⟩⟩) ?_
  rintro ⟨r1, h2⟩ ⟨F2, L⟩
  have L' : BO (FI X).1 (r1, h2) ∨ ((FI X).1.2.1 ≠ 1 ∧ r1 = nI 1 ∧ MP X h2 (FI X).1 ∧ MDI h2 (FI X).1 (FI X).2 ∧ tK X (FI X).1.1 = 0) := L
  clear L
  have F3 : Fr pMr h h2 := me_r (fr_tr F1 F2)
  have W := FI_w X
  have fin : ∀ (r : Int32 × Hp) h3, Fr (fun c i => (c = 254 ∨ c = 255) ∧ i = 0) h3 r.2 → Fr pMe h h3 → Fr pMr h r.2 := fun r h3 F F' => fr_tr (me_r F') (fr_mo F (fun c i hc => by
    have hc' : (c = 254 ∨ c = 255) ∧ i = 0 := hc
    show (c = 251 ∧ 10 ≤ i ∧ i ≤ 22 ∧ i ≠ 11) ∨ c = 261 ∨ c = 262 ∨ (c = 254 ∧ i = 0) ∨ (c = 255 ∧ i = 0)
    omega))
  rcases L' with B | ⟨n1, e1, M2, I2, ek⟩
  · have e : r1 = nI 0 := B.2.1
    subst e
    have eE : endI X = (FI X).1.2 := if_neg (fun e => by rw [B.1] at e; exact absurd e.1 (by decide))
    dsimp only
    rw [if_pos (show nI 0 = (0 : Int32) from rfl), eE]
    refine okw (q_r98b B.1 B.2.2) ?_
    rintro r ⟨g1, g2, g3⟩
    exact ⟨g1, g2, fun c => absurd (B.1.symm.trans c) (by decide), fin r h2 g3 (fr_tr F1 F2)⟩
  subst e1
  dsimp only
  rw [if_neg ne10, if_pos (show nI 0 = (0 : Int32) from rfl)]
  obtain ⟨T2, K2, hp2, hf2, -, h17, hx⟩ := M2
  rw [h17]
  have keep : ∀ (r : Int32 × Hp), Fr (fun c i => (c = 254 ∨ c = 255) ∧ i = 0) h2 r.2 → (FI X).1.2.1 = 0 → (FI X).1.2.1 = 0 ∧ MDI r.2 (FI X).1 (FI X).2 := fun r F c => ⟨c, mdi_fr I2 (fun c => c) (fun c i hc => F c i (by
    show ¬ ((c = 254 ∨ c = 255) ∧ i = 0)
    omega))⟩
  by_cases c0 : (FI X).1.2.1 = 0
  · obtain ⟨b1, b2, b3, b4, b5, b6⟩ := I2.2 c0
    have hG := (W c0).2.2.1
    have hml := mgR_l b6 hG
    rw [if_pos (show nI (FI X).1.2.1 = 0 by rw [c0]; rfl), b3]
    by_cases d : sr (FI X).2.2 (nI (nG (FI X).2.1)) = nI 0
    · have eE : endI X = (FI X).1.2 := if_neg (fun e => e.2 d)
      rw [if_pos (hml.mpr d), eE]
      refine okw (q_r98g (by omega) h17 (fun c => absurd c0 c)) ?_
      rintro r ⟨g1, g2, g3⟩
      exact ⟨g1, g2, keep r g3, fin r h2 g3 (fr_tr F1 F2)⟩
    · have eE : endI X = (4, X.2) := if_pos ⟨c0, d⟩
      have es : tS X (FI X).1.1 = X.2 := ((tE_b X hp2).2.2.2 ek).1
      rw [if_neg (fun e => d (hml.mp e)), K2.2.1, es, eE]
      unfold M_later M_later_j31 M_later_j41
      rw [if_pos (show h2.1 251 17 = 0 by rw [h17, c0]; rfl), bnd_eq, bnd_eq, sb]
      refine okw (q_r98g (f := (4, X.2)) (by show 4 ≤ 4; omega) ?_ (fun _ => wr_at _ _ _ _)) ?_
      · rw [wr_p _ _ _ _ (by omega), wr_at]; rfl
      rintro r ⟨g1, g2, g3⟩
      exact ⟨g1, g2, fun c => absurd c (by show ¬ 4 = 0; omega), fin r _ g3 (fr_tr (fr_tr F1 F2) (fr_tr (pme_w (by omega)) (pme_w (by omega))))⟩
  · have eE : endI X = (FI X).1.2 := if_neg (fun e => c0 e.1)
    rw [if_neg (show ¬ nI (FI X).1.2.1 = 0 from ne_nI (b := 0) (by omega) (by omega) c0), eE]
    refine okw (q_r98g (by omega) h17 (fun c => (hx c).1)) ?_
    rintro r ⟨g1, g2, g3⟩
    exact ⟨g1, g2, keep r g3, fin r h2 g3 (fr_tr F1 F2)⟩
theorem q_mrL {s : Nat} (s1 : 1 ≤ s) (s2 : s < 4) {X : Tx} {h : Hp} (hX : okX X) (T : MTx X h) : Okk (M_readText h (nI s)) (fun r => r.1 = bI (decide ((endL s X).1 = 0)) ∧ MF r.2 (endL s X) ∧ ((endL s X).1 = 0 → MDL s r.2 (FL s X).1 (FL s X).2) ∧ Fr pMr h r.2) := by
  refine q_rtop hX T ?_ s2
  intro h1 M1 a0 a1 a21 F1
  refine okb (q_mloop hX (gD s X) (MDL s) (fun h h' S S' D H hS o => mdl_fr H hS (fun c i hc => o c i (Or.inl hc))) (fun h S D M H h22 => q_mlofL s1 s2 hX M H) (fun S D h1 h2 => stD_m h1 h2) M1 (D := D0L) ⟨⟨0, Nat.zero_le _, a0 0 (by omega) (by omega)⟩, fun _ => ⟨Nat.zero_le _, a0 0 (by omega) (by omega), fun i hi => absurd hi (Nat.not_lt_zero _)⟩⟩) ?_
  rintro ⟨r1, h2⟩ ⟨F2, L⟩
  have L' : BO (FL s X).1 (r1, h2) ∨ ((FL s X).1.2.1 ≠ 1 ∧ r1 = nI 1 ∧ MP X h2 (FL s X).1 ∧ MDL s h2 (FL s X).1 (FL s X).2 ∧ tK X (FL s X).1.1 = 0) := L
  clear L
  have fin : ∀ (r : Int32 × Hp), Fr (fun c i => (c = 254 ∨ c = 255) ∧ i = 0) h2 r.2 → Fr pMr h r.2 := fun r F => fr_tr (me_r (fr_tr F1 F2)) (fr_mo F (fun c i hc => by
    have hc' : (c = 254 ∨ c = 255) ∧ i = 0 := hc
    show (c = 251 ∧ 10 ≤ i ∧ i ≤ 22 ∧ i ≠ 11) ∨ c = 261 ∨ c = 262 ∨ (c = 254 ∧ i = 0) ∨ (c = 255 ∧ i = 0)
    omega))
  unfold endL
  rcases L' with B | ⟨n1, e1, M2, I2, ek⟩
  · have e : r1 = nI 0 := B.2.1
    subst e
    dsimp only
    rw [if_pos (show nI 0 = (0 : Int32) from rfl)]
    refine okw (q_r98b B.1 B.2.2) ?_
    rintro r ⟨g1, g2, g3⟩
    exact ⟨g1, g2, fun c => absurd (B.1.symm.trans c) (by decide), fin r g3⟩
  subst e1
  dsimp only
  rw [if_neg ne10, if_neg (show ¬ nI s = (0 : Int32) from ne_nI (b := 0) (by omega) (by omega) (by omega))]
  obtain ⟨T2, K2, hp2, hf2, -, h17, hx⟩ := M2
  refine okw (q_r98g (by omega) h17 (fun c => (hx c).1)) ?_
  rintro r ⟨g1, g2, g3⟩
  exact ⟨g1, g2, fun _ => mdl_fr I2 (fun c => c) (fun c i hc => g3 c i (by
    show ¬ ((c = 254 ∨ c = 255) ∧ i = 0)
    omega)), fin r g3⟩
theorem q_store {h : Hp} {c n k N : Nat} (hk : kd c = 20) (hl : ln c = N) (hN : N < 2 ^ 20) (h1 : n * k + n ≤ N) (hn : n ≤ 121) (hc : c ≠ 261) : Okk (M_store h c (nI n) (nI k)) (fun h' => (∀ i, i < n → h'.1 c (n * k + i) = h.1 261 i) ∧ Fr (fun d i => d = c ∧ n * k ≤ i ∧ i < n * k + n) h h') := by
  have l1 := l261
  unfold M_store M_store_l3
  refine lp_for _ n (fun j s => s.1 = nI j ∧ (∀ i, i < j → s.2.1 c (n * k + i) = h.1 261 i) ∧ Fr (fun d i => d = c ∧ n * k ≤ i ∧ i < n * k + n) h s.2) _ ?_ ?_ 0 _ (by omega) ⟨rfl, fun i hi => absurd hi (by omega), fr_rfl⟩
  · rintro j ⟨s1, g⟩ hj ⟨e1, e2, e3⟩
    dsimp only at e1 e2 e3
    subst e1
    have o : ∀ d i, ¬ (d = c ∧ n * k ≤ i ∧ i < n * k + n) → g.1 d i = h.1 d i := e3
    unfold M_store_b3
    dsimp only
    rw [if_neg (show ¬ nI n ≤ nI j from fun c => by rw [i_le, nI_toInt (by omega), nI_toInt (by omega)] at c; omega), show nI n * nI k + nI j = nI (n * k + j) by rw [pk_mul, nI_add], hl, l1, if_pos (nI_in (by omega) (by omega)), if_pos ⟨hk, nI_in (by omega) (by omega)⟩, bnd_eq, bnd_eq, nI_clamp (show j < 2 ^ 31 by omega), nI_clamp (show n * k + j < 2 ^ 31 by omega)]
    refine ok_mk ⟨nI_add _ 1, ?_, ?_⟩
    · intro i hi
      dsimp only
      rw [wr_i]
      by_cases c1 : i = j
      · subst c1
        rw [if_pos ⟨rfl, rfl⟩, o _ _ (by omega)]
      · rw [if_neg (by omega), e2 i (by omega)]
    · exact fr_tr e3 (fr_wr ⟨rfl, by omega, by omega⟩)
  · rintro ⟨s1, g⟩ ⟨e1, e2, e3⟩
    dsimp only at e1 e2 e3
    subst e1
    unfold M_store_b3 M_store_j30
    dsimp only
    rw [if_pos (show nI n ≤ nI n by rw [i_le]; omega)]
    exact ok_mk ⟨e2, e3⟩
