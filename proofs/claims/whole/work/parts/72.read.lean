/-! ===== L3: texts: the code reads a text ===== -/
def n0 : Inn := (0, 4, fun _ => 0, fun _ => 0, fun _ => nI 0, fun _ => nI 0, fun _ => nI 0)
def D0I : Inn × Int32 := (n0, nI 0)
def D0L : DN := (0, fun _ => (nI 0, nI 0, nI 0))
def S0 : PS := (0, 0, 0)
def FI (X : Tx) : PS × (Inn × Int32) := runN X (stp X (gI X)) 601 S0 D0I
def FL (s : Nat) (X : Tx) : PS × DN := runN X (stp X (gD s X)) 601 S0 D0L
/-- the fault at the end, and where -/
def endI (X : Tx) : Nat × Nat := if (FI X).1.2.1 = 0 ∧ ¬ sr (FI X).2.2 (nI (nG (FI X).2.1)) = nI 0 then (4, X.2) else (FI X).1.2
def endL (s : Nat) (X : Tx) : Nat × Nat := (FL s X).1.2
def CF (h : Hp) (f : Nat × Nat) : Prop := h.1 46 3 = nI f.1 ∧ h.1 46 4 = (if f.1 = 0 then jN 1 else nI f.2)
theorem WI_0 : WI S0 D0I := fun _ => ⟨show (0 : Nat) ≤ 5 by omega, show 1 ≤ 4 by omega, show 4 ≤ 8 by omega, fun t ht => absurd ht (Nat.not_lt_zero _), lo_0 8, fun g _ => ⟨fun i hi => by rw [show bt (nQ D0I.1 g) i = false from b_0 i] at hi; exact absurd hi (by decide), fun i hi => by rw [show bt (nL D0I.1 g) i = false from b_0 i] at hi; exact absurd hi (by decide), b_0 _, b_0 _, fun k _ => ⟨by rw [show bt (nQ D0I.1 g) k = false from b_0 _]; exact (b_0 _).symm, by rw [show bt (nL D0I.1 g) k = false from b_0 _]; exact (b_0 _).symm⟩⟩⟩
theorem FI_w (X : Tx) : WI (FI X).1 (FI X).2 := runN_w (P := WI) (fun S D W => stI_w W) 601 S0 D0I WI_0
theorem FL_w {s : Nat} (s1 : 1 ≤ s) (s2 : s < 4) (X : Tx) : WD s (FL s X).1 (FL s X).2 := runN_w (P := WD s) (fun S D W => stD_w s1 s2 W) 601 S0 D0L (fun _ => ⟨Nat.zero_le _, fun i hi => absurd hi (Nat.not_lt_zero _)⟩)
theorem q_hall {h : Hp} {g : Nat} (x : Int32) (h6 : h.1 47 6 = nI g) : H_hasAll h 47 x = some (if sr x (nI g) = nI 0 then nI 1 else nI 0) := by
  unfold H_hasAll H_hasAll_j14
  rw [if_pos (show kd 47 = 1 from kd47.1), h6]
  by_cases c : sr x (nI g) = nI 0
  · rw [if_pos (show sr x (nI g) = 0 from c), if_pos c, if_pos (Or.inr rfl)]
    rfl
  · rw [if_neg (show ¬ sr x (nI g) = 0 from c), if_neg c, if_pos (Or.inl rfl)]
    rfl
theorem q_rbeg {X : Tx} {h : Hp} (hX : okX X) (T : TC X h) {s : Nat} {Q : Hp → Prop} (hQ : ∀ h', CP X h' S0 → h'.1 47 5 = nI 0 → h'.1 47 6 = nI 4 → h'.1 53 3 = nI 0 → h'.1 46 8 = nI 0 → (∀ g, g < 8 → h'.1 51 g = nI 0 ∧ h'.1 52 g = nI 0) → Fr pR0 h h' → Okk (R_read_l40 (nI s) (nI 0) h') Q) : Okk (R_read h (nI s)) Q := by
  obtain ⟨k0, k1, k2, k3, k4, k5, l1, l2, l3, l4, l5, k6, l6⟩ := kd47
  unfold R_read H_clear L_clear
  rw [bnd_eq, bnd_eq, bnd_eq, bnd_eq, if_pos k0, bnd_eq, bnd_eq, show (47 : Nat) + 4 = 51 from rfl, show (47 : Nat) + 5 = 52 from rfl, q_fill _ _ k4 (by omega), sb, q_fill _ _ k5 (by omega), sb, sb, if_pos k6, bnd_eq, sb]
  have o : ∀ c i, ¬ ((c = 46 ∧ 3 ≤ i ∧ i ≤ 8) ∨ (47 ≤ c ∧ c ≤ 56)) → (wr (fil (fil (wr (wr (wr (wr (wr (wr h 46 3 0) 46 4 (-1)) 46 7 0) 46 8 0) 47 5 0) 47 6 4) 51 0) 52 0) 53 3 0).1 c i = h.1 c i := fun c i hc => by
    rw [wr_i, if_neg (by omega), fil_c _ (by omega), fil_c _ (by omega), wr_i, if_neg (by omega), wr_i, if_neg (by omega), wr_i, if_neg (by omega), wr_i, if_neg (by omega), wr_i, if_neg (by omega), wr_i, if_neg (by omega)]
  have e3 : (wr (fil (fil (wr (wr (wr (wr (wr (wr h 46 3 0) 46 4 (-1)) 46 7 0) 46 8 0) 47 5 0) 47 6 4) 51 0) 52 0) 53 3 0).1 46 3 = nI 0 := by
    rw [wr_c _ _ _ _ (by omega), fil_c _ (by omega), fil_c _ (by omega), wr_c _ _ _ _ (by omega), wr_c _ _ _ _ (by omega), wr_p _ _ _ _ (by omega), wr_p _ _ _ _ (by omega), wr_p _ _ _ _ (by omega), wr_at]; rfl
  have e4 : (wr (fil (fil (wr (wr (wr (wr (wr (wr h 46 3 0) 46 4 (-1)) 46 7 0) 46 8 0) 47 5 0) 47 6 4) 51 0) 52 0) 53 3 0).1 46 4 = jN 1 := by
    rw [wr_c _ _ _ _ (by omega), fil_c _ (by omega), fil_c _ (by omega), wr_c _ _ _ _ (by omega), wr_c _ _ _ _ (by omega), wr_p _ _ _ _ (by omega), wr_p _ _ _ _ (by omega), wr_at]; rfl
  have e7 : (wr (fil (fil (wr (wr (wr (wr (wr (wr h 46 3 0) 46 4 (-1)) 46 7 0) 46 8 0) 47 5 0) 47 6 4) 51 0) 52 0) 53 3 0).1 46 7 = nI 0 := by
    rw [wr_c _ _ _ _ (by omega), fil_c _ (by omega), fil_c _ (by omega), wr_c _ _ _ _ (by omega), wr_c _ _ _ _ (by omega), wr_p _ _ _ _ (by omega), wr_at]; rfl
  have e8 : (wr (fil (fil (wr (wr (wr (wr (wr (wr h 46 3 0) 46 4 (-1)) 46 7 0) 46 8 0) 47 5 0) 47 6 4) 51 0) 52 0) 53 3 0).1 46 8 = nI 0 := by
    rw [wr_c _ _ _ _ (by omega), fil_c _ (by omega), fil_c _ (by omega), wr_c _ _ _ _ (by omega), wr_c _ _ _ _ (by omega), wr_at]; rfl
  have e5 : (wr (fil (fil (wr (wr (wr (wr (wr (wr h 46 3 0) 46 4 (-1)) 46 7 0) 46 8 0) 47 5 0) 47 6 4) 51 0) 52 0) 53 3 0).1 47 5 = nI 0 := by
    rw [wr_c _ _ _ _ (by omega), fil_c _ (by omega), fil_c _ (by omega), wr_p _ _ _ _ (by omega), wr_at]; rfl
  have e6 : (wr (fil (fil (wr (wr (wr (wr (wr (wr h 46 3 0) 46 4 (-1)) 46 7 0) 46 8 0) 47 5 0) 47 6 4) 51 0) 52 0) 53 3 0).1 47 6 = nI 4 := by
    rw [wr_c _ _ _ _ (by omega), fil_c _ (by omega), fil_c _ (by omega), wr_at]; rfl
  have eg : ∀ g, g < 8 → (wr (fil (fil (wr (wr (wr (wr (wr (wr h 46 3 0) 46 4 (-1)) 46 7 0) 46 8 0) 47 5 0) 47 6 4) 51 0) 52 0) 53 3 0).1 51 g = nI 0 ∧ (wr (fil (fil (wr (wr (wr (wr (wr (wr h 46 3 0) 46 4 (-1)) 46 7 0) 46 8 0) 47 5 0) 47 6 4) 51 0) 52 0) 53 3 0).1 52 g = nI 0 := fun g hg => by
    constructor
    · rw [wr_c _ _ _ _ (by omega), fil_c _ (by omega), fil_at (by omega)]; rfl
    · rw [wr_c _ _ _ _ (by omega), fil_at (by omega)]; rfl
  have e53 : (wr (fil (fil (wr (wr (wr (wr (wr (wr h 46 3 0) 46 4 (-1)) 46 7 0) 46 8 0) 47 5 0) 47 6 4) 51 0) 52 0) 53 3 0).1 53 3 = nI 0 := wr_at _ _ _ _
  generalize wr (fil (fil (wr (wr (wr (wr (wr (wr h 46 3 0) 46 4 (-1)) 46 7 0) 46 8 0) 47 5 0) 47 6 4) 51 0) 52 0) 53 3 0 = y at *
  have F0 : Fr pR0 h y := o
  have T1 : TC X y := tc_fr T (fun c i hc => o c i (by omega))
  refine okb (q_step hX T1 (p := 0) (Nat.zero_le _) e7) ?_
  rintro h1 ⟨K, F1⟩
  have o1 := ptk_o F1
  refine hQ h1 ⟨tc_tk T1 F1, show (0 : Nat) ≤ 3 by omega, by rw [o1 _ _ (by omega), e3]; rfl, by rw [o1 _ _ (by omega), e4]; rfl, 0, Nat.zero_le _, K, fun _ => rfl⟩ ?_ ?_ ?_ ?_ ?_ (fr_tr F0 (rd_0 (tk_rd F1)))
  · rw [o1 _ _ (by omega), e5]
  · rw [o1 _ _ (by omega), e6]
  · rw [o1 _ _ (by omega), e53]
  · rw [o1 _ _ (by omega), e8]
  · intro g hg
    rw [o1 _ _ (by omega), o1 _ _ (by omega)]
    exact eg g hg
theorem q_readI {X : Tx} {h : Hp} (hX : okX X) (T : TC X h) : Okk (R_read h (nI 0)) (fun h' => CF h' (endI X) ∧ ((endI X).1 = 0 → CH h' 47 (FI X).2.1) ∧ Fr pR0 h h') := by
  refine q_rbeg hX T ?_
  intro h1 C a5 a6 a53 a8 ag F1
  refine q_loop hX (stp X (gI X)) DI (fun h S D C I hS => q_rlI hX C I hS) (fun S D h1 h2 _ => stI_m h1 h2) C (D := D0I) ⟨⟨0, by omega, a5⟩, fun _ => ⟨⟨kd47.1, a5, a6, fun t ht => absurd ht (Nat.not_lt_zero _), ag⟩, Nat.zero_le _, a8⟩⟩ (show (0 : Nat) ≠ 1 by omega) ?_
  intro h2 C2 H2 F2
  have F := fr_tr F1 F2
  have C2' : CP X h2 (FI X).1 := C2
  have H2' : DI h2 (FI X).1 (FI X).2 := H2
  clear C2 H2
  obtain ⟨T2, hf3, c3, c4, p, hp, K, e⟩ := C2'
  unfold R_read_j73 R_read_j99 endI
  by_cases c0 : (FI X).1.2.1 = 0
  · obtain ⟨hc1, hc2, hc3⟩ := H2'.2 c0
    rw [q_hall _ hc1.2.2.1, hc3, sb]
    rw [if_pos c0] at c4
    by_cases d : sr (FI X).2.2 (nI (nG (FI X).2.1)) = nI 0
    · rw [if_pos d, if_neg (show ¬ nI 1 = (0 : Int32) by decide +kernel), if_neg (fun e => e.2 d)]
      exact ok_mk ⟨⟨c3, by rw [if_pos c0]; exact c4⟩, fun _ => hc1, F⟩
    · rw [if_neg d, if_pos (show nI 0 = (0 : Int32) from rfl), if_pos ⟨c0, d⟩]
      unfold R_note R_note_j17
      rw [if_pos (show h2.1 46 3 = 0 by rw [c3, c0]; rfl), bnd_eq, bnd_eq, sb, T2.1]
      refine ok_mk ⟨⟨?_, ?_⟩, fun e => absurd e (by show ¬ 4 = 0; omega), fr_tr F (fr_tr (fr_wr (Or.inl (by omega))) (fr_wr (Or.inl (by omega))))⟩
      · rw [wr_p _ _ _ _ (by omega), wr_at]; rfl
      · rw [wr_at]; rfl
  · rw [if_neg (fun e => c0 e.1)]
    have fin : CF h2 (FI X).1.2 ∧ ((FI X).1.2.1 = 0 → CH h2 47 (FI X).2.1) ∧ Fr pR0 h h2 := ⟨⟨c3, c4⟩, fun e => absurd e c0, F⟩
    have eN : R_note h2 (4 : Int32) (h2.1 3 1) = some h2 := by
      unfold R_note R_note_j17
      rw [if_neg (show ¬ h2.1 46 3 = 0 by rw [c3]; exact ne_nI (b := 0) (by omega) (by omega) c0)]
    unfold H_hasAll H_hasAll_j14
    rw [if_pos (show kd 47 = 1 from kd47.1)]
    by_cases d : sr (h2.1 46 8) (h2.1 47 6) = 0
    · rw [if_pos d, if_pos (Or.inr rfl), sb, if_neg (by decide +kernel)]
      exact ok_mk fin
    · rw [if_neg d, if_pos (Or.inl rfl), sb, if_pos rfl, eN, sb]
      exact ok_mk fin
theorem q_readL {X : Tx} {h : Hp} (hX : okX X) (T : TC X h) {s : Nat} (s1 : 1 ≤ s) (s2 : s < 4) : Okk (R_read h (nI s)) (fun h' => CF h' (endL s X) ∧ ((endL s X).1 = 0 → CL h' 53 (FL s X).2.1 (FL s X).2.2) ∧ Fr pR0 h h') := by
  refine q_rbeg hX T ?_
  intro h1 C a5 a6 a53 a8 ag F1
  refine q_loop hX (stp X (gD s X)) DL (fun h S D C I hS => q_rlD hX C I hS s1 s2) (fun S D h1 h2 _ => stD_m h1 h2) C (D := D0L) ⟨⟨0, by omega, a53⟩, a8, a6, fun _ => ⟨Nat.zero_le _, a53, fun i hi => absurd hi (Nat.not_lt_zero _)⟩⟩ (show (0 : Nat) ≠ 1 by omega) ?_
  intro h2 C2 H2 F2
  have F := fr_tr F1 F2
  have C2' : CP X h2 (FL s X).1 := C2
  have H2' : DL h2 (FL s X).1 (FL s X).2 := H2
  clear C2 H2
  obtain ⟨T2, hf3, c3, c4, p, hp, K, e⟩ := C2'
  obtain ⟨-, h8, h6, hc⟩ := H2'
  unfold R_read_j73 R_read_j99 endL
  rw [q_hall _ h6, h8, if_pos (show sr (0 : Int32) (nI 4) = nI 0 by decide +kernel), sb, if_neg (show ¬ nI 1 = (0 : Int32) by decide +kernel)]
  refine ok_mk ⟨⟨c3, c4⟩, fun c => ?_, F⟩
  obtain ⟨g1, g2, g3⟩ := hc c
  exact ⟨kd47.2.2.2.2.2.2.2.2.2.2.2.1, g2, by rw [show 53 + 1 = 54 from rfl, kd47.2.2.2.2.2.2.2.2.2.2.2.2]; exact g1, g3⟩
