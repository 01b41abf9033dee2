/-! ===== L3: texts: the lines of the code ===== -/
theorem kd47 : kd 47 = 1 ∧ kd 48 = 20 ∧ kd 49 = 20 ∧ kd 50 = 20 ∧ kd 51 = 20 ∧ kd 52 = 20 ∧ ln 48 = 5 ∧ ln 49 = 5 ∧ ln 50 = 5 ∧ ln 51 = 8 ∧ ln 52 = 8 ∧ kd 53 = 2 ∧ ln 54 = 40 := by decide +kernel
def pR0 : Nat → Nat → Prop := fun c i => (c = 46 ∧ 3 ≤ i ∧ i ≤ 8) ∨ (47 ≤ c ∧ c ≤ 56)
theorem pr0_o {h h' : Hp} (F : Fr pR0 h h') : ∀ c i, ¬ ((c = 46 ∧ 3 ≤ i ∧ i ≤ 8) ∨ (47 ≤ c ∧ c ≤ 56)) → h'.1 c i = h.1 c i := F
theorem rd_0 {h h' : Hp} (F : Fr pRd h h') : Fr pR0 h h' := fr_mo F (fun c i hc => by
  have hc' : c = 46 ∧ 3 ≤ i ∧ i ≤ 7 := hc
  show (c = 46 ∧ 3 ≤ i ∧ i ≤ 8) ∨ (47 ≤ c ∧ c ≤ 56)
  omega)
theorem pr0_w {h : Hp} {c i : Nat} {v : Int32} (hc : 47 ≤ c ∧ c ≤ 56) : Fr pR0 h (wr h c i v) := fr_wr (Or.inr hc)
/-! an inn's lines -/
def iT (n : Inn) (s k p : Nat) : Inn := (nT n + 1, nG n, up (nS n) (nT n) s, up (nK n) (nT n) k, up (nP n) (nT n) (nI p), nQ n, nL n)
def iGu (n : Inn) (g : Nat) : Inn := (nT n, g, nS n, nK n, nP n, nQ n, nL n)
def cpl (f : Nat → Int32) (a b : Nat) : Nat → Int32 := up (up f a (f a ||| sh (nI 1) (nI b))) b (up f a (f a ||| sh (nI 1) (nI b)) b ||| sh (nI 1) (nI a))
def iCo (k : Nat) (n : Inn) (a b : Nat) : Inn := if k = 3 then (nT n, nG n, nS n, nK n, nP n, nQ n, cpl (nL n) a b) else (nT n, nG n, nS n, nK n, nP n, cpl (nQ n) a b, nL n)
def lnI (X : Tx) (k : Nat) (S : PS) (D : Inn × Int32) : PS × (Inn × Int32) := if k = 0 then (nuS X 0 9 0 (nuS X 1 6 0 (nuS X 1 8 0 S)), (iT D.1 (nuV X 1 8 S) (nuV X 1 6 (nuS X 1 8 0 S)) (nuV X 0 9 (nuS X 1 6 0 (nuS X 1 8 0 S))), D.2)) else if k = 1 then (nuS X 1 8 0 S, (iGu D.1 (nuV X 1 8 S), D.2)) else (nuS X 0 7 (sh (nI 1) (nI (nuV X 0 7 S))) (nuS X 0 7 0 S), (iCo k D.1 (nuV X 0 7 S) (nuV X 0 7 (nuS X 0 7 0 S)), D.2 ||| (sh (nI 1) (nI (nuV X 0 7 S)) ||| sh (nI 1) (nI (nuV X 0 7 (nuS X 0 7 0 S))))))
def DI (h : Hp) (S : PS) (D : Inn × Int32) : Prop := (∃ T, T ≤ 5 ∧ h.1 47 5 = nI T) ∧ (S.2.1 = 0 → CH h 47 D.1 ∧ nT D.1 ≤ 5 ∧ h.1 46 8 = D.2)
theorem di_fr {h h' : Hp} {S S' : PS} {D : Inn × Int32} (H : DI h S D) (hS : S'.2.1 = 0 → S.2.1 = 0) (F : Fr pRd h h') : DI h' S' D := by
  have o := prd_o F
  obtain ⟨⟨T, h1, h2⟩, h3⟩ := H
  refine ⟨⟨T, h1, by rw [o _ _ (by omega), h2]⟩, fun c => ?_⟩
  obtain ⟨⟨g1, g2, g3, g4, g5⟩, g6, g7⟩ := h3 (hS c)
  refine ⟨⟨g1, by rw [o _ _ (by omega), g2], by rw [o _ _ (by omega), g3], fun t ht => ?_, fun g hg => ?_⟩, g6, by rw [o _ _ (by omega), g7]⟩
  · rw [o _ _ (by omega), o _ _ (by omega), o _ _ (by omega)]
    exact g4 t ht
  · rw [o _ _ (by omega), o _ _ (by omega)]
    exact g5 g hg
theorem q_addT {h : Hp} {T : Nat} (h5 : h.1 47 5 = nI T) (hT : T ≤ 5) (x y z : Int32) : H_addTable h 47 x y z = some (if T < 5 then wr (wr (wr (wr h 48 T x) 49 T y) 50 T z) 47 5 (nI (T + 1)) else h) := by
  obtain ⟨k0, k1, k2, k3, k4, k5, l1, l2, l3, l4, l5, -⟩ := kd47
  unfold H_addTable H_addTable_j48
  rw [if_pos k0, h5]
  by_cases c : T < 5
  case neg => rw [if_pos (show (5 : Int32) ≤ nI T from (nI_leI (a := 5) (by omega) (by omega)).mpr (by omega)), if_neg c]
  rw [if_neg (show ¬ (5 : Int32) ≤ nI T from fun e => by have := (nI_leI (a := 5) (by omega) (by omega)).mp e; omega), if_pos c]
  show (if kd 48 = 20 ∧ inb (nI T) (ln 48) then _ else _) = _
  rw [if_pos ⟨k1, by rw [l1]; exact nI_in c (by omega)⟩, nI_clamp (show T < 2 ^ 31 by omega), bnd_eq]
  show (if kd 49 = 20 ∧ inb ((wr h 48 T x).1 47 5) (ln 49) then _ else _) = _
  rw [wr_c _ _ _ _ (show 47 ≠ 48 by omega), h5, if_pos ⟨k2, by rw [l2]; exact nI_in c (by omega)⟩, nI_clamp (show T < 2 ^ 31 by omega), bnd_eq]
  show (if kd 50 = 20 ∧ inb ((wr (wr h 48 T x) 49 T y).1 47 5) (ln 50) then _ else _) = _
  rw [wr_c _ _ _ _ (show 47 ≠ 49 by omega), wr_c _ _ _ _ (show 47 ≠ 48 by omega), h5, if_pos ⟨k3, by rw [l3]; exact nI_in c (by omega)⟩, nI_clamp (show T < 2 ^ 31 by omega), bnd_eq, bnd_eq]
  show some (wr (wr (wr (wr h 48 T x) 49 T y) 50 T z) 47 5 ((wr (wr (wr h 48 T x) 49 T y) 50 T z).1 47 5 + (1 : Int32))) = _
  rw [wr_c _ _ _ _ (show 47 ≠ 50 by omega), wr_c _ _ _ _ (show 47 ≠ 49 by omega), wr_c _ _ _ _ (show 47 ≠ 48 by omega), h5, show nI T + (1 : Int32) = nI (T + 1) from nI_add _ _]
def kC (k : Nat) : Nat := if k = 3 then 52 else 51
theorem q_addC {h : Hp} {k a b : Nat} (hk : k < 4) (ha : a < 8) (hb : b < 8) : H_addCouple h 47 (nI k) (nI a) (nI b) = some (wr (wr h (kC k) a (h.1 (kC k) a ||| sh (nI 1) (nI b))) (kC k) b ((wr h (kC k) a (h.1 (kC k) a ||| sh (nI 1) (nI b))).1 (kC k) b ||| sh (nI 1) (nI a))) := by
  obtain ⟨k0, k1, k2, k3, k4, k5, l1, l2, l3, l4, l5, -⟩ := kd47
  have j36 : ∀ s0, kd s0 = 20 ∧ ln s0 = 8 → H_addCouple_j36 47 (nI a) (nI b) s0 h = some (wr (wr h s0 a (h.1 s0 a ||| sh (nI 1) (nI b))) s0 b ((wr h s0 a (h.1 s0 a ||| sh (nI 1) (nI b))).1 s0 b ||| sh (nI 1) (nI a))) := by
    rintro s0 ⟨q1, q2⟩
    unfold H_addCouple_j36 H_addCouple_j58
    rw [q2, if_pos ⟨q1, nI_in ha (by omega)⟩, if_pos ⟨q1, nI_in ha (by omega)⟩, bnd_eq, if_pos ⟨q1, nI_in hb (by omega)⟩, if_pos ⟨q1, nI_in hb (by omega)⟩, bnd_eq, nI_clamp (show a < 2 ^ 31 by omega), nI_clamp (show b < 2 ^ 31 by omega)]
    rfl
  unfold H_addCouple kC
  rw [if_pos k0, show K_isOf (nI a) (0 : Int32) (8 : Int32) = some (bI (iz (nI a) 0 8)) from q_isOf _ (a := 0) (n := 8) (by omega) (by omega), sb, iz_nI 0 8 (by omega), decide_eq_true (show 0 ≤ a ∧ a < 0 + 8 by omega), if_neg bt_0, show K_isOf (nI b) (0 : Int32) (8 : Int32) = some (bI (iz (nI b) 0 8)) from q_isOf _ (a := 0) (n := 8) (by omega) (by omega), sb, iz_nI 0 8 (by omega), decide_eq_true (show 0 ≤ b ∧ b < 0 + 8 by omega), if_neg bt_0]
  by_cases c : k = 3
  · rw [if_pos (show nI k = (3 : Int32) by rw [c]; rfl), if_pos c]
    exact j36 52 ⟨k5, l5⟩
  · rw [if_neg (show ¬ nI k = (3 : Int32) from ne_nI (b := 3) (by omega) (by omega) c), if_neg c]
    exact j36 51 ⟨k4, l4⟩
theorem q_rinn {X : Tx} {h : Hp} {S : PS} {D : Inn × Int32} (hX : okX X) (C : CP X h S) (H : DI h S D) {k : Nat} (hk : k < 4) (hT : k = 0 → S.2.1 = 0 → nT D.1 < 5) : Okk (R_readInnLine h (nI k)) (fun h' => CP X h' (lnI X k S D).1 ∧ DI h' (lnI X k S D).1 (lnI X k S D).2 ∧ Fr pR0 h h') := by
  unfold R_readInnLine R_readInnLine_j115 lnI
  by_cases c0 : k = 0
  · rw [if_pos (show nI k = 0 by rw [c0]; rfl), if_pos c0]
    refine okb (q_number hX C (a := 1) (c := 8) (by omega) (by omega) 0) ?_
    rintro ⟨r2, h3⟩ ⟨e1, C1, F1⟩
    dsimp only at e1 C1 F1 ⊢
    refine okb (q_number hX C1 (a := 1) (c := 6) (by omega) (by omega) 0) ?_
    rintro ⟨r4, h5⟩ ⟨e2, C2, F2⟩
    dsimp only at e2 C2 F2 ⊢
    refine okb (q_number hX C2 (a := 0) (c := 9) (by omega) (by omega) 0) ?_
    rintro ⟨r6, h7⟩ ⟨e3, C3, F3⟩
    dsimp only at e3 C3 F3 ⊢
    subst e1 e2 e3
    have F := fr_tr F1 (fr_tr F2 F3)
    have H2 : DI h7 (nuS X 0 9 0 (nuS X 1 6 0 (nuS X 1 8 0 S))) D := di_fr H (fun c => (nuS_0 (nuS_0 (nuS_0 c).1).1).1) F
    obtain ⟨⟨T, hT5, h75⟩, hcl⟩ := H2
    rw [q_addT h75 hT5, sb]
    by_cases d : T < 5
    case neg =>
      rw [if_neg d]
      refine ok_mk ⟨C3, ⟨⟨T, hT5, h75⟩, fun c => ?_⟩, rd_0 F⟩
      obtain ⟨g1, g2, g3⟩ := hcl c
      have := hT c0 (nuS_0 (nuS_0 (nuS_0 c).1).1).1
      have e := g1.2.1.symm.trans h75
      rw [nI_eq (by omega) (by omega)] at e
      omega
    rw [if_pos d]
    refine ok_mk ⟨cP_fr C3 (fun c i hc => by rw [wr_c _ _ _ _ (by omega), wr_c _ _ _ _ (by omega), wr_c _ _ _ _ (by omega), wr_c _ _ _ _ (by omega)]), ⟨⟨T + 1, by omega, wr_at _ _ _ _⟩, fun c => ?_⟩, fr_tr (rd_0 F) (fr_tr (fr_tr (fr_tr (pr0_w (by omega)) (pr0_w (by omega))) (pr0_w (by omega))) (pr0_w (by omega)))⟩
    obtain ⟨⟨g1, g2, g3, g4, g5⟩, g6, g7⟩ := hcl c
    have e := g2.symm.trans h75
    rw [nI_eq (by omega) (by omega)] at e
    subst e
    have o : ∀ c i, ¬ (c = 48 ∨ c = 49 ∨ c = 50 ∨ (c = 47 ∧ i = 5)) → (wr (wr (wr (wr h7 48 (nT D.1) (nI (nuV X 1 8 S))) 49 (nT D.1) (nI (nuV X 1 6 (nuS X 1 8 0 S)))) 50 (nT D.1) (nI (nuV X 0 9 (nuS X 1 6 0 (nuS X 1 8 0 S))))) 47 5 (nI (nT D.1 + 1))).1 c i = h7.1 c i := fun c i hc => by
      rw [wr_i, if_neg (by omega), wr_i, if_neg (by omega), wr_i, if_neg (by omega), wr_i, if_neg (by omega)]
    refine ⟨⟨g1, wr_at _ _ _ _, by rw [o _ _ (by omega)]; exact g3, fun t ht => ?_, fun g hg => by rw [o _ _ (by omega), o _ _ (by omega)]; exact g5 g hg⟩, d, by rw [o _ _ (by omega), g7]⟩
    have ht' : t < nT D.1 + 1 := ht
    by_cases et : t = nT D.1
    · subst et
      refine ⟨?_, ?_, ?_⟩
      · show _ = nI (up (nS D.1) (nT D.1) _ (nT D.1))
        rw [up_at, wr_c _ _ _ _ (by omega), wr_c _ _ _ _ (by omega), wr_c _ _ _ _ (by omega), wr_at]
      · show _ = nI (up (nK D.1) (nT D.1) _ (nT D.1))
        rw [up_at, wr_c _ _ _ _ (by omega), wr_c _ _ _ _ (by omega), wr_at]
      · show _ = up (nP D.1) (nT D.1) _ (nT D.1)
        rw [up_at, wr_c _ _ _ _ (by omega), wr_at]
    · have g := g4 t (by omega)
      refine ⟨?_, ?_, ?_⟩
      · show _ = nI (up (nS D.1) (nT D.1) _ t)
        rw [up_ne _ _ et, wr_c _ _ _ _ (by omega), wr_c _ _ _ _ (by omega), wr_c _ _ _ _ (by omega), wr_p _ _ _ _ et]
        exact g.1
      · show _ = nI (up (nK D.1) (nT D.1) _ t)
        rw [up_ne _ _ et, wr_c _ _ _ _ (by omega), wr_c _ _ _ _ (by omega), wr_p _ _ _ _ et, wr_c _ _ _ _ (by omega)]
        exact g.2.1
      · show _ = up (nP D.1) (nT D.1) _ t
        rw [up_ne _ _ et, wr_c _ _ _ _ (by omega), wr_p _ _ _ _ et, wr_c _ _ _ _ (by omega), wr_c _ _ _ _ (by omega)]
        exact g.2.2
  rw [if_neg (show ¬ nI k = 0 from ne_nI (b := 0) (by omega) (by omega) c0), if_neg c0]
  by_cases c1 : k = 1
  · rw [if_pos (show nI k = (1 : Int32) by rw [c1]; rfl), if_pos c1]
    refine okb (q_number hX C (a := 1) (c := 8) (by omega) (by omega) 0) ?_
    rintro ⟨r2, h3⟩ ⟨e1, C1, F1⟩
    dsimp only at e1 C1 F1 ⊢
    subst e1
    obtain ⟨⟨T, hT5, h75⟩, hcl⟩ : DI h3 (nuS X 1 8 0 S) D := di_fr H (fun c => (nuS_0 c).1) F1
    rw [bnd_eq]
    have o : ∀ c i, ¬ (c = 47 ∧ i = 6) → (wr h3 47 6 (nI (nuV X 1 8 S))).1 c i = h3.1 c i := fun c i hc => by rw [wr_i, if_neg hc]
    refine ok_mk ⟨cP_fr C1 (fun c i hc => o c i (by omega)), ⟨⟨T, hT5, by rw [o _ _ (by omega), h75]⟩, fun c => ?_⟩, fr_tr (rd_0 F1) (pr0_w (by omega))⟩
    obtain ⟨⟨g1, g2, g3, g4, g5⟩, g6, g7⟩ := hcl c
    refine ⟨⟨g1, by rw [o _ _ (by omega)]; exact g2, wr_at _ _ _ _, fun t ht => ?_, fun g hg => ?_⟩, g6, by rw [o _ _ (by omega), g7]⟩
    · rw [o _ _ (by omega), o _ _ (by omega), o _ _ (by omega)]
      exact g4 t ht
    · rw [o _ _ (by omega), o _ _ (by omega)]
      exact g5 g hg
  rw [if_neg (show ¬ nI k = (1 : Int32) from ne_nI (b := 1) (by omega) (by omega) c1), if_neg c1]
  refine okb (q_number hX C (a := 0) (c := 7) (by omega) (by omega) 0) ?_
  rintro ⟨r2, h3⟩ ⟨e1, C1, F1⟩
  dsimp only at e1 C1 F1 ⊢
  subst e1
  refine okb (q_number hX C1 (a := 0) (c := 7) (by omega) (by omega) (sh (1 : Int32) (nI (nuV X 0 7 S)))) ?_
  rintro ⟨r4, h5⟩ ⟨e2, C2, F2⟩
  dsimp only at e2 C2 F2 ⊢
  subst e2
  have F := fr_tr F1 F2
  have b1 := (nuV_b X (show 0 ≤ 7 by omega) S).2
  have b2 := (nuV_b X (show 0 ≤ 7 by omega) (nuS X 0 7 0 S)).2
  have H2 : DI h5 (nuS X 0 7 (sh (1 : Int32) (nI (nuV X 0 7 S))) (nuS X 0 7 0 S)) D := di_fr H (fun c => (nuS_0 (nuS_0 c).1).1) F
  obtain ⟨⟨T, hT5, h75⟩, hcl⟩ := H2
  generalize nuV X 0 7 S = a at *
  generalize nuV X 0 7 (nuS X 0 7 0 S) = b at *
  rw [q_addC hk (show a < 8 by omega) (show b < 8 by omega), sb, bnd_eq]
  have hkc : kC k = 51 ∨ kC k = 52 := by
    unfold kC
    by_cases c : k = 3
    · rw [if_pos c]; omega
    · rw [if_neg c]; omega
  have o : ∀ c i, ¬ (c = kC k ∨ (c = 46 ∧ i = 8)) → (wr (wr (wr h5 (kC k) a (h5.1 (kC k) a ||| sh (nI 1) (nI b))) (kC k) b ((wr h5 (kC k) a (h5.1 (kC k) a ||| sh (nI 1) (nI b))).1 (kC k) b ||| sh (nI 1) (nI a))) 46 8 ((wr (wr h5 (kC k) a (h5.1 (kC k) a ||| sh (nI 1) (nI b))) (kC k) b ((wr h5 (kC k) a (h5.1 (kC k) a ||| sh (nI 1) (nI b))).1 (kC k) b ||| sh (nI 1) (nI a))).1 46 8 ||| (sh (1 : Int32) (nI a) ||| sh (1 : Int32) (nI b)))).1 c i = h5.1 c i := fun c i hc => by
    rw [wr_i, if_neg (by omega), wr_i, if_neg (by omega), wr_i, if_neg (by omega)]
  have oc : ∀ i, (wr (wr (wr h5 (kC k) a (h5.1 (kC k) a ||| sh (nI 1) (nI b))) (kC k) b ((wr h5 (kC k) a (h5.1 (kC k) a ||| sh (nI 1) (nI b))).1 (kC k) b ||| sh (nI 1) (nI a))) 46 8 ((wr (wr h5 (kC k) a (h5.1 (kC k) a ||| sh (nI 1) (nI b))) (kC k) b ((wr h5 (kC k) a (h5.1 (kC k) a ||| sh (nI 1) (nI b))).1 (kC k) b ||| sh (nI 1) (nI a))).1 46 8 ||| (sh (1 : Int32) (nI a) ||| sh (1 : Int32) (nI b)))).1 (kC k) i = cpl (h5.1 (kC k)) a b i := fun i => by
    rw [wr_c _ _ _ _ (show kC k ≠ 46 by omega)]
    unfold cpl
    by_cases e1 : i = b
    · subst e1
      rw [wr_at, up_at]
      by_cases e2 : i = a
      · subst e2
        rw [wr_at, up_at]
      · rw [wr_p _ _ _ _ e2, up_ne _ _ e2]
    · rw [wr_p _ _ _ _ e1, up_ne _ _ e1]
      by_cases e2 : i = a
      · subst e2
        rw [wr_at, up_at]
      · rw [wr_p _ _ _ _ e2, up_ne _ _ e2]
  refine ok_mk ⟨cP_fr C2 (fun c i hc => o c i (by omega)), ⟨⟨T, hT5, by rw [o _ _ (by omega), h75]⟩, fun c => ?_⟩, fr_tr (rd_0 F) (fr_tr (fr_tr (pr0_w (by omega)) (pr0_w (by omega))) (fr_wr (Or.inl (by omega))))⟩
  obtain ⟨⟨g1, g2, g3, g4, g5⟩, g6, g7⟩ := hcl c
  have e8 : (wr (wr h5 (kC k) a (h5.1 (kC k) a ||| sh (nI 1) (nI b))) (kC k) b ((wr h5 (kC k) a (h5.1 (kC k) a ||| sh (nI 1) (nI b))).1 (kC k) b ||| sh (nI 1) (nI a))).1 46 8 = D.2 := by
    rw [wr_c _ _ _ _ (show 46 ≠ kC k by omega), wr_c _ _ _ _ (show 46 ≠ kC k by omega), g7]
  have eN : nT (iCo k D.1 a b) = nT D.1 ∧ nG (iCo k D.1 a b) = nG D.1 ∧ nS (iCo k D.1 a b) = nS D.1 ∧ nK (iCo k D.1 a b) = nK D.1 ∧ nP (iCo k D.1 a b) = nP D.1 := by
    unfold iCo
    by_cases c : k = 3
    · rw [if_pos c]; exact ⟨rfl, rfl, rfl, rfl, rfl⟩
    · rw [if_neg c]; exact ⟨rfl, rfl, rfl, rfl, rfl⟩
  obtain ⟨n1, n2, n3, n4, n5⟩ := eN
  refine ⟨⟨g1, ?_, ?_, fun t ht => ?_, fun g hg => ?_⟩, ?_, ?_⟩
  · rw [o _ _ (by omega), n1]; exact g2
  · rw [o _ _ (by omega), n2]; exact g3
  · rw [n1] at ht
    rw [o _ _ (by omega), o _ _ (by omega), o _ _ (by omega), n3, n4, n5]
    exact g4 t ht
  · have cg : ∀ f : Nat → Int32, (∀ i, i < 8 → h5.1 (kC k) i = f i) → cpl (h5.1 (kC k)) a b g = cpl f a b g := fun f hf => by
      unfold cpl up
      rw [hf a (by omega), hf b (by omega), hf g hg]
    unfold iCo
    by_cases c : k = 3
    · have ek : kC k = 52 := if_pos c
      rw [if_pos c]
      refine ⟨?_, ?_⟩
      · rw [o _ _ (by omega)]
        exact (g5 g hg).1
      · have := (oc g).trans (cg (nL D.1) (fun i hi => by rw [ek]; exact (g5 i hi).2))
        rw [ek] at this
        rw [ek]
        exact this
    · have ek : kC k = 51 := if_neg c
      rw [if_neg c]
      refine ⟨?_, ?_⟩
      · have := (oc g).trans (cg (nQ D.1) (fun i hi => by rw [ek]; exact (g5 i hi).1))
        rw [ek] at this
        rw [ek]
        exact this
      · rw [o _ _ (by omega)]
        exact (g5 g hg).2
  · rw [n1]; exact g6
  · rw [wr_at, e8]
    rfl
