/-! ===== L3: texts: evenings, wishes, hearings: the code ===== -/
def sitT (X : Tx) : Nat → PS → Int32 → PS × Int32
  | 0, S, w => (S, w)
  | k + 1, S, w => if S.2.1 ≠ 1 ∧ tK X S.1 = 2 then sitT X k (nuS X 0 7 w S) (w ||| sh (nI 1) (nI (nuV X 0 7 S))) else (S, w)
theorem sitT_s (X : Tx) (k : Nat) (S : PS) (w : Int32) : sitT X (k + 1) S w = if S.2.1 ≠ 1 ∧ tK X S.1 = 2 then sitT X k (nuS X 0 7 w S) (w ||| sh (nI 1) (nI (nuV X 0 7 S))) else (S, w) := rfl
theorem sitT_n {X : Tx} {S : PS} {w : Int32} (h : ¬ (S.2.1 ≠ 1 ∧ tK X S.1 = 2)) : ∀ k, sitT X k S w = (S, w)
  | 0 => rfl
  | k + 1 => by rw [sitT_s, if_neg h]
/-- what follows the keyword of a line: how far one is, and the line -/
def lnD (s : Nat) (X : Tx) (k : Nat) (S : PS) : PS × Pst :=
  if s = 1 then
    (if k = 0 then ((sitT X 600 (nuS X 0 7 0 (nuS X 0 4 0 S)) (sh (nI 1) (nI (nuV X 0 7 (nuS X 0 4 0 S))))).1, (nI 0, nI (nuV X 0 4 S), (sitT X 600 (nuS X 0 7 0 (nuS X 0 4 0 S)) (sh (nI 1) (nI (nuV X 0 7 (nuS X 0 4 0 S))))).2))
    else if k = 1 then (nuS X 0 9 0 (nuS X 0 7 0 S), (nI 1, nI (nuV X 0 7 S), nI (nuV X 0 9 (nuS X 0 7 0 S))))
    else if k = 2 then (S, (nI 2, jN 1, jN 1))
    else if k = 3 then (nuS X 0 4 0 S, (nI 3, nI (nuV X 0 4 S), jN 1))
    else (nuS X 0 4 (sh (nI 1) (nI (nuV X 0 4 S))) (nuS X 0 4 0 S), (nI k, nI (nuV X 0 4 S), nI (nuV X 0 4 (nuS X 0 4 0 S)))))
  else if s = 2 then
    (if k < 2 then (nuS X 0 9 0 (nuS X 0 7 0 S), (nI k, nI (nuV X 0 7 S), nI (nuV X 0 9 (nuS X 0 7 0 S))))
    else (nuS X 0 7 (sh (nI 1) (nI (nuV X 0 7 S))) (nuS X 0 7 0 S), (nI k, nI (nuV X 0 7 S), nI (nuV X 0 7 (nuS X 0 7 0 S)))))
  else (if k = 0 then (nuS X 0 7 0 S, (nI 0, nI (nuV X 0 7 S), jN 1)) else (S, (nI k, jN 1, jN 1)))
abbrev DN : Type := Nat × (Nat → Pst)
def ap1 (D : DN) (d : Pst) : DN := (D.1 + 1, up D.2 D.1 d)
def DL (h : Hp) (S : PS) (D : DN) : Prop := (∃ m, m ≤ 40 ∧ h.1 53 3 = nI m) ∧ h.1 46 8 = 0 ∧ h.1 47 6 = nI 4 ∧ (S.2.1 = 0 → D.1 ≤ 40 ∧ h.1 53 3 = nI D.1 ∧ ∀ i, i < D.1 → h.1 54 i = (D.2 i).1 ∧ h.1 55 i = (D.2 i).2.1 ∧ h.1 56 i = (D.2 i).2.2)
theorem dl_fr {h h' : Hp} {S S' : PS} {D : DN} (H : DL h S D) (hS : S'.2.1 = 0 → S.2.1 = 0) (F : Fr pRd h h') : DL h' S' D := by
  have o := prd_o F
  obtain ⟨⟨m, h1, h2⟩, h8, h6, h3⟩ := H
  refine ⟨⟨m, h1, by rw [o _ _ (by omega), h2]⟩, by rw [o _ _ (by omega), h8], by rw [o _ _ (by omega), h6], fun c => ?_⟩
  obtain ⟨g1, g2, g3⟩ := h3 (hS c)
  refine ⟨g1, by rw [o _ _ (by omega), g2], fun i hi => ?_⟩
  rw [o _ _ (by omega), o _ _ (by omega), o _ _ (by omega)]
  exact g3 i hi
theorem q_add53 {X : Tx} {h : Hp} {S : PS} {D : DN} (C : CP X h S) (H : DL h S D) (hD : S.2.1 = 0 → D.1 < 40) (d : Pst) : Okk (L_add h 53 d.1 d.2.1 d.2.2) (fun h' => CP X h' S ∧ DL h' S (ap1 D d) ∧ Fr pR0 h h') := by
  obtain ⟨k0, k1, k2, k3, k4, k5, l1, l2, l3, l4, l5, k6, l6⟩ := kd47
  obtain ⟨⟨m, hm, h3⟩, h8, h6, hc⟩ := H
  by_cases c : m < 40
  case neg =>
    have e : L_add h 53 d.1 d.2.1 d.2.2 = some h := by
      unfold L_add L_add_j52
      rw [if_pos k6]
      show (if 20 ≤ kd 54 ∧ kd 54 < 27 then (if Int32.ofNat (ln 54) ≤ h.1 53 3 then _ else _) else _) = _
      rw [if_pos (by decide +kernel), l6, h3, if_pos (show Int32.ofNat 40 ≤ nI m from (nI_leI (a := 40) (by omega) (by omega)).mpr (by omega))]
    rw [e]
    refine ok_mk ⟨C, ⟨⟨m, hm, h3⟩, h8, h6, fun e => ?_⟩, fr_rfl⟩
    obtain ⟨g1, g2, -⟩ := hc e
    have e2 := g2.symm.trans h3
    rw [nI_eq (by omega) (by omega)] at e2
    have := hD e
    omega
  rw [q_ladd k6 h3 (by rw [show 53 + 1 = 54 from rfl, l6]; exact c)]
  have o : ∀ c i, ¬ (54 ≤ c ∧ c ≤ 56) → ¬ (c = 53 ∧ i = 3) → (wr (wr (wr (wr h (53 + 1) m d.1) (53 + 2) m d.2.1) (53 + 3) m d.2.2) 53 3 (nI (m + 1))).1 c i = h.1 c i := fun c i h1 h2 => by
    rw [wr_i, if_neg (by omega), wr_i, if_neg (by omega), wr_i, if_neg (by omega), wr_i, if_neg (by omega)]
  refine ok_mk ⟨cP_fr C (fun c i hc => o c i (by omega) (by omega)), ⟨⟨m + 1, by omega, wr_at _ _ _ _⟩, by rw [o _ _ (by omega) (by omega), h8], by rw [o _ _ (by omega) (by omega), h6], fun e => ?_⟩, fr_tr (fr_tr (fr_tr (pr0_w (by omega)) (pr0_w (by omega))) (pr0_w (by omega))) (pr0_w (by omega))⟩
  obtain ⟨g1, g2, g3⟩ := hc e
  have e2 := g2.symm.trans h3
  rw [nI_eq (by omega) (by omega)] at e2
  subst e2
  refine ⟨show D.1 + 1 ≤ 40 by omega, wr_at _ _ _ _, fun i hi => ?_⟩
  have hi' : i < D.1 + 1 := hi
  show _ = (up D.2 D.1 d i).1 ∧ _ = (up D.2 D.1 d i).2.1 ∧ _ = (up D.2 D.1 d i).2.2
  by_cases ei : i = D.1
  · subst ei
    rw [up_at]
    refine ⟨?_, ?_, ?_⟩
    · rw [wr_c _ _ _ _ (by omega), wr_c _ _ _ _ (by omega), wr_c _ _ _ _ (by omega), wr_at]
    · rw [wr_c _ _ _ _ (by omega), wr_c _ _ _ _ (by omega), wr_at]
    · rw [wr_c _ _ _ _ (by omega), wr_at]
  · rw [up_ne _ _ ei]
    obtain ⟨y1, y2, y3⟩ := g3 i (by omega)
    have oi : ∀ c, 54 ≤ c → (wr (wr (wr (wr h (53 + 1) D.1 d.1) (53 + 2) D.1 d.2.1) (53 + 3) D.1 d.2.2) 53 3 (nI (D.1 + 1))).1 c i = h.1 c i := fun c hc => by
      rw [wr_c _ _ _ _ (by omega), wr_p _ _ _ _ ei, wr_p _ _ _ _ ei, wr_p _ _ _ _ ei]
    exact ⟨by rw [oi _ (by omega), y1], by rw [oi _ (by omega), y2], by rw [oi _ (by omega), y3]⟩
theorem q_sit {N : Nat} (hN : N = 600) {X : Tx} {h : Hp} {S : PS} {w : Int32} {D : DN} {y1 : Nat} (hX : okX X) (C : CP X h S) (H : DL h S D) (hD : (sitT X N S w).1.2.1 = 0 → D.1 < 40) (hS0 : (sitT X N S w).1.2.1 = 0 → S.2.1 = 0) : Okk (R_readDeed_l66 (nI 0) (nI y1) w (nI 0) h) (fun h' => CP X h' (sitT X N S w).1 ∧ DL h' (sitT X N S w).1 (ap1 D (nI 0, nI y1, (sitT X N S w).2)) ∧ Fr pR0 h h') := by
  unfold R_readDeed_l66
  have fin : ∀ S' w' h', CP X h' S' → S' = (sitT X N S w).1 → (S'.2.1 = 0 → w' = (sitT X N S w).2) → Fr pRd h h' → Okk (R_readDeed_j101 (nI 0) (nI y1) w' h') (fun h' => CP X h' (sitT X N S w).1 ∧ DL h' (sitT X N S w).1 (ap1 D (nI 0, nI y1, (sitT X N S w).2)) ∧ Fr pR0 h h') := by
    intro S' w' h' C' e1 e2 F
    unfold R_readDeed_j101 R_readDeed_j157
    rw [← e1] at hD hS0 ⊢
    refine okb (q_add53 (d := (nI 0, nI y1, w')) C' (dl_fr H hS0 F) hD) ?_
    rintro h2 ⟨r1, r2, r3⟩
    refine ok_mk ⟨r1, ?_, fr_tr (rd_0 F) r3⟩
    obtain ⟨a1, a2, a3, a4⟩ := r2
    refine ⟨a1, a2, a3, fun c => ?_⟩
    rw [← e2 c]
    exact a4 c
  refine lp_for _ N (fun i z => z.2.1 = nI i ∧ ∃ S', CP X z.2.2 S' ∧ Fr pRd h z.2.2 ∧ (S'.2.1 ≠ 1 → sitT X (N - i) S' z.1 = sitT X N S w) ∧ (S'.2.1 = 1 → (sitT X N S w).1 = S')) _ ?_ ?_ 0 _ (by omega) ⟨rfl, S, C, fr_rfl, fun _ => rfl, fun c => by rw [sitT_n (fun e => e.1 c)]⟩
  · rintro i ⟨z1, z2, z3⟩ hi ⟨ez, S', C', F, g1, g2⟩
    dsimp only at ez C' F g1 g2
    subst ez
    have C0 := C'
    obtain ⟨T, hf3, c3, c4, p, hp, K, e⟩ := C'
    have hk4 := tK_le X p
    unfold R_readDeed_b66
    dsimp only
    rw [if_neg (show ¬ (600 : Int32) ≤ nI i from fun e => by have := (nI_leI (a := 600) (by omega) (by omega)).mp e; omega), K.1]
    by_cases d : tK X p = 2
    case neg =>
      rw [if_neg (show ¬ nI (tK X p) = (2 : Int32) from ne_nI (b := 2) (by omega) (by omega) d)]
      refine okmr ?_
      by_cases c1 : S'.2.1 = 1
      · exact fin S' z1 z3 C0 (g2 c1).symm (fun c => by omega) F
      · have ep := e c1
        subst ep
        have g := g1 c1
        rw [sitT_n (fun e => d e.2)] at g
        exact fin S' z1 z3 C0 (by rw [← g]) (fun _ => by rw [← g]) F
    rw [if_pos (show nI (tK X p) = (2 : Int32) by rw [d]; rfl)]
    refine okb (q_number hX C0 (a := 0) (c := 7) (by omega) (by omega) z1) ?_
    rintro ⟨r4, h5⟩ ⟨e1, C1, F1⟩
    dsimp only at e1 C1 F1 ⊢
    rw [bnd_eq, bnd_eq, show nI i + (1 : Int32) = nI (i + 1) from nI_add _ _]
    refine ok_mk ⟨rfl, nuS X 0 7 z1 S', C1, fr_tr F F1, fun c => ?_, fun c => ?_⟩
    · dsimp only
      have c1 : S'.2.1 ≠ 1 := fun e => c (by rw [nuS_1 e]; exact e)
      have ep := e c1
      subst ep
      have g := g1 c1
      obtain ⟨j, hj⟩ : ∃ j, N - i = j + 1 := ⟨N - i - 1, by omega⟩
      rw [hj, sitT_s, if_pos ⟨c1, d⟩] at g
      rw [show N - (i + 1) = j by omega, e1]
      exact g
    · by_cases c1 : S'.2.1 = 1
      · rw [g2 c1, nuS_1 c1]
      · have ep := e c1
        subst ep
        exfalso
        have e3 : nuS X 0 7 z1 S' = nxt X (if vOk 0 7 z1 (tV X S'.1) = true then S' else nte 2 (tS X S'.1) S') := by
          unfold nuS
          rw [if_neg c1, if_pos d]
        rw [e3, nxt_f] at c
        by_cases c5 : vOk 0 7 z1 (tV X S'.1) = true
        · rw [if_pos c5] at c
          exact c1 c
        · rw [if_neg c5, nte_1 (by omega)] at c
          exact c1 c
  · rintro ⟨z1, z2, z3⟩ ⟨ez, S', C', F, g1, g2⟩
    dsimp only at ez C' F g1 g2
    subst ez
    unfold R_readDeed_b66
    dsimp only
    rw [if_pos (show (600 : Int32) ≤ nI N from (nI_leI (a := 600) (by omega) (by omega)).mpr (by omega))]
    refine okmr ?_
    by_cases c1 : S'.2.1 = 1
    · exact fin S' z1 z3 C' (g2 c1).symm (fun c => by omega) F
    · have g := g1 c1
      rw [Nat.sub_self] at g
      have g' : (S', z1) = sitT X N S w := g
      exact fin S' z1 z3 C' (by rw [← g']) (fun _ => by rw [← g']) F
theorem sitT_0 {X : Tx} : ∀ k S w, (sitT X k S w).1.2.1 = 0 → S.2.1 = 0
  | 0, S, w, h => h
  | k + 1, S, w, h => by
    rw [sitT_s] at h
    by_cases c : S.2.1 ≠ 1 ∧ tK X S.1 = 2
    · rw [if_pos c] at h
      exact (nuS_0 (sitT_0 k _ _ h)).1
    · rw [if_neg c] at h
      exact h
theorem lnD_0 {s : Nat} {X : Tx} {k : Nat} {S : PS} (h : (lnD s X k S).1.2.1 = 0) : S.2.1 = 0 := by
  unfold lnD at h
  by_cases c1 : s = 1
  · rw [if_pos c1] at h
    by_cases d0 : k = 0
    · rw [if_pos d0] at h
      exact (nuS_0 (nuS_0 (sitT_0 _ _ _ h)).1).1
    rw [if_neg d0] at h
    by_cases d1 : k = 1
    · rw [if_pos d1] at h
      exact (nuS_0 (nuS_0 h).1).1
    rw [if_neg d1] at h
    by_cases d2 : k = 2
    · rw [if_pos d2] at h
      exact h
    rw [if_neg d2] at h
    by_cases d3 : k = 3
    · rw [if_pos d3] at h
      exact (nuS_0 h).1
    rw [if_neg d3] at h
    exact (nuS_0 (nuS_0 h).1).1
  rw [if_neg c1] at h
  by_cases c2 : s = 2
  · rw [if_pos c2] at h
    by_cases d0 : k < 2
    · rw [if_pos d0] at h
      exact (nuS_0 (nuS_0 h).1).1
    · rw [if_neg d0] at h
      exact (nuS_0 (nuS_0 h).1).1
  rw [if_neg c2] at h
  by_cases d0 : k = 0
  · rw [if_pos d0] at h
    exact (nuS_0 h).1
  · rw [if_neg d0] at h
    exact h
theorem q_rdeed {X : Tx} {h : Hp} {S : PS} {D : DN} (hX : okX X) (C : CP X h S) (H : DL h S D) (hD : S.2.1 = 0 → D.1 < 40) {k : Nat} (hk : k < 6) : Okk (R_readDeed h (nI k)) (fun h' => CP X h' (lnD 1 X k S).1 ∧ DL h' (lnD 1 X k S).1 (ap1 D (lnD 1 X k S).2) ∧ Fr pR0 h h') := by
  have h0 := lnD_0 (s := 1) (X := X) (k := k) (S := S)
  have nk : ∀ c, c < 10 → k ≠ c → ¬ nI k = nI c := fun c hc hne => ne_nI (by omega) (by omega) hne
  unfold R_readDeed R_readDeed_j136 R_readDeed_j157
  unfold lnD at h0 ⊢
  rw [if_pos rfl] at h0 ⊢
  by_cases d0 : k = 0
  · subst d0
    rw [if_pos rfl] at h0
    rw [if_pos (show nI 0 = (0 : Int32) from rfl), if_pos rfl]
    refine okb (q_number hX C (a := 0) (c := 4) (by omega) (by omega) 0) ?_
    rintro ⟨r13, h14⟩ ⟨e1, C1, F1⟩
    dsimp only at e1 C1 F1 ⊢
    refine okb (q_number hX C1 (a := 0) (c := 7) (by omega) (by omega) 0) ?_
    rintro ⟨r15, h16⟩ ⟨e2, C2, F2⟩
    dsimp only at e2 C2 F2 ⊢
    subst e1 e2
    rw [bnd_eq]
    refine okw (q_sit rfl (y1 := nuV X 0 4 S) hX C2 (dl_fr H (fun c => (nuS_0 (nuS_0 c).1).1) (fr_tr F1 F2)) (fun c => hD (h0 c)) (fun c => sitT_0 _ _ _ c)) ?_
    rintro h2 ⟨a1, a2, a3⟩
    exact ⟨a1, a2, fr_tr (rd_0 (fr_tr F1 F2)) a3⟩
  rw [if_neg d0] at h0
  rw [if_neg (show ¬ nI k = (0 : Int32) from nk 0 (by omega) d0), if_neg d0]
  by_cases d1 : k = 1
  · subst d1
    rw [if_pos rfl] at h0
    rw [if_pos (show nI 1 = (1 : Int32) from rfl), if_pos rfl]
    refine okb (q_number hX C (a := 0) (c := 7) (by omega) (by omega) 0) ?_
    rintro ⟨r13, h14⟩ ⟨e1, C1, F1⟩
    dsimp only at e1 C1 F1 ⊢
    refine okb (q_number hX C1 (a := 0) (c := 9) (by omega) (by omega) 0) ?_
    rintro ⟨r15, h16⟩ ⟨e2, C2, F2⟩
    dsimp only at e2 C2 F2 ⊢
    subst e1 e2
    refine okb (q_add53 (d := (nI 1, nI (nuV X 0 7 S), nI (nuV X 0 9 (nuS X 0 7 0 S)))) C2 (dl_fr H h0 (fr_tr F1 F2)) (fun c => hD (h0 c))) ?_
    rintro h2 ⟨a1, a2, a3⟩
    exact ok_mk ⟨a1, a2, fr_tr (rd_0 (fr_tr F1 F2)) a3⟩
  rw [if_neg d1] at h0
  rw [if_neg (show ¬ nI k = (1 : Int32) from nk 1 (by omega) d1), if_neg d1]
  by_cases d2 : k = 2
  · subst d2
    rw [if_pos (show nI 2 = (2 : Int32) from rfl), if_pos rfl]
    refine okb (q_add53 (d := (nI 2, jN 1, jN 1)) C H hD) ?_
    rintro h2 ⟨a1, a2, a3⟩
    exact ok_mk ⟨a1, a2, a3⟩
  rw [if_neg d2] at h0
  rw [if_neg (show ¬ nI k = (2 : Int32) from nk 2 (by omega) d2), if_neg d2]
  by_cases d3 : k = 3
  · subst d3
    rw [if_pos rfl] at h0
    rw [if_pos (show nI 3 = (3 : Int32) from rfl), if_pos rfl]
    refine okb (q_number hX C (a := 0) (c := 4) (by omega) (by omega) 0) ?_
    rintro ⟨r13, h14⟩ ⟨e1, C1, F1⟩
    dsimp only at e1 C1 F1 ⊢
    subst e1
    refine okb (q_add53 (d := (nI 3, nI (nuV X 0 4 S), jN 1)) C1 (dl_fr H h0 F1) (fun c => hD (h0 c))) ?_
    rintro h2 ⟨a1, a2, a3⟩
    exact ok_mk ⟨a1, a2, fr_tr (rd_0 F1) a3⟩
  rw [if_neg d3] at h0
  rw [if_neg (show ¬ nI k = (3 : Int32) from nk 3 (by omega) d3), if_neg d3]
  have two : Okk ((R_number h (0 : Int32) (4 : Int32) (0 : Int32)).bind fun (r8, h9) => (R_number h9 (0 : Int32) (4 : Int32) (sh (1 : Int32) r8)).bind fun (r10, h11) => ((L_add h11 53 (nI k) r8 r10).bind fun h1 => some h1)) (fun h' => CP X h' (nuS X 0 4 (sh (nI 1) (nI (nuV X 0 4 S))) (nuS X 0 4 0 S)) ∧ DL h' (nuS X 0 4 (sh (nI 1) (nI (nuV X 0 4 S))) (nuS X 0 4 0 S)) (ap1 D (nI k, nI (nuV X 0 4 S), nI (nuV X 0 4 (nuS X 0 4 0 S)))) ∧ Fr pR0 h h') := by
    refine okb (q_number hX C (a := 0) (c := 4) (by omega) (by omega) 0) ?_
    rintro ⟨r13, h14⟩ ⟨e1, C1, F1⟩
    dsimp only at e1 C1 F1 ⊢
    subst e1
    refine okb (q_number hX C1 (a := 0) (c := 4) (by omega) (by omega) (sh (1 : Int32) (nI (nuV X 0 4 S)))) ?_
    rintro ⟨r15, h16⟩ ⟨e2, C2, F2⟩
    dsimp only at e2 C2 F2 ⊢
    subst e2
    refine okb (q_add53 (d := (nI k, nI (nuV X 0 4 S), nI (nuV X 0 4 (nuS X 0 4 0 S)))) C2 (dl_fr H h0 (fr_tr F1 F2)) (fun c => hD (h0 c))) ?_
    rintro h2 ⟨a1, a2, a3⟩
    exact ok_mk ⟨a1, a2, fr_tr (rd_0 (fr_tr F1 F2)) a3⟩
  by_cases d4 : k = 4
  · rw [if_pos (show nI k = (4 : Int32) by rw [d4]; rfl)]
    exact two
  · rw [if_neg (show ¬ nI k = (4 : Int32) from nk 4 (by omega) d4), if_pos (show nI k = (5 : Int32) by rw [show k = 5 by omega]; rfl)]
    exact two
theorem q_rwish {X : Tx} {h : Hp} {S : PS} {D : DN} (hX : okX X) (C : CP X h S) (H : DL h S D) (hD : S.2.1 = 0 → D.1 < 40) {k : Nat} (hk : k < 4) : Okk (R_readWish h (nI k)) (fun h' => CP X h' (lnD 2 X k S).1 ∧ DL h' (lnD 2 X k S).1 (ap1 D (lnD 2 X k S).2) ∧ Fr pR0 h h') := by
  have h0 := lnD_0 (s := 2) (X := X) (k := k) (S := S)
  unfold R_readWish R_readWish_j18 R_readWish_j39
  unfold lnD at h0 ⊢
  rw [if_neg (show ¬ 2 = 1 by omega), if_pos rfl] at h0 ⊢
  refine okb (q_number hX C (a := 0) (c := 7) (by omega) (by omega) 0) ?_
  rintro ⟨r4, h5⟩ ⟨e1, C1, F1⟩
  dsimp only at e1 C1 F1 ⊢
  subst e1
  by_cases d : k < 2
  · rw [if_pos d] at h0
    rw [if_pos d]
    have fin : Okk ((R_number h5 (0 : Int32) (9 : Int32) (0 : Int32)).bind fun (r2, h3) => ((L_add h3 53 (nI k) (nI (nuV X 0 7 S)) r2).bind fun h1 => some h1)) (fun h' => CP X h' (nuS X 0 9 0 (nuS X 0 7 0 S)) ∧ DL h' (nuS X 0 9 0 (nuS X 0 7 0 S)) (ap1 D (nI k, nI (nuV X 0 7 S), nI (nuV X 0 9 (nuS X 0 7 0 S)))) ∧ Fr pR0 h h') := by
      refine okb (q_number hX C1 (a := 0) (c := 9) (by omega) (by omega) 0) ?_
      rintro ⟨r15, h16⟩ ⟨e2, C2, F2⟩
      dsimp only at e2 C2 F2 ⊢
      subst e2
      refine okb (q_add53 (d := (nI k, nI (nuV X 0 7 S), nI (nuV X 0 9 (nuS X 0 7 0 S)))) C2 (dl_fr H h0 (fr_tr F1 F2)) (fun c => hD (h0 c))) ?_
      rintro h2 ⟨a1, a2, a3⟩
      exact ok_mk ⟨a1, a2, fr_tr (rd_0 (fr_tr F1 F2)) a3⟩
    by_cases d0 : k = 0
    · rw [if_pos (show nI k = (0 : Int32) by rw [d0]; rfl)]
      exact fin
    · rw [if_neg (show ¬ nI k = (0 : Int32) from ne_nI (b := 0) (by omega) (by omega) d0), if_pos (show nI k = (1 : Int32) by rw [show k = 1 by omega]; rfl)]
      exact fin
  · rw [if_neg d] at h0
    rw [if_neg d, if_neg (show ¬ nI k = (0 : Int32) from ne_nI (b := 0) (by omega) (by omega) (by omega)), if_neg (show ¬ nI k = (1 : Int32) from ne_nI (b := 1) (by omega) (by omega) (by omega))]
    refine okb (q_number hX C1 (a := 0) (c := 7) (by omega) (by omega) (sh (1 : Int32) (nI (nuV X 0 7 S)))) ?_
    rintro ⟨r15, h16⟩ ⟨e2, C2, F2⟩
    dsimp only at e2 C2 F2 ⊢
    subst e2
    refine okb (q_add53 (d := (nI k, nI (nuV X 0 7 S), nI (nuV X 0 7 (nuS X 0 7 0 S)))) C2 (dl_fr H h0 (fr_tr F1 F2)) (fun c => hD (h0 c))) ?_
    rintro h2 ⟨a1, a2, a3⟩
    exact ok_mk ⟨a1, a2, fr_tr (rd_0 (fr_tr F1 F2)) a3⟩
