/-! ===== L3: texts: what is read can be ===== -/
theorem nxt_m {X : Tx} {S : PS} (hS : S.1 ≤ X.2) (h : S.2.1 ≠ 1) : S.1 ≤ (nxt X S).1 ∧ (nxt X S).1 ≤ X.2 := by
  have hE := tE_b X hS
  have hs := tS_b X hS
  unfold nxt
  rw [if_neg h]
  exact ⟨show S.1 ≤ tE X S.1 by omega, hE.2.1⟩
theorem nuS_m {X : Tx} {a c : Nat} {bar : Int32} {S : PS} (hS : S.1 ≤ X.2) (h : (nuS X a c bar S).2.1 ≠ 1) : S.2.1 ≠ 1 ∧ S.1 ≤ (nuS X a c bar S).1 ∧ (nuS X a c bar S).1 ≤ X.2 := by
  have hE := tE_b X hS
  have hs := tS_b X hS
  unfold nuS at h ⊢
  by_cases c1 : S.2.1 = 1
  · rw [if_pos c1] at h
    exact absurd c1 h
  rw [if_neg c1] at h ⊢
  by_cases c2 : tK X S.1 = 2
  case neg =>
    rw [if_neg c2, frm_1] at h
    exact absurd rfl h
  rw [if_pos c2] at h ⊢
  by_cases c3 : vOk a c bar (tV X S.1) = true
  · rw [if_pos c3]
    exact ⟨c1, nxt_m hS c1⟩
  · rw [if_neg c3]
    have e1 : (nte 2 (tS X S.1) S).1 = S.1 := by
      unfold nte
      by_cases d : S.2.1 = 0
      · rw [if_pos d]
      · rw [if_neg d]
    have := nxt_m (X := X) (S := nte 2 (tS X S.1) S) (by rw [e1]; exact hS) (fun e => c1 ((nte_1 (by omega)).mp e))
    rw [e1] at this
    exact ⟨c1, this⟩
theorem sitT_m {X : Tx} : ∀ k (S : PS) w, S.1 ≤ X.2 → (sitT X k S w).1.2.1 ≠ 1 → S.2.1 ≠ 1 ∧ S.1 ≤ (sitT X k S w).1.1 ∧ (sitT X k S w).1.1 ≤ X.2
  | 0, S, w, hS, h => ⟨h, Nat.le_refl _, hS⟩
  | k + 1, S, w, hS, h => by
    rw [sitT_s] at h ⊢
    by_cases c : S.2.1 ≠ 1 ∧ tK X S.1 = 2
    · rw [if_pos c] at h ⊢
      by_cases d : (nuS X 0 7 w S).2.1 = 1
      · rw [sitT_n (fun e => e.1 d)] at h
        exact absurd d h
      obtain ⟨a1, a2, a3⟩ := nuS_m hS d
      obtain ⟨b1, b2, b3⟩ := sitT_m k _ _ a3 h
      exact ⟨a1, by omega, b3⟩
    · rw [if_neg c] at h ⊢
      exact ⟨h, Nat.le_refl _, hS⟩
theorem nuS_mm {X : Tx} {a c a' c' : Nat} {bar bar' : Int32} {S : PS} (hS : S.1 ≤ X.2) (h : (nuS X a' c' bar' (nuS X a c bar S)).2.1 ≠ 1) : S.2.1 ≠ 1 ∧ S.1 ≤ (nuS X a' c' bar' (nuS X a c bar S)).1 ∧ (nuS X a' c' bar' (nuS X a c bar S)).1 ≤ X.2 := by
  by_cases d : (nuS X a c bar S).2.1 = 1
  · rw [nuS_1 d] at h
    exact absurd d h
  obtain ⟨a1, a2, a3⟩ := nuS_m hS d
  obtain ⟨b1, b2, b3⟩ := nuS_m a3 h
  exact ⟨a1, by omega, b3⟩
theorem lnD_m {s : Nat} {X : Tx} {k : Nat} {S : PS} (hS : S.1 ≤ X.2) (h : (lnD s X k S).1.2.1 ≠ 1) : S.2.1 ≠ 1 ∧ S.1 ≤ (lnD s X k S).1.1 ∧ (lnD s X k S).1.1 ≤ X.2 := by
  unfold lnD at h ⊢
  by_cases c1 : s = 1
  · rw [if_pos c1] at h ⊢
    by_cases d0 : k = 0
    · rw [if_pos d0] at h ⊢
      by_cases d : (nuS X 0 7 0 (nuS X 0 4 0 S)).2.1 = 1
      · have h2 : (sitT X 600 (nuS X 0 7 0 (nuS X 0 4 0 S)) (sh (nI 1) (nI (nuV X 0 7 (nuS X 0 4 0 S))))).1.2.1 ≠ 1 := h
        rw [sitT_n (fun e => e.1 d)] at h2
        exact absurd d h2
      obtain ⟨a1, a2, a3⟩ := nuS_mm hS d
      obtain ⟨b1, b2, b3⟩ := sitT_m 600 _ _ a3 h
      exact ⟨a1, Nat.le_trans a2 b2, b3⟩
    rw [if_neg d0] at h ⊢
    by_cases d1 : k = 1
    · rw [if_pos d1] at h ⊢
      exact nuS_mm hS h
    rw [if_neg d1] at h ⊢
    by_cases d2 : k = 2
    · rw [if_pos d2] at h ⊢
      exact ⟨h, Nat.le_refl _, hS⟩
    rw [if_neg d2] at h ⊢
    by_cases d3 : k = 3
    · rw [if_pos d3] at h ⊢
      exact nuS_m hS h
    rw [if_neg d3] at h ⊢
    exact nuS_mm hS h
  rw [if_neg c1] at h ⊢
  by_cases c2 : s = 2
  · rw [if_pos c2] at h ⊢
    by_cases d0 : k < 2
    · rw [if_pos d0] at h ⊢
      exact nuS_mm hS h
    · rw [if_neg d0] at h ⊢
      exact nuS_mm hS h
  rw [if_neg c2] at h ⊢
  by_cases d0 : k = 0
  · rw [if_pos d0] at h ⊢
    exact nuS_m hS h
  · rw [if_neg d0] at h ⊢
    exact ⟨h, Nat.le_refl _, hS⟩
theorem lnI_m {X : Tx} {k : Nat} {S : PS} {D : Inn × Int32} (hS : S.1 ≤ X.2) (h : (lnI X k S D).1.2.1 ≠ 1) : S.2.1 ≠ 1 ∧ S.1 ≤ (lnI X k S D).1.1 ∧ (lnI X k S D).1.1 ≤ X.2 := by
  unfold lnI at h ⊢
  by_cases d0 : k = 0
  · rw [if_pos d0] at h ⊢
    by_cases d : (nuS X 1 6 0 (nuS X 1 8 0 S)).2.1 = 1
    · have h2 : (nuS X 0 9 0 (nuS X 1 6 0 (nuS X 1 8 0 S))).2.1 ≠ 1 := h
      rw [nuS_1 d] at h2
      exact absurd d h2
    obtain ⟨a1, a2, a3⟩ := nuS_mm hS d
    obtain ⟨b1, b2, b3⟩ := nuS_m (a := 0) (c := 9) (bar := 0) a3 h
    exact ⟨a1, Nat.le_trans a2 b2, b3⟩
  rw [if_neg d0] at h ⊢
  by_cases d1 : k = 1
  · rw [if_pos d1] at h ⊢
    exact nuS_m hS h
  · rw [if_neg d1] at h ⊢
    exact nuS_mm hS h
theorem fns_m {X : Tx} {S : PS} (hS : S.1 ≤ X.2) (h : (fnS X S).2.1 ≠ 1) : S.2.1 ≠ 1 ∧ tK X S.1 = 3 ∧ fnS X S = nxt X S ∧ S.1 < (fnS X S).1 ∧ (fnS X S).1 ≤ X.2 := by
  have hE := tE_b X hS
  have hs := tS_b X hS
  unfold fnS at h ⊢
  by_cases c1 : S.2.1 = 1
  · rw [if_pos c1] at h
    exact absurd c1 h
  rw [if_neg c1] at h ⊢
  by_cases c2 : tK X S.1 = 3
  · rw [if_pos c2]
    have e : (nxt X S).1 = tE X S.1 := by
      unfold nxt
      rw [if_neg c1]
    have := hE.2.2.1 (by omega)
    exact ⟨c1, c2, rfl, by omega, by omega⟩
  · rw [if_neg c2, frm_1] at h
    exact absurd rfl h
theorem stD_m {s : Nat} {X : Tx} {S : PS} {D : DN} (hS : S.2.1 ≠ 1) (h1 : S.1 ≤ X.2) : (stp X (gD s X) S D).1.2.1 = 1 ∨ (S.1 < (stp X (gD s X) S D).1.1 ∧ (stp X (gD s X) S D).1.1 ≤ X.2) := by
  by_cases c : (stp X (gD s X) S D).1.2.1 = 1
  · exact Or.inl c
  right
  unfold stp gD at c ⊢
  by_cases c9 : kwd s X S.1 = 9
  · rw [if_pos c9] at c
    dsimp only at c
    rw [fns_1 (frm_1 X S)] at c
    exact absurd (frm_1 X S) c
  rw [if_neg c9] at c ⊢
  dsimp only at c ⊢
  obtain ⟨e1, e2⟩ := mny_f (X := X) (b := flD s D) hS
  have n1 := nxt_m (X := X) (S := mny X (flD s D) S) (by rw [e2]; exact h1) e1
  rw [e2] at n1
  generalize nxt X (mny X (flD s D) S) = S2 at *
  generalize kwd s X S.1 = k at *
  have hb : (lnD s X k S2).1.1 ≤ X.2 := by
    by_cases d : (lnD s X k S2).1.2.1 = 1
    · rw [fns_1 d] at c
      exact absurd d c
    · exact (lnD_m n1.2 d).2.2
  obtain ⟨f1, -, -, f2, f3⟩ := fns_m hb c
  have := lnD_m n1.2 f1
  omega
theorem stI_m {X : Tx} {S : PS} {D : Inn × Int32} (hS : S.2.1 ≠ 1) (h1 : S.1 ≤ X.2) : (stp X (gI X) S D).1.2.1 = 1 ∨ (S.1 < (stp X (gI X) S D).1.1 ∧ (stp X (gI X) S D).1.1 ≤ X.2) := by
  by_cases c : (stp X (gI X) S D).1.2.1 = 1
  · exact Or.inl c
  right
  unfold stp gI at c ⊢
  by_cases c9 : kwd 0 X S.1 = 9
  · rw [if_pos c9] at c
    dsimp only at c
    rw [fns_1 (frm_1 X S)] at c
    exact absurd (frm_1 X S) c
  rw [if_neg c9] at c ⊢
  dsimp only at c ⊢
  generalize kwd 0 X S.1 = k at *
  obtain ⟨e1, e2⟩ := mny_f (X := X) (b := flI k D) hS
  have n1 := nxt_m (X := X) (S := mny X (flI k D) S) (by rw [e2]; exact h1) e1
  rw [e2] at n1
  generalize nxt X (mny X (flI k D) S) = S2 at *
  have hb : (lnI X k S2 D).1.1 ≤ X.2 := by
    by_cases d : (lnI X k S2 D).1.2.1 = 1
    · rw [fns_1 d] at c
      exact absurd d c
    · exact (lnI_m n1.2 d).2.2
  obtain ⟨f1, -, -, f2, f3⟩ := fns_m hb c
  have := lnI_m n1.2 f1
  omega
/-! what is told without a fault can be -/
def wfL (s : Nat) (d : Pst) : Prop := if s = 1 then wD d else if s = 2 then wW d else wG d
def WD (s : Nat) (S : PS) (D : DN) : Prop := S.2.1 = 0 → D.1 ≤ lmT s ∧ ∀ i, i < D.1 → wfL s (D.2 i)
theorem bar_sh {a v : Nat} (ha : a < 32) (hv : v < 32) (h : bt (sh (nI 1) (nI a)) v = false) : a ≠ v := fun e => by
  rw [b_sh ha v hv, decide_eq_true e.symm] at h
  exact absurd h (by decide)
theorem nu_ok {X : Tx} {a c : Nat} {bar : Int32} {S : PS} (h : (nuS X a c bar S).2.1 = 0) : a ≤ nuV X a c S ∧ nuV X a c S ≤ c ∧ bt bar (nuV X a c S) = false := by
  obtain ⟨-, -, h3, -, h5⟩ := nuS_0 h
  rw [h5]
  exact vOk_n h3
theorem sitT_w {X : Tx} : ∀ k S w, lo 8 w → w ≠ nI 0 → lo 8 (sitT X k S w).2 ∧ (sitT X k S w).2 ≠ nI 0
  | 0, S, w, h1, h2 => ⟨h1, h2⟩
  | k + 1, S, w, h1, h2 => by
    rw [sitT_s]
    by_cases c : S.2.1 ≠ 1 ∧ tK X S.1 = 2
    · rw [if_pos c]
      have hv := (nuV_b X (show 0 ≤ 7 by omega) S).2
      refine sitT_w k _ _ (lo_or h1 (lo_sh (by omega) (by omega))) (fun e => ?_)
      have e2 := congrArg (fun x => bt x (nuV X 0 7 S)) e
      rw [b_or, b_sh (by omega) _ (by omega), decide_eq_true rfl, Bool.or_true, show bt (nI 0) (nuV X 0 7 S) = false from b_0 _] at e2
      exact absurd e2 (by decide)
    · rw [if_neg c]
      exact ⟨h1, h2⟩
theorem lnD_w {s : Nat} {X : Tx} {k : Nat} {S : PS} (s1 : 1 ≤ s) (s2 : s < 4) (hk : k < kN s) (h : (lnD s X k S).1.2.1 = 0) : wfL s (lnD s X k S).2 := by
  have v4 := (nuV_b X (show 0 ≤ 4 by omega) S).2
  have v7 := (nuV_b X (show 0 ≤ 7 by omega) S).2
  unfold lnD at h ⊢
  unfold wfL
  rcases (by omega : s = 1 ∨ s = 2 ∨ s = 3) with rfl | rfl | rfl
  · have hk6 : k < 6 := hk
    rw [if_pos rfl] at h ⊢
    rw [if_pos rfl]
    unfold wD
    by_cases d0 : k = 0
    · rw [if_pos d0] at h ⊢
      dsimp only at h ⊢
      have w7 := (nuV_b X (show 0 ≤ 7 by omega) (nuS X 0 4 0 S)).2
      have hw := sitT_w (X := X) 600 (nuS X 0 7 0 (nuS X 0 4 0 S)) (sh (nI 1) (nI (nuV X 0 7 (nuS X 0 4 0 S)))) (lo_sh (by omega) (by omega)) (fun e => by
        have e2 := congrArg (fun x => bt x (nuV X 0 7 (nuS X 0 4 0 S))) e
        rw [b_sh (by omega) _ (by omega), decide_eq_true rfl, show bt (nI 0) (nuV X 0 7 (nuS X 0 4 0 S)) = false from b_0 _] at e2
        exact absurd e2 (by decide))
      exact Or.inl ⟨rfl, nuV X 0 4 S, by omega, rfl, hw.1, hw.2⟩
    rw [if_neg d0] at h ⊢
    by_cases d1 : k = 1
    · rw [if_pos d1] at h ⊢
      have w9 := (nuV_b X (show 0 ≤ 9 by omega) (nuS X 0 7 0 S)).2
      exact Or.inr (Or.inl ⟨rfl, nuV X 0 7 S, nuV X 0 9 (nuS X 0 7 0 S), by omega, by omega, rfl, rfl⟩)
    rw [if_neg d1] at h ⊢
    by_cases d2 : k = 2
    · rw [if_pos d2]
      exact Or.inr (Or.inr (Or.inl rfl))
    rw [if_neg d2] at h ⊢
    by_cases d3 : k = 3
    · rw [if_pos d3]
      exact Or.inr (Or.inr (Or.inr (Or.inl ⟨rfl, nuV X 0 4 S, by omega, rfl⟩)))
    rw [if_neg d3] at h ⊢
    dsimp only at h ⊢
    obtain ⟨-, g2, g3⟩ := nu_ok h
    have hne := bar_sh (by omega) (by omega) g3
    rcases (by omega : k = 4 ∨ k = 5) with rfl | rfl
    · exact Or.inr (Or.inr (Or.inr (Or.inr (Or.inl ⟨rfl, _, _, by omega, by omega, hne, rfl, rfl⟩))))
    · exact Or.inr (Or.inr (Or.inr (Or.inr (Or.inr ⟨rfl, _, _, by omega, by omega, hne, rfl, rfl⟩))))
  · have hk4 : k < 4 := hk
    rw [if_neg (by omega), if_pos rfl] at h ⊢
    rw [if_neg (by omega), if_pos rfl]
    unfold wW
    by_cases d0 : k < 2
    · rw [if_pos d0] at h ⊢
      have w9 := (nuV_b X (show 0 ≤ 9 by omega) (nuS X 0 7 0 S)).2
      exact ⟨k, nuV X 0 7 S, nuV X 0 9 (nuS X 0 7 0 S), hk4, by omega, rfl, rfl, rfl, by rw [if_pos d0]; omega⟩
    · rw [if_neg d0] at h ⊢
      dsimp only at h ⊢
      obtain ⟨-, g2, g3⟩ := nu_ok h
      have hne := bar_sh (by omega) (by omega) g3
      exact ⟨k, nuV X 0 7 S, nuV X 0 7 (nuS X 0 7 0 S), hk4, by omega, rfl, rfl, rfl, by rw [if_neg d0]; exact ⟨by omega, hne⟩⟩
  · rw [if_neg (by omega), if_neg (by omega)] at h ⊢
    rw [if_neg (by omega), if_neg (by omega)]
    unfold wG
    by_cases d0 : k = 0
    · rw [if_pos d0]
      exact Or.inl ⟨nuV X 0 7 S, by omega, rfl⟩
    · rw [if_neg d0]
      exact Or.inr rfl
theorem stD_w {s : Nat} {X : Tx} {S : PS} {D : DN} (s1 : 1 ≤ s) (s2 : s < 4) (W : WD s S D) : WD s (stp X (gD s X) S D).1 (stp X (gD s X) S D).2 := by
  have hw := kwd_s (s := s) s2 X S.1
  intro c
  unfold stp gD at c ⊢
  by_cases c9 : kwd s X S.1 = 9
  · rw [if_pos c9] at c
    dsimp only at c
    rw [fns_1 (frm_1 X S), frm_1] at c
    exact absurd c (by decide)
  have hk : kwd s X S.1 < kN s := by
    rcases hw with hw | hw
    · exact absurd hw.1 c9
    · exact hw.1
  rw [if_neg c9] at c ⊢
  dsimp only at c ⊢
  generalize kwd s X S.1 = k at *
  have c1 := (fnS_0 c).1
  have w1 := lnD_w s1 s2 hk c1
  have c2 := lnD_0 c1
  rw [nxt_f] at c2
  obtain ⟨a1, a2⟩ := mny_0 c2
  unfold flD at a2
  rw [decide_eq_false_iff_not] at a2
  obtain ⟨g1, g2⟩ := W a1
  unfold flD at w1 ⊢
  refine ⟨show D.1 + 1 ≤ lmT s by omega, fun i hi => ?_⟩
  have hi' : i < D.1 + 1 := hi
  show wfL s (up D.2 D.1 _ i)
  by_cases e : i = D.1
  · subst e
    rw [up_at]
    exact w1
  · rw [up_ne _ _ e]
    exact g2 i (by omega)
/-- an inn that is being told, and who was told of -/
def wJ (D : Inn × Int32) : Prop := nT D.1 ≤ 5 ∧ 1 ≤ nG D.1 ∧ nG D.1 ≤ 8 ∧ (∀ t, t < nT D.1 → 1 ≤ nS D.1 t ∧ nS D.1 t ≤ 8 ∧ 1 ≤ nK D.1 t ∧ nK D.1 t ≤ 6 ∧ ∃ p, p ≤ 9 ∧ nP D.1 t = nI p) ∧ lo 8 D.2 ∧ (∀ g, g < 8 → (∀ i, bt (nQ D.1 g) i = true → bt D.2 i = true) ∧ (∀ i, bt (nL D.1 g) i = true → bt D.2 i = true) ∧ bt (nQ D.1 g) g = false ∧ bt (nL D.1 g) g = false ∧ ∀ k, k < 8 → bt (nQ D.1 g) k = bt (nQ D.1 k) g ∧ bt (nL D.1 g) k = bt (nL D.1 k) g)
theorem wJ_I {D : Inn × Int32} (W : wJ D) (h : lo (nG D.1) D.2) : wI D.1 := by
  obtain ⟨a1, a2, a3, a4, a5, a6⟩ := W
  refine ⟨a1, a2, a3, a4, fun g hg => ?_⟩
  obtain ⟨b1, b2, b3, b4, b5⟩ := a6 g hg
  refine ⟨fun i hi => ?_, fun i hi => ?_, b3, b4, b5⟩
  · cases e : bt (nQ D.1 g) i
    · rfl
    · exact (b1 i e).symm.trans (h i hi)
  · cases e : bt (nL D.1 g) i
    · rfl
    · exact (b2 i e).symm.trans (h i hi)
theorem cpl_b {f : Nat → Int32} {a b : Nat} (ha : a < 8) (hb : b < 8) (hne : a ≠ b) (g k : Nat) (hk : k < 32) : bt (cpl f a b g) k = (bt (f g) k || ((decide (g = a) && decide (k = b)) || (decide (g = b) && decide (k = a)))) := by
  unfold cpl
  by_cases e1 : g = b
  · subst e1
    rw [up_at, up_ne _ _ (fun e => hne e.symm), b_or, b_sh (by omega) k hk, decide_eq_false (show ¬ g = a from fun e => hne e.symm), decide_eq_true rfl, Bool.false_and, Bool.false_or, Bool.true_and]
  · rw [up_ne _ _ e1]
    by_cases e2 : g = a
    · subst e2
      rw [up_at, b_or, b_sh (by omega) k hk, decide_eq_true rfl, decide_eq_false e1, Bool.true_and, Bool.false_and, Bool.or_false]
    · rw [up_ne _ _ e2, decide_eq_false e2, decide_eq_false e1, Bool.false_and, Bool.false_and, Bool.or_false, Bool.or_false]
theorem cpl_w {f : Nat → Int32} {m : Int32} {a b : Nat} (ha : a < 8) (hb : b < 8) (hne : a ≠ b) (hf : ∀ g, g < 8 → (∀ i, bt (f g) i = true → bt m i = true) ∧ bt (f g) g = false ∧ ∀ k, k < 8 → bt (f g) k = bt (f k) g) : ∀ g, g < 8 → (∀ i, bt (cpl f a b g) i = true → bt (m ||| (sh (nI 1) (nI a) ||| sh (nI 1) (nI b))) i = true) ∧ bt (cpl f a b g) g = false ∧ ∀ k, k < 8 → bt (cpl f a b g) k = bt (cpl f a b k) g := by
  intro g hg
  obtain ⟨f1, f2, f3⟩ := hf g hg
  refine ⟨fun i hi => ?_, ?_, fun k hk => ?_⟩
  · by_cases c : i < 32
    · rw [cpl_b ha hb hne g i c] at hi
      rw [b_or, b_or, b_sh (by omega) i c, b_sh (by omega) i c]
      cases e : bt (f g) i
      · rw [e, Bool.false_or, Bool.or_eq_true, Bool.and_eq_true, Bool.and_eq_true, decide_eq_true_eq, decide_eq_true_eq, decide_eq_true_eq, decide_eq_true_eq] at hi
        rcases hi with hi | hi
        · rw [decide_eq_true hi.2, Bool.or_true, Bool.or_true]
        · rw [decide_eq_true hi.2, Bool.true_or, Bool.or_true]
      · rw [f1 i e, Bool.true_or]
    · rw [b_big (by omega)] at hi
      exact absurd hi (by decide)
  · rw [cpl_b ha hb hne g g (by omega), f2, Bool.false_or, Bool.or_eq_false_iff, Bool.and_eq_false_iff, Bool.and_eq_false_iff, decide_eq_false_iff_not, decide_eq_false_iff_not]
    omega
  · rw [cpl_b ha hb hne g k (by omega), cpl_b ha hb hne k g (by omega), f3 k hk]
    congr 1
    rw [Bool.or_comm, Bool.and_comm (decide (g = b)), Bool.and_comm (decide (g = a))]
def WI (S : PS) (D : Inn × Int32) : Prop := S.2.1 = 0 → wJ D
theorem stI_w {X : Tx} {S : PS} {D : Inn × Int32} (W : WI S D) : WI (stp X (gI X) S D).1 (stp X (gI X) S D).2 := by
  have hw := kwd_s (s := 0) (by omega) X S.1
  intro c
  unfold stp gI at c ⊢
  by_cases c9 : kwd 0 X S.1 = 9
  · rw [if_pos c9] at c
    dsimp only at c
    rw [fns_1 (frm_1 X S), frm_1] at c
    exact absurd c (by decide)
  have hk : kwd 0 X S.1 < 4 := by
    rcases hw with hw | hw
    · exact absurd hw.1 c9
    · exact hw.1
  rw [if_neg c9] at c ⊢
  dsimp only at c ⊢
  generalize kwd 0 X S.1 = k at *
  have c1 := (fnS_0 c).1
  have fin : ∀ S2 : PS, S2 = nxt X (mny X (flI k D) S) → S2.2.1 = 0 → wJ D ∧ (k = 0 → nT D.1 < 5) := by
    rintro S2 rfl c2
    rw [nxt_f] at c2
    obtain ⟨a1, a2⟩ := mny_0 c2
    refine ⟨W a1, fun k0 => ?_⟩
    subst k0
    unfold flI at a2
    rw [decide_eq_true rfl, Bool.true_and, decide_eq_false_iff_not] at a2
    have := (W a1).1
    omega
  generalize hS2 : nxt X (mny X (flI k D) S) = S2 at *
  have fin2 := fin S2 rfl
  unfold lnI at c1 ⊢
  by_cases d0 : k = 0
  · rw [if_pos d0] at c1 ⊢
    dsimp only at c1 ⊢
    have c12 := (nuS_0 c1).1
    have c13 := (nuS_0 c12).1
    obtain ⟨W1, hT⟩ := fin2 (nuS_0 c13).1
    obtain ⟨a1, a2, a3, a4, a5, a6⟩ := W1
    have v1 := nu_ok c13
    have v2 := nu_ok c12
    have v3 := nu_ok c1
    refine ⟨hT d0, a2, a3, fun t ht => ?_, a5, a6⟩
    have ht' : t < nT D.1 + 1 := ht
    show 1 ≤ up (nS D.1) (nT D.1) _ t ∧ up (nS D.1) (nT D.1) _ t ≤ 8 ∧ 1 ≤ up (nK D.1) (nT D.1) _ t ∧ up (nK D.1) (nT D.1) _ t ≤ 6 ∧ ∃ p, p ≤ 9 ∧ up (nP D.1) (nT D.1) _ t = nI p
    by_cases e : t = nT D.1
    · subst e
      rw [up_at, up_at, up_at]
      exact ⟨v1.1, v1.2.1, v2.1, v2.2.1, _, v3.2.1, rfl⟩
    · rw [up_ne _ _ e, up_ne _ _ e, up_ne _ _ e]
      exact a4 t (by omega)
  rw [if_neg d0] at c1 ⊢
  by_cases d1 : k = 1
  · rw [if_pos d1] at c1 ⊢
    dsimp only at c1 ⊢
    obtain ⟨a1, a2, a3, a4, a5, a6⟩ := (fin2 (nuS_0 c1).1).1
    have v1 := nu_ok c1
    exact ⟨a1, v1.1, v1.2.1, a4, a5, a6⟩
  rw [if_neg d1] at c1 ⊢
  dsimp only at c1 ⊢
  have c13 := (nuS_0 c1).1
  obtain ⟨a1, a2, a3, a4, a5, a6⟩ := (fin2 (nuS_0 c13).1).1
  have v1 := nu_ok c13
  have v2 := nu_ok c1
  generalize nuV X 0 7 S2 = a at *
  generalize nuV X 0 7 (nuS X 0 7 0 S2) = b at *
  have hne := bar_sh (by omega) (by omega) v2.2.2
  have lo8 : lo 8 (D.2 ||| (sh (nI 1) (nI a) ||| sh (nI 1) (nI b))) := lo_or a5 (lo_or (lo_sh (by omega) (by omega)) (lo_sh (by omega) (by omega)))
  have mo : ∀ x : Int32, (∀ i, bt x i = true → bt D.2 i = true) → ∀ i, bt x i = true → bt (D.2 ||| (sh (nI 1) (nI a) ||| sh (nI 1) (nI b))) i = true := fun x hx i hi => by rw [b_or, hx i hi, Bool.true_or]
  unfold iCo
  by_cases d3 : k = 3
  · rw [if_pos d3]
    refine ⟨a1, a2, a3, a4, lo8, fun g hg => ?_⟩
    obtain ⟨b1, b2, b3, b4, b5⟩ := a6 g hg
    obtain ⟨e1, e2, e3⟩ := cpl_w (f := nL D.1) (m := D.2) (show a < 8 by omega) (show b < 8 by omega) hne (fun g hg => ⟨(a6 g hg).2.1, (a6 g hg).2.2.2.1, fun k hk => ((a6 g hg).2.2.2.2 k hk).2⟩) g hg
    exact ⟨mo _ b1, e1, b3, e2, fun k hk => ⟨(b5 k hk).1, e3 k hk⟩⟩
  · rw [if_neg d3]
    refine ⟨a1, a2, a3, a4, lo8, fun g hg => ?_⟩
    obtain ⟨b1, b2, b3, b4, b5⟩ := a6 g hg
    obtain ⟨e1, e2, e3⟩ := cpl_w (f := nQ D.1) (m := D.2) (show a < 8 by omega) (show b < 8 by omega) hne (fun g hg => ⟨(a6 g hg).1, (a6 g hg).2.2.1, fun k hk => ((a6 g hg).2.2.2.2 k hk).1⟩) g hg
    exact ⟨e1, mo _ b2, e2, b4, fun k hk => ⟨e3 k hk, (b5 k hk).2⟩⟩
theorem runN_w {α : Type} {X : Tx} {f : PS → α → PS × α} {P : PS → α → Prop} (hf : ∀ S D, P S D → P (f S D).1 (f S D).2) : ∀ n S D, P S D → P (runN X f n S D).1 (runN X f n S D).2
  | 0, S, D, h => h
  | n + 1, S, D, h => by
    show P (if S.2.1 = 1 ∨ tK X S.1 = 0 then (S, D) else runN X f n (f S D).1 (f S D).2).1 (if S.2.1 = 1 ∨ tK X S.1 = 0 then (S, D) else runN X f n (f S D).1 (f S D).2).2
    by_cases c : S.2.1 = 1 ∨ tK X S.1 = 0
    · rw [if_pos c]; exact h
    · rw [if_neg c]
      exact runN_w hf n _ _ (hf S D h)
theorem sr_lo {b : Int32} {g : Nat} (hg : g < 32) (h : sr b (nI g) = nI 0) : lo g b := by
  intro i hi
  by_cases c : i < 32
  · have := congrArg (fun x => bt x (i - g)) h
    rw [b_sr b hg (show i - g < 32 by omega), if_pos (by omega), show g + (i - g) = i by omega, show bt (nI 0) (i - g) = false from b_0 _] at this
    exact this
  · exact b_big (by omega)
