/-! ===== L3: texts: the code's lines, all lines ===== -/
theorem kwd_n {s : Nat} {X : Tx} {p : Nat} (c : tK X p ≠ 1) : kwd s X p = 9 := by
  unfold kwd spk
  simp only [decide_eq_false c, Bool.false_and, Bool.false_eq_true, if_false, ite_self]
def lmT (s : Nat) : Nat := if s = 1 then 40 else if s = 2 then 10 else 7
def flD (s : Nat) (D : DN) : Bool := decide (lmT s ≤ D.1)
def flI (k : Nat) (D : Inn × Int32) : Bool := decide (k = 0) && decide (nT D.1 = 5)
def mny (X : Tx) (b : Bool) (S : PS) : PS := if b = true then nte 3 (tS X S.1) S else S
/-- a line, but for its sign -/
def gD (s : Nat) (X : Tx) (S : PS) (D : DN) : PS × DN := if kwd s X S.1 = 9 then (frm X S, D) else ((lnD s X (kwd s X S.1) (nxt X (mny X (flD s D) S))).1, ap1 D (lnD s X (kwd s X S.1) (nxt X (mny X (flD s D) S))).2)
def gI (X : Tx) (S : PS) (D : Inn × Int32) : PS × (Inn × Int32) := if kwd 0 X S.1 = 9 then (frm X S, D) else lnI X (kwd 0 X S.1) (nxt X (mny X (flI (kwd 0 X S.1) D) S)) D
def stp {α : Type} (X : Tx) (g : PS → α → PS × α) (S : PS) (D : α) : PS × α := (fnS X (g S D).1, (g S D).2)
def runN {α : Type} (X : Tx) (f : PS → α → PS × α) : Nat → PS → α → PS × α
  | 0, S, D => (S, D)
  | n + 1, S, D => if S.2.1 = 1 ∨ tK X S.1 = 0 then (S, D) else runN X f n (f S D).1 (f S D).2
theorem run_s {α : Type} {X : Tx} {f : PS → α → PS × α} {S : PS} {D : α} (h : S.2.1 = 1 ∨ tK X S.1 = 0) : ∀ n, runN X f n S D = (S, D)
  | 0 => rfl
  | n + 1 => if_pos h
theorem mny_0 {X : Tx} {b : Bool} {S : PS} (h : (mny X b S).2.1 = 0) : S.2.1 = 0 ∧ b = false := by
  unfold mny at h
  cases b
  · exact ⟨h, rfl⟩
  · exact absurd h (nte_f (by omega))
theorem mny_n {X : Tx} {b : Bool} {S : PS} (h : S.2.1 ≠ 0) : mny X b S = S := by
  unfold mny nte
  cases b
  · rfl
  · rw [if_pos rfl, if_neg h]
theorem mny_f {X : Tx} {b : Bool} {S : PS} (h : S.2.1 ≠ 1) : (mny X b S).2.1 ≠ 1 ∧ (mny X b S).1 = S.1 := by
  unfold mny nte
  cases b
  · exact ⟨h, rfl⟩
  · rw [if_pos rfl]
    by_cases c : S.2.1 = 0
    · rw [if_pos c]
      exact ⟨by show 3 ≠ 1; omega, rfl⟩
    · rw [if_neg c]
      exact ⟨h, rfl⟩
theorem fns_1 {X : Tx} {S : PS} (h : S.2.1 = 1) : fnS X S = S := if_pos h
theorem q_fin {X : Tx} {h : Hp} {S : PS} (hX : okX X) (C : CP X h S) : Okk (R_readLine_j153 h) (fun h' => CP X h' (fnS X S) ∧ Fr pRd h h') := by
  have C0 := C
  obtain ⟨T, hf3, c3, c4, p, hp, K, e⟩ := C
  have hk4 := tK_le X p
  unfold R_readLine_j153 R_readLine_j172
  rw [K.1]
  have st : fnS X S = nxt X S → Okk ((R_step h).bind fun h2 => some h2) (fun h' => CP X h' (fnS X S) ∧ Fr pRd h h') := fun e1 => by
    rw [e1]
    exact okb (q_nxt hX C0) (fun h1 H => ok_mk H)
  have br : fnS X S = frm X S → Okk ((R_breakOff h).bind fun h3 => some h3) (fun h' => CP X h' (fnS X S) ∧ Fr pRd h h') := fun e1 => by
    rw [e1]
    exact okb (q_brk C0) (fun h1 H => ok_mk H)
  by_cases c1 : S.2.1 = 1
  · have e1 : fnS X S = S := if_pos c1
    have e2 : nxt X S = S := if_pos c1
    have e3 : frm X S = S := if_pos c1
    by_cases c2 : nI (tK X p) = (3 : Int32)
    · rw [if_pos c2]; exact st (by rw [e1, e2])
    · rw [if_neg c2]; exact br (by rw [e1, e3])
  have ep := e c1
  subst ep
  by_cases c2 : tK X S.1 = 3
  · rw [if_pos (show nI (tK X S.1) = (3 : Int32) by rw [c2]; rfl)]
    exact st (by unfold fnS; rw [if_neg c1, if_pos c2])
  · rw [if_neg (show ¬ nI (tK X S.1) = (3 : Int32) from ne_nI (b := 3) (by omega) (by omega) c2)]
    exact br (by unfold fnS; rw [if_neg c1, if_neg c2])
theorem q_kw {X : Tx} {h : Hp} {S : PS} (hX : okX X) (C : CP X h S) (hS : S.2.1 ≠ 1) {s : Nat} (hs : s < 4) : R_readLine h (nI s) = R_readLine_j17 (nI s) (vK (kwd s X S.1)) h := by
  obtain ⟨T, hf3, c3, c4, p, hp, K, e⟩ := C
  have ep := e hS
  subst ep
  have hk4 := tK_le X S.1
  unfold R_readLine
  rw [K.1]
  by_cases c : tK X S.1 = 1
  · rw [if_pos (show nI (tK X S.1) = (1 : Int32) by rw [c]; rfl), q_keyword hX T hp K c hs, sb]
  · rw [if_neg (show ¬ nI (tK X S.1) = (1 : Int32) from ne_nI (b := 1) (by omega) (by omega) c), kwd_n c]
    rfl
theorem q_many {X : Tx} {h : Hp} {S : PS} (C : CP X h S) (hS : S.2.1 ≠ 1) : Okk (R_note h (3 : Int32) (h.1 46 6)) (fun h' => CP X h' (nte 3 (tS X S.1) S) ∧ Fr pRd h h') := by
  have C0 := C
  obtain ⟨T, hf3, c3, c4, p, hp, K, e⟩ := C
  have ep := e hS
  subst ep
  rw [K.2.1]
  exact q_note (f := 3) C0 (tS X S.1) (Or.inr rfl)
theorem q_rlI {X : Tx} {h : Hp} {S : PS} {D : Inn × Int32} (hX : okX X) (C : CP X h S) (H : DI h S D) (hS : S.2.1 ≠ 1) : Okk (R_readLine h (nI 0)) (fun h' => CP X h' (stp X (gI X) S D).1 ∧ DI h' (stp X (gI X) S D).1 (stp X (gI X) S D).2 ∧ Fr pR0 h h') := by
  have hw := kwd_s (s := 0) (by omega) X S.1
  rw [q_kw hX C hS (by omega)]
  unfold R_readLine_j17 stp gI
  by_cases c9 : kwd 0 X S.1 = 9
  · rw [if_pos c9, c9, if_pos (show vK 9 = (-1 : Int32) from rfl)]
    refine okb (q_brk C) ?_
    rintro h1 ⟨r1, r2⟩
    rw [fns_1 (frm_1 X S)]
    exact ok_mk ⟨r1, di_fr H (fun c => absurd ((frm_1 X S).symm.trans c) (by decide)) r2, rd_0 r2⟩
  have hk : kwd 0 X S.1 < 4 := by
    rcases hw with hw | hw
    · exact absurd hw.1 c9
    · exact hw.1
  rw [if_neg c9]
  generalize kwd 0 X S.1 = k at *
  have ev : vK k = nI k := if_neg c9
  rw [ev, if_neg (show ¬ nI k = (-1 : Int32) from fun c => Eq.mp ((NJ k 1 (by omega) (by omega)).2.2.2.2.1 (by omega)) c), if_pos (show nI 0 = (0 : Int32) from rfl)]
  have go : ∀ h1 S1, CP X h1 S1 → DI h1 S1 D → Fr pRd h h1 → S1 = mny X (flI k D) S → Okk (R_readLine_j73 (nI 0) (nI k) h1) (fun h' => CP X h' (fnS X (lnI X k (nxt X (mny X (flI k D) S)) D).1) ∧ DI h' (fnS X (lnI X k (nxt X (mny X (flI k D) S)) D).1) (lnI X k (nxt X (mny X (flI k D) S)) D).2 ∧ Fr pR0 h h') := by
    rintro h1 S1 C1 H1 F1 rfl
    unfold R_readLine_j73
    refine okb (q_nxt hX C1) ?_
    rintro h2 ⟨C2, F2⟩
    rw [if_pos (show nI 0 = (0 : Int32) from rfl)]
    refine okb (q_rinn hX C2 (di_fr H1 (fun c => by rw [nxt_f] at c; exact c) F2) hk ?_) ?_
    · intro k0 c
      rw [nxt_f] at c
      obtain ⟨a1, a2⟩ := mny_0 c
      subst k0
      unfold flI at a2
      rw [decide_eq_true rfl, Bool.true_and, decide_eq_false_iff_not] at a2
      have := (H.2 a1).2.1
      omega
    rintro h3 ⟨C3, H3, F3⟩
    refine okw (q_fin hX C3) ?_
    rintro h4 ⟨C4, F4⟩
    exact ⟨C4, di_fr H3 (fun c => (fnS_0 c).1) F4, fr_tr (rd_0 (fr_tr F1 F2)) (fr_tr F3 (rd_0 F4))⟩
  have id1 : S.2.1 ≠ 0 → S = mny X (flI k D) S := fun c => (mny_n c).symm
  by_cases c0 : k = 0
  · subst c0
    rw [if_pos (show nI 0 = (0 : Int32) from rfl)]
    by_cases c5 : h.1 47 5 = (5 : Int32)
    · rw [if_pos c5]
      unfold R_readLine_j64
      refine okb (q_many C hS) ?_
      rintro h1 ⟨C1, F1⟩
      refine go h1 _ C1 (di_fr H (fun c => absurd c (nte_f (by omega))) F1) F1 ?_
      by_cases d : S.2.1 = 0
      · have e1 := (H.2 d).1.2.1
        have e2 := (H.2 d).2.1
        have e3 : nT D.1 = 5 := (nI_eq (b := 5) (by omega) (by omega)).mp (e1.symm.trans c5)
        unfold mny flI
        rw [decide_eq_true e3]
        rfl
      · rw [mny_n d]
        unfold nte
        rw [if_neg d]
    · rw [if_neg c5]
      refine go h S C H fr_rfl ?_
      by_cases d : S.2.1 = 0
      · have e1 := (H.2 d).1.2.1
        have e3 : ¬ nT D.1 = 5 := fun e => c5 (e1.trans (by rw [e]; rfl))
        unfold mny flI
        rw [decide_eq_false e3, Bool.and_false]
        rfl
      · exact id1 d
  · rw [if_neg (show ¬ nI k = (0 : Int32) from ne_nI (b := 0) (by omega) (by omega) c0)]
    refine go h S C H fr_rfl ?_
    unfold mny flI
    rw [decide_eq_false c0, Bool.false_and]
    rfl
theorem q_lim {s : Nat} (h1 : 1 ≤ s) (h2 : s < 4) : K_limitOf (nI s) = some (nI (lmT s)) := by
  rcases (by omega : s = 1 ∨ s = 2 ∨ s = 3) with rfl | rfl | rfl <;> decide +kernel
theorem lmT_le (s : Nat) : lmT s ≤ 40 := by
  unfold lmT
  by_cases c : s = 1
  · rw [if_pos c]; exact Nat.le_refl _
  · rw [if_neg c]
    by_cases d : s = 2
    · rw [if_pos d]; omega
    · rw [if_neg d]; omega
theorem q_rlD {X : Tx} {h : Hp} {S : PS} {D : DN} (hX : okX X) (C : CP X h S) (H : DL h S D) (hS : S.2.1 ≠ 1) {s : Nat} (s1 : 1 ≤ s) (s2 : s < 4) : Okk (R_readLine h (nI s)) (fun h' => CP X h' (stp X (gD s X) S D).1 ∧ DL h' (stp X (gD s X) S D).1 (stp X (gD s X) S D).2 ∧ Fr pR0 h h') := by
  have hw := kwd_s (s := s) s2 X S.1
  have hl4 := lmT_le s
  rw [q_kw hX C hS (by omega)]
  unfold R_readLine_j17 stp gD
  by_cases c9 : kwd s X S.1 = 9
  · rw [if_pos c9, c9, if_pos (show vK 9 = (-1 : Int32) from rfl)]
    refine okb (q_brk C) ?_
    rintro h1 ⟨r1, r2⟩
    rw [fns_1 (frm_1 X S)]
    exact ok_mk ⟨r1, dl_fr H (fun c => absurd ((frm_1 X S).symm.trans c) (by decide)) r2, rd_0 r2⟩
  have hk : kwd s X S.1 < kN s := by
    rcases hw with hw | hw
    · exact absurd hw.1 c9
    · exact hw.1
  rw [if_neg c9]
  generalize kwd s X S.1 = k at *
  have hk6 : k < 6 := by
    rcases (by omega : s = 1 ∨ s = 2 ∨ s = 3) with rfl | rfl | rfl
    · exact hk
    · have : k < 4 := hk
      omega
    · have : k < 2 := hk
      omega
  have ev : vK k = nI k := if_neg c9
  rw [ev, if_neg (show ¬ nI k = (-1 : Int32) from fun c => Eq.mp ((NJ k 1 (by omega) (by omega)).2.2.2.2.1 (by omega)) c), if_neg (show ¬ nI s = (0 : Int32) from ne_nI (b := 0) (by omega) (by omega) (by omega)), q_lim s1 s2, sb]
  have go : ∀ h1 S1, CP X h1 S1 → DL h1 S1 D → Fr pRd h h1 → S1 = mny X (flD s D) S → Okk (R_readLine_j73 (nI s) (nI k) h1) (fun h' => CP X h' (fnS X (lnD s X k (nxt X (mny X (flD s D) S))).1) ∧ DL h' (fnS X (lnD s X k (nxt X (mny X (flD s D) S))).1) (ap1 D (lnD s X k (nxt X (mny X (flD s D) S))).2) ∧ Fr pR0 h h') := by
    rintro h1 S1 C1 H1 F1 rfl
    unfold R_readLine_j73
    refine okb (q_nxt hX C1) ?_
    rintro h2 ⟨C2, F2⟩
    have H2 : DL h2 (nxt X (mny X (flD s D) S)) D := dl_fr H1 (fun c => by rw [nxt_f] at c; exact c) F2
    have hD : (nxt X (mny X (flD s D) S)).2.1 = 0 → D.1 < 40 := fun c => by
      rw [nxt_f] at c
      have a2 := (mny_0 c).2
      unfold flD at a2
      rw [decide_eq_false_iff_not] at a2
      omega
    have fin : ∀ h3, CP X h3 (lnD s X k (nxt X (mny X (flD s D) S))).1 → DL h3 (lnD s X k (nxt X (mny X (flD s D) S))).1 (ap1 D (lnD s X k (nxt X (mny X (flD s D) S))).2) → Fr pR0 h2 h3 → Okk (R_readLine_j153 h3) (fun h' => CP X h' (fnS X (lnD s X k (nxt X (mny X (flD s D) S))).1) ∧ DL h' (fnS X (lnD s X k (nxt X (mny X (flD s D) S))).1) (ap1 D (lnD s X k (nxt X (mny X (flD s D) S))).2) ∧ Fr pR0 h h') := by
      intro h3 C3 H3 F3
      refine okw (q_fin hX C3) ?_
      rintro h4 ⟨C4, F4⟩
      exact ⟨C4, dl_fr H3 (fun c => (fnS_0 c).1) F4, fr_tr (rd_0 (fr_tr F1 F2)) (fr_tr F3 (rd_0 F4))⟩
    generalize nxt X (mny X (flD s D) S) = S2 at *
    rw [if_neg (show ¬ nI s = (0 : Int32) from ne_nI (b := 0) (by omega) (by omega) (by omega))]
    rcases (by omega : s = 1 ∨ s = 2 ∨ s = 3) with rfl | rfl | rfl
    · rw [if_pos (show nI 1 = (1 : Int32) from rfl)]
      refine okb (q_rdeed hX C2 H2 hD hk6) ?_
      rintro h3 ⟨C3, H3, F3⟩
      exact fin h3 C3 H3 F3
    · rw [if_neg (show ¬ nI 2 = (1 : Int32) by decide +kernel), if_pos (show nI 2 = (2 : Int32) from rfl)]
      refine okb (q_rwish hX C2 H2 hD hk) ?_
      rintro h3 ⟨C3, H3, F3⟩
      exact fin h3 C3 H3 F3
    · rw [if_neg (show ¬ nI 3 = (1 : Int32) by decide +kernel), if_neg (show ¬ nI 3 = (2 : Int32) by decide +kernel)]
      unfold R_readLine_j149
      have e3 : lnD 3 X k S2 = if k = 0 then (nuS X 0 7 0 S2, (nI 0, nI (nuV X 0 7 S2), jN 1)) else (S2, (nI k, jN 1, jN 1)) := by
        unfold lnD
        rw [if_neg (by omega), if_neg (by omega)]
      by_cases c0 : k = 0
      · subst c0
        rw [if_pos rfl] at e3
        rw [if_pos (show nI 0 = (0 : Int32) from rfl)]
        refine okb (q_number hX C2 (a := 0) (c := 7) (by omega) (by omega) 0) ?_
        rintro ⟨r1, h3⟩ ⟨e1, C3, F3⟩
        dsimp only at e1 C3 F3 ⊢
        subst e1
        refine okb (q_add53 (d := (nI 0, nI (nuV X 0 7 S2), jN 1)) C3 (dl_fr H2 (fun c => (nuS_0 c).1) F3) (fun c => hD (nuS_0 c).1)) ?_
        rintro h4 ⟨a1, a2, a3⟩
        rw [e3] at fin ⊢
        exact fin h4 a1 a2 (fr_tr (rd_0 F3) a3)
      · rw [if_neg c0] at e3
        rw [if_neg (show ¬ nI k = (0 : Int32) from ne_nI (b := 0) (by omega) (by omega) c0)]
        refine okb (q_add53 (d := (nI k, jN 1, jN 1)) C2 H2 hD) ?_
        rintro h4 ⟨a1, a2, a3⟩
        rw [e3] at fin ⊢
        exact fin h4 a1 a2 a3
  obtain ⟨⟨m, hm, h3⟩, -, -, hc⟩ := id H
  by_cases c5 : h.1 53 3 < nI (lmT s)
  · rw [if_pos c5]
    refine go h S C H fr_rfl ?_
    by_cases d : S.2.1 = 0
    · have e1 := (hc d).2.1
      rw [e1, i_lt, nI_toInt (by have := (hc d).1; omega), nI_toInt (by omega)] at c5
      unfold mny flD
      rw [decide_eq_false (by omega)]
      rfl
    · exact (mny_n d).symm
  · rw [if_neg c5]
    unfold R_readLine_j64
    refine okb (q_many C hS) ?_
    rintro h1 ⟨C1, F1⟩
    refine go h1 _ C1 (dl_fr H (fun c => absurd c (nte_f (by omega))) F1) F1 ?_
    by_cases d : S.2.1 = 0
    · have e1 := (hc d).2.1
      rw [e1, i_lt, nI_toInt (by have := (hc d).1; omega), nI_toInt (by omega)] at c5
      unfold mny flD
      rw [decide_eq_true (show lmT s ≤ D.1 by omega)]
      rfl
    · rw [mny_n d]
      unfold nte
      rw [if_neg d]
theorem lp_gh {S R : Type} (f : S → Option (S ⊕ R)) (Iv : Nat → S → Prop) (Q : R → Prop) (hs : ∀ n s, Iv n s → Okk (f s) (Sum.elim (fun s' => ∃ m, m < n ∧ Iv m s') Q)) : ∀ n s, Iv n s → Okk (lp f s) Q := by
  intro n
  induction n using Nat.strongRecOn with
  | ind n ih =>
    intro s h
    apply lp_in
    refine okw (hs n s h) ?_
    intro x hx
    cases x with
    | inl s' =>
      obtain ⟨m, hm, h'⟩ := hx
      exact ih m hm s' h'
    | inr r => exact hx
theorem q_loop {α : Type} {s : Nat} {X : Tx} (hX : okX X) (f : PS → α → PS × α) (CI : Hp → PS → α → Prop) (hstep : ∀ h S D, CP X h S → CI h S D → S.2.1 ≠ 1 → Okk (R_readLine h (nI s)) (fun h' => CP X h' (f S D).1 ∧ CI h' (f S D).1 (f S D).2 ∧ Fr pR0 h h')) (hpr : ∀ S D, S.2.1 ≠ 1 → S.1 ≤ X.2 → tK X S.1 ≠ 0 → (f S D).1.2.1 = 1 ∨ (S.1 < (f S D).1.1 ∧ (f S D).1.1 ≤ X.2)) {h : Hp} {S : PS} {D : α} (C : CP X h S) (I : CI h S D) (hS : S.2.1 ≠ 1) {Q : Hp → Prop} (hQ : ∀ h', CP X h' (runN X f 601 S D).1 → CI h' (runN X f 601 S D).1 (runN X f 601 S D).2 → Fr pR0 h h' → Okk (R_read_j73 h') Q) : Okk (R_read_l40 (nI s) (nI 0) h) Q := by
  have hl := hX.1
  have C0 := C
  obtain ⟨-, -, -, -, p0, hp0, -, ep0⟩ := C
  have hp := ep0 hS
  unfold R_read_l40
  refine lp_gh _ (fun n z => ∃ i S' D', z.1 = nI i ∧ i ≤ 601 ∧ CP X z.2 S' ∧ CI z.2 S' D' ∧ Fr pR0 h z.2 ∧ runN X f n S' D' = runN X f 601 S D ∧ (S'.2.1 ≠ 1 → i ≤ S'.1 ∧ S'.1 ≤ X.2 ∧ X.2 - S'.1 < n)) _ ?_ 601 _ ⟨0, S, D, rfl, by omega, C0, I, fr_rfl, rfl, fun _ => by omega⟩
  rintro n ⟨z1, z2⟩ ⟨i, S', D', ez, hi, C', I', F', er, hm⟩
  dsimp only at ez C' I' F'
  subst ez
  have C1 := C'
  obtain ⟨T, hf3, c3, c4, p, hp2, K, e⟩ := C'
  have hk4 := tK_le X p
  have out : (S'.2.1 = 1 ∨ tK X S'.1 = 0) → Okk ((R_read_j73 z2).map Sum.inr) (Sum.elim (fun s' : Int32 × Hp => ∃ m, m < n ∧ ∃ i S' D', s'.1 = nI i ∧ i ≤ 601 ∧ CP X s'.2 S' ∧ CI s'.2 S' D' ∧ Fr pR0 h s'.2 ∧ runN X f m S' D' = runN X f 601 S D ∧ (S'.2.1 ≠ 1 → i ≤ S'.1 ∧ S'.1 ≤ X.2 ∧ X.2 - S'.1 < m)) Q) := fun c => by
    rw [run_s c] at er
    refine okmr (hQ z2 ?_ ?_ F')
    · rw [← er]; exact C1
    · rw [← er]; exact I'
  unfold R_read_b40
  dsimp only
  by_cases c0 : (600 : Int32) < nI i
  · rw [if_pos c0]
    have c0' := (nI_ltI (a := 600) (by omega) (by omega)).mp c0
    refine out (Or.inl ?_)
    by_cases c1 : S'.2.1 = 1
    · exact c1
    · have := hm c1
      omega
  rw [if_neg c0, K.1]
  have c0' : i ≤ 600 := by
    rcases Nat.lt_or_ge 600 i with c | c
    · exact absurd ((nI_ltI (a := 600) (by omega) (by omega)).mpr c) c0
    · exact c
  by_cases c1 : nI (tK X p) = 0
  · rw [if_pos c1]
    refine out ?_
    by_cases c2 : S'.2.1 = 1
    · exact Or.inl c2
    · rw [e c2] at c1
      exact Or.inr ((nI_eq (b := 0) (by have := tK_le X S'.1; omega) (by omega)).mp c1)
  rw [if_neg c1, c3]
  by_cases c2 : S'.2.1 = 1
  · rw [if_pos (show nI S'.2.1 = (1 : Int32) by rw [c2]; rfl)]
    exact out (Or.inl c2)
  rw [if_neg (show ¬ nI S'.2.1 = (1 : Int32) from ne_nI (b := 1) (by omega) (by omega) c2)]
  have ep := e c2
  subst ep
  have c3' : tK X S'.1 ≠ 0 := fun c => c1 (by rw [c]; rfl)
  refine okb (hstep z2 S' D' C1 I' c2) ?_
  rintro h1 ⟨a1, a2, a3⟩
  rw [bnd_eq, show nI i + (1 : Int32) = nI (i + 1) from nI_add _ _]
  obtain ⟨m1, m2, m3⟩ := hm c2
  obtain ⟨m, rfl⟩ : ∃ m, n = m + 1 := ⟨n - 1, by omega⟩
  have er2 : runN X f (m + 1) S' D' = runN X f m (f S' D').1 (f S' D').2 := if_neg (fun c => by
    rcases c with c | c
    · exact c2 c
    · exact c3' c)
  refine ok_mk ⟨m, by omega, i + 1, (f S' D').1, (f S' D').2, rfl, by omega, a1, a2, fr_tr F' a3, by rw [← er2, er], fun c => ?_⟩
  rcases hpr S' D' c2 m2 c3' with g | g
  · exact absurd g c
  · omega
