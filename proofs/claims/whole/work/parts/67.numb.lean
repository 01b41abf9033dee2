/-! ===== L3: texts: how far one has read, and with what fault ===== -/
abbrev PS : Type := Nat × Nat × Nat
def frm (X : Tx) (S : PS) : PS := if S.2.1 = 1 then S else (0, 1, tS X S.1)
def nte (f x : Nat) (S : PS) : PS := if S.2.1 = 0 then (S.1, f, x) else S
def nxt (X : Tx) (S : PS) : PS := if S.2.1 = 1 then S else (tE X S.1, S.2)
def vOk (a c : Nat) (bar : Int32) (v : Nat) : Bool := decide (a ≤ v) && (decide (v ≤ c) && !(bt bar v))
def nuS (X : Tx) (a c : Nat) (bar : Int32) (S : PS) : PS := if S.2.1 = 1 then S else if tK X S.1 = 2 then nxt X (if vOk a c bar (tV X S.1) = true then S else nte 2 (tS X S.1) S) else frm X S
def nuV (X : Tx) (a c : Nat) (S : PS) : Nat := if S.2.1 ≠ 1 ∧ tK X S.1 = 2 ∧ a ≤ tV X S.1 ∧ tV X S.1 ≤ c then tV X S.1 else a
def fnS (X : Tx) (S : PS) : PS := if S.2.1 = 1 then S else if tK X S.1 = 3 then nxt X S else frm X S
theorem vOk_n {a c v : Nat} {bar : Int32} (h : vOk a c bar v = true) : a ≤ v ∧ v ≤ c ∧ bt bar v = false := by
  unfold vOk at h
  rw [Bool.and_eq_true, Bool.and_eq_true, decide_eq_true_eq, decide_eq_true_eq, Bool.not_eq_true'] at h
  exact h
theorem nuV_b (X : Tx) {a c : Nat} (h : a ≤ c) (S : PS) : a ≤ nuV X a c S ∧ nuV X a c S ≤ c := by
  unfold nuV
  by_cases d : S.2.1 ≠ 1 ∧ tK X S.1 = 2 ∧ a ≤ tV X S.1 ∧ tV X S.1 ≤ c
  · rw [if_pos d]; omega
  · rw [if_neg d]; omega
theorem nte_f {f x : Nat} {S : PS} (hf : f ≠ 0) : (nte f x S).2.1 ≠ 0 := by
  unfold nte
  by_cases c : S.2.1 = 0
  · rw [if_pos c]; exact hf
  · rw [if_neg c]; exact c
theorem nte_1 {f x : Nat} {S : PS} (hf : f ≠ 1) : (nte f x S).2.1 = 1 ↔ S.2.1 = 1 := by
  unfold nte
  by_cases c : S.2.1 = 0
  · rw [if_pos c]
    exact ⟨fun e => absurd e hf, fun e => by omega⟩
  · rw [if_neg c]
theorem nxt_f (X : Tx) (S : PS) : (nxt X S).2 = S.2 := by
  unfold nxt
  by_cases c : S.2.1 = 1
  · rw [if_pos c]
  · rw [if_neg c]
theorem frm_1 (X : Tx) (S : PS) : (frm X S).2.1 = 1 := by
  unfold frm
  by_cases c : S.2.1 = 1
  · rw [if_pos c, c]
  · rw [if_neg c]
theorem nuS_0 {X : Tx} {a c : Nat} {bar : Int32} {S : PS} (h : (nuS X a c bar S).2.1 = 0) : S.2.1 = 0 ∧ tK X S.1 = 2 ∧ vOk a c bar (tV X S.1) = true ∧ nuS X a c bar S = (tE X S.1, S.2) ∧ nuV X a c S = tV X S.1 := by
  unfold nuS at h ⊢
  by_cases c1 : S.2.1 = 1
  · rw [if_pos c1, c1] at h
    exact absurd h (by decide)
  rw [if_neg c1] at h ⊢
  by_cases c2 : tK X S.1 = 2
  case neg =>
    rw [if_neg c2, frm_1] at h
    exact absurd h (by decide)
  rw [if_pos c2, nxt_f] at h
  rw [if_pos c2]
  by_cases c3 : vOk a c bar (tV X S.1) = true
  · rw [if_pos c3] at h ⊢
    obtain ⟨v1, v2, v3⟩ := vOk_n c3
    refine ⟨h, c2, c3, ?_, ?_⟩
    · unfold nxt
      rw [if_neg c1]
    · unfold nuV
      rw [if_pos ⟨c1, c2, v1, v2⟩]
  · rw [if_neg c3] at h
    exact absurd h (nte_f (by omega))
theorem nuS_1 {X : Tx} {a c : Nat} {bar : Int32} {S : PS} (h : S.2.1 = 1) : nuS X a c bar S = S := if_pos h
theorem fnS_0 {X : Tx} {S : PS} (h : (fnS X S).2.1 = 0) : S.2.1 = 0 ∧ tK X S.1 = 3 ∧ fnS X S = (tE X S.1, S.2) := by
  unfold fnS at h ⊢
  by_cases c1 : S.2.1 = 1
  · rw [if_pos c1, c1] at h
    exact absurd h (by decide)
  rw [if_neg c1] at h ⊢
  by_cases c2 : tK X S.1 = 3
  · rw [if_pos c2, nxt_f] at h
    rw [if_pos c2]
    refine ⟨h, c2, ?_⟩
    unfold nxt
    rw [if_neg c1]
  · rw [if_neg c2, frm_1] at h
    exact absurd h (by decide)
/-- the code's reader -/
def CP (X : Tx) (h : Hp) (S : PS) : Prop := TC X h ∧ S.2.1 ≤ 3 ∧ h.1 46 3 = nI S.2.1 ∧ h.1 46 4 = (if S.2.1 = 0 then jN 1 else nI S.2.2) ∧ ∃ p, p ≤ X.2 ∧ CT X h p ∧ (S.2.1 ≠ 1 → p = S.1)
def pRd : Nat → Nat → Prop := fun c i => c = 46 ∧ 3 ≤ i ∧ i ≤ 7
theorem prd_o {h h' : Hp} (F : Fr pRd h h') : ∀ c i, ¬ (c = 46 ∧ 3 ≤ i ∧ i ≤ 7) → h'.1 c i = h.1 c i := F
theorem prd_w {h : Hp} {i : Nat} {v : Int32} (hi : 3 ≤ i ∧ i ≤ 7) : Fr pRd h (wr h 46 i v) := fr_wr ⟨rfl, hi⟩
theorem tk_rd {h h' : Hp} (F : Fr pTk h h') : Fr pRd h h' := fr_mo F (fun c i hc => by
  have hc' : c = 46 ∧ 5 ≤ i ∧ i ≤ 7 := hc
  show c = 46 ∧ 3 ≤ i ∧ i ≤ 7
  omega)
theorem cP_fr {X : Tx} {h h' : Hp} {S : PS} (C : CP X h S) (o : ∀ c i, (c = 46 ∧ 3 ≤ i ∧ i ≤ 7) ∨ c = 3 ∨ c = 4 → h'.1 c i = h.1 c i) : CP X h' S := by
  obtain ⟨T, hf, c3, c4, p, hp, K, e⟩ := C
  refine ⟨tc_fr T (fun c i hc => o c i (Or.inr hc)), hf, by rw [o _ _ (by omega), c3], by rw [o _ _ (by omega), c4], p, hp, ?_, e⟩
  obtain ⟨k5, k6, k7⟩ := K
  exact ⟨by rw [o _ _ (by omega), k5], by rw [o _ _ (by omega), k6], by rw [o _ _ (by omega), k7]⟩
theorem q_note {X : Tx} {h : Hp} {S : PS} (C : CP X h S) {f : Nat} (x : Nat) (hf : f = 2 ∨ f = 3) : Okk (R_note h (nI f) (nI x)) (fun h' => CP X h' (nte f x S) ∧ Fr pRd h h') := by
  obtain ⟨T, hf3, c3, c4, p, hp, K, e⟩ := C
  unfold R_note R_note_j17 nte
  rw [c3]
  by_cases c : S.2.1 = 0
  · rw [if_pos (show nI S.2.1 = 0 by rw [c]; rfl), if_pos c, bnd_eq, bnd_eq]
    obtain ⟨k5, k6, k7⟩ := K
    have hf0 : f ≠ 0 := by omega
    refine ok_mk ⟨⟨tc_fr T (fun c i hc => by rw [wr_c _ _ _ _ (by omega), wr_c _ _ _ _ (by omega)]), by dsimp only; omega, ?_, ?_, p, hp, ⟨?_, ?_, ?_⟩, fun _ => e (by omega)⟩, fr_tr (prd_w (by omega)) (prd_w (by omega))⟩
    · rw [wr_p _ _ _ _ (by omega), wr_at]
    · dsimp only
      rw [wr_at, if_neg hf0]
    · rw [wr_p _ _ _ _ (by omega), wr_p _ _ _ _ (by omega), k5]
    · rw [wr_p _ _ _ _ (by omega), wr_p _ _ _ _ (by omega), k6]
    · rw [wr_p _ _ _ _ (by omega), wr_p _ _ _ _ (by omega), k7]
  · rw [if_neg (show ¬ nI S.2.1 = 0 from ne_nI (b := 0) (by omega) (by omega) c), if_neg c]
    exact ok_mk ⟨⟨T, hf3, c3, c4, p, hp, K, e⟩, fr_rfl⟩
theorem q_brk {X : Tx} {h : Hp} {S : PS} (C : CP X h S) : Okk (R_breakOff h) (fun h' => CP X h' (frm X S) ∧ Fr pRd h h') := by
  obtain ⟨T, hf3, c3, c4, p, hp, K, e⟩ := C
  unfold R_breakOff R_breakOff_j21 frm
  rw [c3]
  by_cases c : S.2.1 = 1
  · rw [if_pos (show nI S.2.1 = (1 : Int32) by rw [c]; rfl), if_pos c]
    exact ok_mk ⟨⟨T, hf3, c3, c4, p, hp, K, e⟩, fr_rfl⟩
  · rw [if_neg (show ¬ nI S.2.1 = (1 : Int32) from ne_nI (b := 1) (by omega) (by omega) c), if_neg c, bnd_eq, bnd_eq, wr_p _ _ _ _ (show 6 ≠ 3 by omega)]
    obtain ⟨k5, k6, k7⟩ := K
    have ep := e c
    subst ep
    refine ok_mk ⟨⟨tc_fr T (fun c i hc => by rw [wr_c _ _ _ _ (by omega), wr_c _ _ _ _ (by omega)]), by dsimp only; omega, ?_, ?_, S.1, hp, ⟨?_, ?_, ?_⟩, fun c => absurd rfl c⟩, fr_tr (prd_w (by omega)) (prd_w (by omega))⟩
    · rw [wr_p _ _ _ _ (by omega), wr_at]
      rfl
    · dsimp only
      rw [wr_at, if_neg (by decide), k6]
    · rw [wr_p _ _ _ _ (by omega), wr_p _ _ _ _ (by omega), k5]
    · rw [wr_p _ _ _ _ (by omega), wr_p _ _ _ _ (by omega), k6]
    · rw [wr_p _ _ _ _ (by omega), wr_p _ _ _ _ (by omega), k7]
theorem q_nxt {X : Tx} {h : Hp} {S : PS} (hX : okX X) (C : CP X h S) : Okk (R_step h) (fun h' => CP X h' (nxt X S) ∧ Fr pRd h h') := by
  obtain ⟨T, hf3, c3, c4, p, hp, K, e⟩ := C
  have hE := tE_b X hp
  refine okw (q_step hX T hE.2.1 K.2.2) ?_
  rintro h' ⟨K2, F⟩
  have o := ptk_o F
  refine ⟨⟨tc_tk T F, by rw [nxt_f]; exact hf3, by rw [nxt_f, o _ _ (by omega), c3], by rw [nxt_f, o _ _ (by omega), c4], tE X p, hE.2.1, K2, fun c => ?_⟩, tk_rd F⟩
  rw [nxt_f] at c
  unfold nxt
  rw [if_neg c, e c]
theorem q_number {X : Tx} {h : Hp} {S : PS} (hX : okX X) (C : CP X h S) {a c : Nat} (hac : a ≤ c) (hc : c < 10) (bar : Int32) : Okk (R_number h (nI a) (nI c) bar) (fun r => r.1 = nI (nuV X a c S) ∧ CP X r.2 (nuS X a c bar S) ∧ Fr pRd h r.2) := by
  have hl := hX.1
  have hb := hX.2
  have C0 := C
  obtain ⟨T, hf3, c3, c4, p, hp, K, e⟩ := C
  have hE := tE_b X hp
  have j16 : (S.2.1 = 1 ∨ tK X S.1 ≠ 2) → Okk (R_number_j16 (nI a) h) (fun r => r.1 = nI (nuV X a c S) ∧ CP X r.2 (nuS X a c bar S) ∧ Fr pRd h r.2) := fun d => by
    unfold R_number_j16
    refine okb (q_brk C0) ?_
    rintro h1 ⟨r1, r2⟩
    have e1 : nuV X a c S = a := if_neg (fun e => by
      rcases d with d | d
      · exact e.1 d
      · exact d e.2.1)
    have e2 : nuS X a c bar S = frm X S := by
      unfold nuS
      by_cases c1 : S.2.1 = 1
      · rw [if_pos c1]
        unfold frm
        rw [if_pos c1]
      · rw [if_neg c1, if_neg (by
          rcases d with d | d
          · exact absurd d c1
          · exact d)]
    rw [e1, e2]
    exact ok_mk ⟨rfl, r1, r2⟩
  unfold R_number
  rw [K.1, c3]
  by_cases c1 : S.2.1 = 1
  · by_cases c2 : nI (tK X p) = (2 : Int32)
    · rw [if_pos c2, if_pos (show nI S.2.1 = (1 : Int32) by rw [c1]; rfl)]
      exact j16 (Or.inl c1)
    · rw [if_neg c2]
      exact j16 (Or.inl c1)
  have ep := e c1
  subst ep
  have hk4 := tK_le X S.1
  by_cases c2 : tK X S.1 = 2
  case neg =>
    rw [if_neg (show ¬ nI (tK X S.1) = (2 : Int32) from ne_nI (b := 2) (by omega) (by omega) c2)]
    exact j16 (Or.inr c2)
  rw [if_pos (show nI (tK X S.1) = (2 : Int32) by rw [c2]; rfl), if_neg (show ¬ nI S.2.1 = (1 : Int32) from ne_nI (b := 1) (by omega) (by omega) c1), bnd_eq, K.2.1]
  have hd := tK_2 c2
  have hn := tK_2n c2
  have hv := tV_lt c2
  have eS : nuS X a c bar S = nxt X (if vOk a c bar (tV X S.1) = true then S else nte 2 (tS X S.1) S) := by
    unfold nuS
    rw [if_neg c1, if_pos c2]
  -- behind the loop
  have j66 : Okk (R_number_j66 (nI a) (nI c) bar (nI (tV X S.1)) h) (fun r => r.1 = nI (nuV X a c S) ∧ CP X r.2 (nuS X a c bar S) ∧ Fr pRd h r.2) := by
    have bad : ¬ (a ≤ tV X S.1 ∧ tV X S.1 ≤ c) → Okk (R_number_j78 (nI a) h) (fun r => r.1 = nI (nuV X a c S) ∧ CP X r.2 (nuS X a c bar S) ∧ Fr pRd h r.2) := fun d => by
      unfold R_number_j78 R_number_j111
      rw [K.2.1]
      refine okb (q_note (f := 2) C0 (tS X S.1) (Or.inl rfl)) ?_
      rintro h3 ⟨r1, r2⟩
      refine okb (q_nxt hX r1) ?_
      rintro h2 ⟨s1, s2⟩
      have e1 : nuV X a c S = a := if_neg (fun e => d e.2.2)
      have e2 : vOk a c bar (tV X S.1) = false := by
        unfold vOk
        by_cases d1 : a ≤ tV X S.1
        · rw [decide_eq_false (show ¬ tV X S.1 ≤ c from fun e => d ⟨d1, e⟩), Bool.false_and, Bool.and_false]
        · rw [decide_eq_false d1, Bool.false_and]
      rw [e1, eS, e2, if_neg (by decide)]
      exact ok_mk ⟨rfl, s1, fr_tr r2 s2⟩
    unfold R_number_j66
    by_cases d1 : a ≤ tV X S.1
    case neg =>
      rw [if_pos (show nI (tV X S.1) < nI a by rw [i_lt, nI_toInt (by omega), nI_toInt (by omega)]; omega)]
      exact bad (fun e => d1 e.1)
    rw [if_neg (show ¬ nI (tV X S.1) < nI a from fun e => by rw [i_lt, nI_toInt (by omega), nI_toInt (by omega)] at e; omega)]
    by_cases d2 : tV X S.1 ≤ c
    case neg =>
      rw [if_neg (show ¬ nI (tV X S.1) ≤ nI c from fun e => by rw [i_le, nI_toInt (by omega), nI_toInt (by omega)] at e; omega)]
      exact bad (fun e => d2 e.2)
    have e1 : nuV X a c S = tV X S.1 := if_pos ⟨c1, c2, d1, d2⟩
    rw [if_pos (show nI (tV X S.1) ≤ nI c by rw [i_le, nI_toInt (by omega), nI_toInt (by omega)]; omega), q_isIn bar (show tV X S.1 < 31 by omega), sb, bI_it0, e1, eS]
    have e2 : vOk a c bar (tV X S.1) = !(bt bar (tV X S.1)) := by
      unfold vOk
      rw [decide_eq_true d1, decide_eq_true d2, Bool.true_and, Bool.true_and]
    rw [e2]
    cases bt bar (tV X S.1)
    · rw [if_neg (by decide), if_pos (show (!false) = true from rfl)]
      unfold R_number_j111
      refine okb (q_nxt hX C0) ?_
      rintro h2 ⟨s1, s2⟩
      exact ok_mk ⟨rfl, s1, s2⟩
    · rw [if_pos rfl, if_neg (show ¬ (!true) = true by decide), K.2.1]
      unfold R_number_j111
      refine okb (q_note (f := 2) C0 (tS X S.1) (Or.inl rfl)) ?_
      rintro h3 ⟨r1, r2⟩
      refine okb (q_nxt hX r1) ?_
      rintro h2 ⟨s1, s2⟩
      exact ok_mk ⟨rfl, s1, fr_tr r2 s2⟩
  unfold R_number_l31
  refine lp_for _ (tE X S.1 - tS X S.1) (fun j z => z = (nI (vFd X.1 (tS X S.1) j), nI (tS X S.1 + j))) _ ?_ ?_ 0 _ (by omega) rfl
  · rintro j z hj rfl
    unfold R_number_b31
    dsimp only
    rw [K.2.2, if_neg (show ¬ nI (tE X S.1) ≤ nI (tS X S.1 + j) from fun e => by rw [i_le, nI_toInt (by omega), nI_toInt (by omega)] at e; omega), q_byteAt hX T (show tS X S.1 + j < 2 ^ 31 by omega), sb, if_pos (by omega), bnd_eq, bnd_eq, vFd_lo (hd j hj), show nI (tS X S.1 + j) + (1 : Int32) = nI (tS X S.1 + (j + 1)) from nI_add _ _]
    exact ok_mk rfl
  · rintro z rfl
    unfold R_number_b31
    dsimp only
    rw [K.2.2, if_pos (show nI (tE X S.1) ≤ nI (tS X S.1 + (tE X S.1 - tS X S.1)) by rw [i_le, nI_toInt (by omega), nI_toInt (by omega)]; omega)]
    exact okmr j66
