/-! ===== L3: texts: the model's numbers ===== -/
def MP (X : Tx) (h : Hp) (S : PS) : Prop := MTx X h ∧ MT X h S.1 ∧ S.1 ≤ X.2 ∧ S.2.1 ≤ 3 ∧ S.2.1 ≠ 1 ∧ h.1 251 17 = nI S.2.1 ∧ (S.2.1 ≠ 0 → h.1 251 18 = nI S.2.2 ∧ S.2.2 ≤ tS X S.1 ∧ (S.2.1 = 3 → tK X S.1 = 2 → S.2.2 < tS X S.1))
def pTb (k : Nat) : Nat → Nat → Prop := fun c i => (c = 251 ∧ 10 ≤ i ∧ i ≤ 22 ∧ i ≠ 11 ∧ i ≠ 21) ∨ (c = 262 ∧ i = k)
theorem ptb_o {k : Nat} {h h' : Hp} (F : Fr (pTb k) h h') : ∀ c i, ¬ ((c = 251 ∧ 10 ≤ i ∧ i ≤ 22 ∧ i ≠ 11 ∧ i ≠ 21) ∨ (c = 262 ∧ i = k)) → h'.1 c i = h.1 c i := F
theorem ptb_w {k : Nat} {h : Hp} {i : Nat} {v : Int32} (hi : 10 ≤ i ∧ i ≤ 22 ∧ i ≠ 11 ∧ i ≠ 21) : Fr (pTb k) h (wr h 251 i v) := fr_wr (Or.inl ⟨rfl, hi⟩)
theorem pmk_tb {k : Nat} {h h' : Hp} (F : Fr pMk h h') : Fr (pTb k) h h' := fr_mo F (fun c i hc => by
  have hc' : c = 251 ∧ 10 ≤ i ∧ i ≤ 14 ∧ i ≠ 11 := hc
  show (c = 251 ∧ 10 ≤ i ∧ i ≤ 22 ∧ i ≠ 11 ∧ i ≠ 21) ∨ (c = 262 ∧ i = k)
  omega)
/-- the model's reader, but for what it has written beside it -/
theorem mp_fr {X : Tx} {h h' : Hp} {S : PS} (M : MP X h S) (o : ∀ c i, (c = 251 ∧ ((10 ≤ i ∧ i ≤ 14) ∨ i = 17 ∨ i = 18)) ∨ c = 252 → h'.1 c i = h.1 c i) (oL : h'.2 = h.2) : MP X h' S := by
  obtain ⟨T, K, hp, hf, h1, h17, hx⟩ := M
  obtain ⟨k1, k2, k3, k4, k5⟩ := K
  refine ⟨mtx_fr T (fun c i hc => o c i (by omega)), ⟨by rw [o _ _ (by omega), k1], by rw [o _ _ (by omega), k2], by rw [o _ _ (by omega), k3], fun e => by rw [o _ _ (by omega), k4 e], fun e => by rw [oL, k5 e]⟩, hp, hf, h1, by rw [o _ _ (by omega), h17], fun c => ?_⟩
  rw [o _ _ (by omega)]
  exact hx c
theorem q_mnext {X : Tx} {h : Hp} {S : PS} (hX : okX X) (M : MP X h S) (hk : tK X S.1 ≠ 0) : Okk (M_token h) (fun h' => MP X h' (nxt X S) ∧ Fr pMk h h') := by
  obtain ⟨T, K, hp, hf, h1, h17, hx⟩ := M
  have hE := tE_b X hp
  refine okw (q_token hX T hE.2.1 K.1) ?_
  rintro h' ⟨K2, F⟩
  have o := pmk_o F
  have en : nxt X S = (tE X S.1, S.2) := if_neg h1
  rw [en]
  have hs2 := tS_b X hE.2.1
  refine ⟨⟨mtx_k T F, K2, hE.2.1, hf, h1, by rw [o _ _ (by omega), h17], fun c => ?_⟩, F⟩
  obtain ⟨x1, x2, x3⟩ := hx c
  have := hE.2.2.1 hk
  refine ⟨by rw [o _ _ (by omega), x1], ?_, fun _ _ => ?_⟩
  · show S.2.2 ≤ tS X (tE X S.1)
    omega
  · show S.2.2 < tS X (tE X S.1)
    omega
theorem q_later {X : Tx} {h : Hp} {S : PS} (hX : okX X) (M : MP X h S) {f : Nat} (hf : f = 2 ∨ f = 3) (h2 : f = 2 → tK X S.1 = 2) (h3 : f = 3 → tK X S.1 ≠ 2) : Okk (M_later h (nI f) (nI (tS X S.1))) (fun h' => MP X h' (nte f (tS X S.1) S) ∧ Fr (fun c i => c = 251 ∧ 17 ≤ i ∧ i ≤ 18) h h') := by
  have M0 := M
  have hl := hX.1
  obtain ⟨T, K, hp, hf3, h1, h17, hx⟩ := M
  have hs := tS_b X hp
  unfold M_later M_later_j31 M_later_j41 nte
  rw [h17]
  by_cases c : S.2.1 = 0
  · rw [if_pos (show nI S.2.1 = 0 by rw [c]; rfl), if_pos c, bnd_eq, bnd_eq]
    obtain ⟨k1, k2, k3, k4, k5⟩ := K
    have o : ∀ c i, ¬ (c = 251 ∧ 17 ≤ i ∧ i ≤ 18) → (wr (wr h 251 17 (nI f)) 251 18 (nI (tS X S.1))).1 c i = h.1 c i := fun c i hc => by
      rw [wr_i, if_neg (by omega), wr_i, if_neg (by omega)]
    refine ok_mk ⟨⟨mtx_fr T (fun c i hc => o c i (by omega)), ⟨by rw [o _ _ (by omega), k1], by rw [o _ _ (by omega), k2], by rw [o _ _ (by omega), k3], fun e => by rw [o _ _ (by omega), k4 e], fun e => k5 e⟩, hp, by dsimp only; omega, by dsimp only; omega, ?_, fun _ => ⟨wr_at _ _ _ _, Nat.le_refl _, fun e3 e2 => ?_⟩⟩, fr_tr (fr_wr (by omega)) (fr_wr (by omega))⟩
    · rw [wr_p _ _ _ _ (by omega), wr_at]
    · exact absurd e2 (h3 e3)
  obtain ⟨x1, x2, x3⟩ := hx c
  rw [if_neg (show ¬ nI S.2.1 = 0 from ne_nI (b := 0) (by omega) (by omega) c), if_neg c, x1, if_neg (show ¬ nI (tS X S.1) < nI S.2.2 from fun e => by rw [i_lt, nI_toInt (by omega), nI_toInt (by omega)] at e; omega)]
  by_cases d : tS X S.1 = S.2.2
  · have hle : S.2.1 ≤ f := by
      rcases hf with rfl | rfl
      · rcases (by omega : S.2.1 = 2 ∨ S.2.1 = 3) with e | e
        · omega
        · have := x3 e (h2 rfl)
          omega
      · exact hf3
    rw [if_pos (show nI (tS X S.1) = nI S.2.2 by rw [d]), if_pos (show nI S.2.1 ≤ nI f by rw [i_le, nI_toInt (by omega), nI_toInt (by omega)]; omega)]
    exact ok_mk ⟨M0, fr_rfl⟩
  · rw [if_neg (ne_nI (by omega) (by omega) d)]
    exact ok_mk ⟨M0, fr_rfl⟩
theorem q_failM {X : Tx} {h : Hp} {S : PS} (M : MP X h S) : M_fails h = some (nI 0, wr h 251 16 (nI (tS X S.1))) := by
  unfold M_fails
  rw [M.2.1.2.1, bnd_eq]
  rfl
theorem nuS_z {X : Tx} {a c : Nat} {bar : Int32} {S : PS} (h1 : S.2.1 ≠ 1) (h2 : tK X S.1 = 2) : nuS X a c bar S = nxt X (if vOk a c bar (tV X S.1) = true then S else nte 2 (tS X S.1) S) := by
  unfold nuS
  rw [if_neg h1, if_pos h2]
theorem nte_n {f x : Nat} {S : PS} (h : S.2.1 ≠ 0) : nte f x S = S := if_neg h
/-- what a number's reading leaves -/
def TO (X : Tx) (h : Hp) (k a c : Nat) (bar : Int32) (S : PS) (r : Int32 × Hp) : Prop := Fr (pTb k) h r.2 ∧ (tK X S.1 ≠ 2 → r.1 = nI 0 ∧ r.2.1 251 16 = nI (tS X S.1)) ∧ (tK X S.1 = 2 → r.1 = nI 1 ∧ MP X r.2 (nuS X a c bar S) ∧ r.2.1 262 k = nI (tV X S.1) ∧ ((r.2.1 251 22 = h.1 251 22 ∧ a ≤ tV X S.1 ∧ tV X S.1 ≤ c) ∨ r.2.1 251 22 = nI 0) ∧ ((nuS X a c bar S).2.1 = 0 → r.2.1 251 22 = h.1 251 22))
theorem mK_3 : ∀ a, a ≤ 4 → (nI (mK a) = (3 : Int32) ↔ a = 2) := by decide +kernel
theorem q_takeB {X : Tx} {h : Hp} {S : PS} (hX : okX X) (M : MP X h S) {k a c : Nat} (hi : k < 3) (hac : a ≤ c) (hc : c < 10) {bar x4 : Int32} (hb : S.2.1 = 0 → ∀ v, v ≤ c → (nI v = x4 ↔ bt bar v = true)) : Okk (M_takeBut h (nI k) (nI a) (nI c) x4) (TO X h k a c bar S) := by
  have hl := hX.1
  have M0 := M
  obtain ⟨T, K, hp, hf3, h1, h17, hx⟩ := M
  obtain ⟨k1, k2, k3, k4, k5⟩ := K
  have hs := tS_b X hp
  have hk4 := tK_le X S.1
  have l262 : ln 262 = 3 := lnm.2.2.2.2.2.2.2.2.2.2.1
  unfold M_takeBut
  rw [k3]
  by_cases d : tK X S.1 = 2
  case neg =>
    rw [if_neg (fun e => d ((mK_3 _ hk4).mp e)), q_failM M0, sb]
    show Okk (if nI 0 = (0 : Int32) ∨ nI 0 = (1 : Int32) then some (nI 0, wr h 251 16 (nI (tS X S.1))) else none) _
    rw [if_pos (show nI 0 = (0 : Int32) ∨ nI 0 = (1 : Int32) from Or.inl rfl)]
    exact ok_mk ⟨ptb_w (by omega), fun _ => ⟨rfl, wr_at _ _ _ _⟩, fun e => absurd e d⟩
  have hv := tV_lt d
  rw [if_pos (show nI (mK (tK X S.1)) = (3 : Int32) by rw [d]; rfl), l262, if_pos (nI_in hi (by omega)), nI_clamp (show k < 2 ^ 31 by omega), bnd_eq, k4 d]
  have F1 : Fr (pTb k) h (wr h 262 k (nI (tV X S.1))) := fr_wr (Or.inr ⟨rfl, rfl⟩)
  have M1 : MP X (wr h 262 k (nI (tV X S.1))) S := mp_fr M0 (fun c i hc => wr_c _ _ _ _ (by omega)) rfl
  have e262 : (wr h 262 k (nI (tV X S.1))).1 262 k = nI (tV X S.1) := wr_at _ _ _ _
  have e22 : (wr h 262 k (nI (tV X S.1))).1 251 22 = h.1 251 22 := wr_c _ _ _ _ (by omega)
  have e14 : (wr h 262 k (nI (tV X S.1))).1 251 14 = nI (tV X S.1) := by rw [wr_c _ _ _ _ (by omega), k4 d]
  generalize wr h 262 k (nI (tV X S.1)) = y at *
  have out : ∀ z S', MP X z S' → Fr (fun c i => c = 251 ∧ (i = 17 ∨ i = 18 ∨ i = 22)) y z → S'.1 = S.1 → nuS X a c bar S = nxt X S' → ((z.1 251 22 = h.1 251 22 ∧ a ≤ tV X S.1 ∧ tV X S.1 ≤ c) ∨ z.1 251 22 = nI 0) → ((nuS X a c bar S).2.1 = 0 → z.1 251 22 = h.1 251 22) → Okk (M_takeBut_j58 z) (TO X h k a c bar S) := by
    intro z S' Mz Fz e1 e2 e3 e4
    unfold M_takeBut_j58
    refine okb (q_mnext hX Mz (by rw [e1]; omega)) ?_
    rintro w ⟨Mw, Fw⟩
    have ow := pmk_o Fw
    have oz : ∀ c i, ¬ (c = 251 ∧ (i = 17 ∨ i = 18 ∨ i = 22)) → z.1 c i = y.1 c i := Fz
    refine ok_mk ⟨fr_tr F1 (fr_tr (fr_mo Fz (fun c i hc => Or.inl (by have hc' : c = 251 ∧ (i = 17 ∨ i = 18 ∨ i = 22) := hc; omega))) (pmk_tb Fw)), fun e => absurd d e, fun _ => ⟨rfl, by rw [e2]; exact Mw, ?_, ?_, fun c => ?_⟩⟩
    · dsimp only
      rw [ow _ _ (by omega), oz _ _ (by omega), e262]
    · dsimp only
      rw [ow _ _ (by omega)]
      exact e3
    · dsimp only
      rw [ow _ _ (by omega)]
      exact e4 c
  have bad : (S.2.1 = 0 → vOk a c bar (tV X S.1) = false) → Okk (M_takeBut_j44 y) (TO X h k a c bar S) := fun hz => by
    unfold M_takeBut_j44
    have es : y.1 251 12 = nI (tS X S.1) := M1.2.1.2.1
    rw [es]
    refine okb (q_later hX M1 (f := 2) (Or.inl rfl) (fun _ => d) (fun e => absurd e (by decide))) ?_
    rintro z ⟨Mz, Fz⟩
    rw [bnd_eq]
    have e1 : (nte 2 (tS X S.1) S).1 = S.1 := by
      unfold nte
      by_cases d : S.2.1 = 0
      · rw [if_pos d]
      · rw [if_neg d]
    have e2 : nuS X a c bar S = nxt X (nte 2 (tS X S.1) S) := by
      rw [nuS_z h1 d]
      by_cases c0 : S.2.1 = 0
      · rw [hz c0, if_neg (by decide)]
      · rw [nte_n c0, ite_self]
    refine out (wr z 251 22 0) (nte 2 (tS X S.1) S) (mp_fr Mz (fun c i hc => wr_i _ _ _ _ _ _ |>.trans (if_neg (by omega))) rfl) (fr_tr (fr_mo Fz (fun c i hc => by have hc' : c = 251 ∧ 17 ≤ i ∧ i ≤ 18 := hc; show c = 251 ∧ (i = 17 ∨ i = 18 ∨ i = 22); omega)) (fr_wr (by omega))) e1 e2 (Or.inr (wr_at _ _ _ _)) (fun e => ?_)
    rw [e2, nxt_f] at e
    exact absurd e (nte_f (by omega))
  rw [e14, q_in _ (by omega) (by omega), sb, iz_nI _ _ (by omega), bI_it0]
  by_cases r : a ≤ tV X S.1 ∧ tV X S.1 < a + (c + 1 - a)
  case neg =>
    rw [decide_eq_false r, if_neg (by decide)]
    refine bad (fun _ => ?_)
    unfold vOk
    by_cases r1 : a ≤ tV X S.1
    · rw [decide_eq_false (show ¬ tV X S.1 ≤ c by omega), Bool.false_and, Bool.and_false]
    · rw [decide_eq_false r1, Bool.false_and]
  rw [decide_eq_true r, if_pos rfl]
  by_cases q : nI (tV X S.1) = x4
  · rw [if_pos q]
    refine bad (fun c0 => ?_)
    have := (hb c0 _ (by omega)).mp q
    unfold vOk
    rw [this, Bool.not_true, Bool.and_false, Bool.and_false]
  · rw [if_neg q]
    have e2 : nuS X a c bar S = nxt X S := by
      rw [nuS_z h1 d]
      by_cases c0 : S.2.1 = 0
      · have : bt bar (tV X S.1) = false := eq_false_of_ne_true (fun e => q ((hb c0 _ (by omega)).mpr e))
        have hv : vOk a c bar (tV X S.1) = true := by
          unfold vOk
          rw [this, decide_eq_true r.1, decide_eq_true (show tV X S.1 ≤ c by omega)]
          rfl
        rw [if_pos hv]
      · rw [nte_n c0, ite_self]
    exact out y S M1 fr_rfl rfl e2 (Or.inl ⟨e22, by omega, by omega⟩) (fun _ => e22)
theorem q_take0 {X : Tx} {h : Hp} {S : PS} (hX : okX X) (M : MP X h S) {k a c : Nat} (hi : k < 3) (hac : a ≤ c) (hc : c < 10) : Okk (M_take h (nI k) (nI a) (nI c)) (TO X h k a c 0 S) := by
  unfold M_take
  refine okb (q_takeB hX M hi hac hc (bar := 0) (x4 := (-1 : Int32)) (fun _ v hv => ?_)) ?_
  · rw [show bt 0 v = false from b_0 v]
    exact ⟨fun e => False.elim (Eq.mp ((NJ v 1 (by omega) (by omega)).2.2.2.2.1 (by omega)) e), fun e => absurd e (by decide)⟩
  rintro ⟨r1, r2⟩ H
  have hr : r1 = nI 0 ∨ r1 = nI 1 := by
    by_cases d : tK X S.1 = 2
    · exact Or.inr (H.2.2 d).1
    · exact Or.inl (H.2.1 d).1
  show Okk (if r1 = 0 ∨ r1 = 1 then some (r1, r2) else none) _
  rw [if_pos (show r1 = 0 ∨ r1 = 1 from hr)]
  exact ok_mk H
