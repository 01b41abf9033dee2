/-! ===== L3: texts: tokens ===== -/
def rnF (P : Nat → Bool) (b : Nat → Nat) : Nat → Nat → Nat
  | 0, p => p
  | d + 1, p => if P (b p) = true then rnF P b d (p + 1) else p
def rnX (P : Nat → Bool) (b : Nat → Nat) (l p : Nat) : Nat := rnF P b (l - p) p
theorem rn_ge {P : Nat → Bool} {b : Nat → Nat} {l p : Nat} (h : l ≤ p) : rnX P b l p = p := by
  unfold rnX
  rw [show l - p = 0 by omega]
  rfl
theorem rn_y {P : Nat → Bool} {b : Nat → Nat} {l p : Nat} (h : p < l) (c : P (b p) = true) : rnX P b l p = rnX P b l (p + 1) := by
  unfold rnX
  obtain ⟨d, hd⟩ : ∃ d, l - p = d + 1 := ⟨l - p - 1, by omega⟩
  rw [hd, show l - (p + 1) = d by omega]
  exact if_pos c
theorem rn_n {P : Nat → Bool} {b : Nat → Nat} {l p : Nat} (c : P (b p) = false) : rnX P b l p = p := by
  unfold rnX
  cases l - p with
  | zero => rfl
  | succ d => exact if_neg (by rw [c]; decide)
theorem rnF_b (P : Nat → Bool) (b : Nat → Nat) : ∀ d p, p ≤ rnF P b d p ∧ rnF P b d p ≤ p + d
  | 0, p => ⟨Nat.le_refl _, Nat.le_refl _⟩
  | d + 1, p => by
    have ih := rnF_b P b d (p + 1)
    show p ≤ (if P (b p) = true then rnF P b d (p + 1) else p) ∧ (if P (b p) = true then rnF P b d (p + 1) else p) ≤ p + (d + 1)
    by_cases c : P (b p) = true
    · rw [if_pos c]; omega
    · rw [if_neg c]; omega
theorem rn_b {P : Nat → Bool} {b : Nat → Nat} {l p : Nat} (h : p ≤ l) : p ≤ rnX P b l p ∧ rnX P b l p ≤ l := by
  have h1 := rnF_b P b (l - p) p
  unfold rnX
  omega
theorem rnF_i {P : Nat → Bool} {b : Nat → Nat} : ∀ d p i, p ≤ i → i < rnF P b d p → P (b i) = true
  | 0, p, i, h1, h2 => absurd h2 (by show ¬ i < p; omega)
  | d + 1, p, i, h1, h2 => by
    have h3 : i < (if P (b p) = true then rnF P b d (p + 1) else p) := h2
    by_cases c : P (b p) = true
    · rw [if_pos c] at h3
      by_cases e : i = p
      · subst e; exact c
      · exact rnF_i d (p + 1) i (by omega) h3
    · rw [if_neg c] at h3
      omega
theorem rn_i {P : Nat → Bool} {b : Nat → Nat} {l p i : Nat} (h1 : p ≤ i) (h2 : i < rnX P b l p) : P (b i) = true := rnF_i _ _ _ h1 h2
/-- a text: its signs, its length -/
abbrev Tx : Type := (Nat → Nat) × Nat
def okX (X : Tx) : Prop := X.2 ≤ 600 ∧ ∀ i, X.1 i < 256
def cB (c : Nat) : Bool := decide (c = 10) || decide (c = 32)
def cL (c : Nat) : Bool := decide (97 ≤ c) && decide (c ≤ 122)
def cD (c : Nat) : Bool := decide (48 ≤ c) && decide (c ≤ 57)
theorem cL_n {c : Nat} (h : cL c = true) : 97 ≤ c ∧ c ≤ 122 := by
  unfold cL at h
  rw [Bool.and_eq_true, decide_eq_true_eq, decide_eq_true_eq] at h
  exact h
theorem cD_n {c : Nat} (h : cD c = true) : 48 ≤ c ∧ c ≤ 57 := by
  unfold cD at h
  rw [Bool.and_eq_true, decide_eq_true_eq, decide_eq_true_eq] at h
  exact h
/-- where the token behind p begins, where it stops, what it is: 0 none, 1 a word, 2 a number, 3 the sign, 4 nothing -/
def tS (X : Tx) (p : Nat) : Nat := rnX cB X.1 X.2 p
def tE (X : Tx) (p : Nat) : Nat := if X.2 ≤ tS X p then tS X p else if cL (X.1 (tS X p)) = true then rnX cL X.1 X.2 (tS X p) else if cD (X.1 (tS X p)) = true then rnX cD X.1 X.2 (tS X p) else tS X p + 1
def tK (X : Tx) (p : Nat) : Nat := if X.2 ≤ tS X p then 0 else if cL (X.1 (tS X p)) = true then 1 else if cD (X.1 (tS X p)) = true then (if tE X p - tS X p ≤ 2 then 2 else 4) else if X.1 (tS X p) = 59 then 3 else 4
def vFd (b : Nat → Nat) (s : Nat) : Nat → Nat
  | 0 => 0
  | k + 1 => 10 * vFd b s k + (b (s + k) - 48)
def tV (X : Tx) (p : Nat) : Nat := vFd X.1 (tS X p) (tE X p - tS X p)
theorem tS_b (X : Tx) {p : Nat} (hp : p ≤ X.2) : p ≤ tS X p ∧ tS X p ≤ X.2 := rn_b hp
theorem tE_b (X : Tx) {p : Nat} (hp : p ≤ X.2) : tS X p ≤ tE X p ∧ tE X p ≤ X.2 ∧ (tK X p ≠ 0 → tS X p < tE X p ∧ tS X p < X.2) ∧ (tK X p = 0 → tS X p = X.2 ∧ tE X p = X.2) := by
  have h1 := tS_b X hp
  unfold tK tE
  by_cases c : X.2 ≤ tS X p
  · rw [if_pos c, if_pos c]
    exact ⟨Nat.le_refl _, h1.2, fun h => absurd rfl h, fun _ => ⟨by omega, by omega⟩⟩
  rw [if_neg c, if_neg c]
  by_cases c1 : cL (X.1 (tS X p)) = true
  · rw [if_pos c1, if_pos c1, rn_y (by omega) c1]
    have h2 := rn_b (P := cL) (b := X.1) (l := X.2) (p := tS X p + 1) (by omega)
    exact ⟨by omega, h2.2, fun _ => by omega, fun h => absurd h (by decide)⟩
  rw [if_neg c1, if_neg c1]
  by_cases c2 : cD (X.1 (tS X p)) = true
  · rw [if_pos c2, if_pos c2, rn_y (by omega) c2]
    have h2 := rn_b (P := cD) (b := X.1) (l := X.2) (p := tS X p + 1) (by omega)
    refine ⟨by omega, h2.2, fun _ => by omega, fun h => ?_⟩
    by_cases c3 : rnX cD X.1 X.2 (tS X p + 1) - tS X p ≤ 2
    · rw [if_pos c3] at h
      exact absurd h (by decide)
    · rw [if_neg c3] at h
      exact absurd h (by decide)
  rw [if_neg c2, if_neg c2]
  refine ⟨by omega, by omega, fun _ => by omega, fun h => ?_⟩
  by_cases c3 : X.1 (tS X p) = 59
  · rw [if_pos c3] at h
    exact absurd h (by decide)
  · rw [if_neg c3] at h
    exact absurd h (by decide)
theorem tK_le (X : Tx) (p : Nat) : tK X p ≤ 4 := by
  unfold tK
  repeat' split
  all_goals omega
theorem tK_2 {X : Tx} {p : Nat} (h : tK X p = 2) : ∀ i, i < tE X p - tS X p → cD (X.1 (tS X p + i)) = true := by
  unfold tK at h
  by_cases c : X.2 ≤ tS X p
  · rw [if_pos c] at h
    exact absurd h (by decide)
  rw [if_neg c] at h
  by_cases c1 : cL (X.1 (tS X p)) = true
  · rw [if_pos c1] at h
    exact absurd h (by decide)
  rw [if_neg c1] at h
  by_cases c2 : cD (X.1 (tS X p)) = true
  · intro i hi
    unfold tE at hi
    rw [if_neg c, if_neg c1, if_pos c2] at hi
    exact rn_i (by omega) (show tS X p + i < rnX cD X.1 X.2 (tS X p) by omega)
  · rw [if_neg c2] at h
    by_cases c3 : X.1 (tS X p) = 59
    · rw [if_pos c3] at h
      exact absurd h (by decide)
    · rw [if_neg c3] at h
      exact absurd h (by decide)
theorem tK_2n {X : Tx} {p : Nat} (h : tK X p = 2) : tE X p - tS X p ≤ 2 := by
  unfold tK at h
  by_cases c4 : tE X p - tS X p ≤ 2
  · exact c4
  · rw [if_neg c4] at h
    repeat' split at h
    all_goals exact absurd h (by decide)
theorem tK_1 {X : Tx} {p : Nat} (h : tK X p = 1) : ∀ i, i < tE X p - tS X p → cL (X.1 (tS X p + i)) = true := by
  unfold tK at h
  by_cases c : X.2 ≤ tS X p
  · rw [if_pos c] at h
    exact absurd h (by decide)
  rw [if_neg c] at h
  by_cases c1 : cL (X.1 (tS X p)) = true
  · intro i hi
    unfold tE at hi
    rw [if_neg c, if_pos c1] at hi
    exact rn_i (by omega) (show tS X p + i < rnX cL X.1 X.2 (tS X p) by omega)
  · rw [if_neg c1] at h
    repeat' split at h
    all_goals exact absurd h (by decide)
theorem vF_lt {b : Nat → Nat} {s : Nat} : ∀ k, (∀ i, i < k → cD (b (s + i)) = true) → vFd b s k < 10 ^ k
  | 0, _ => Nat.zero_lt_one
  | k + 1, h => by
    have h1 := vF_lt k (fun i hi => h i (by omega))
    have h2 := cD_n (h k (by omega))
    show 10 * vFd b s k + (b (s + k) - 48) < 10 ^ (k + 1)
    rw [Nat.pow_succ]
    omega
theorem tV_lt {X : Tx} {p : Nat} (h : tK X p = 2) : tV X p < 100 := by
  have h1 := vF_lt _ (tK_2 h)
  have h2 := tK_2n h
  have h3 : 10 ^ (tE X p - tS X p) ≤ 10 ^ 2 := Nat.pow_le_pow_right (by omega) h2
  unfold tV
  omega
/-! the code's -/
def TC (X : Tx) (h : Hp) : Prop := h.1 3 1 = nI X.2 ∧ ∀ i, i < X.2 → h.1 4 i = nI (X.1 i)
theorem kd34 : kd 3 = 8 ∧ kd 4 = 20 ∧ ln 4 = 600 := by decide +kernel
theorem q_byteAt {X : Tx} {h : Hp} (hX : okX X) (T : TC X h) {i : Nat} (hi : i < 2 ^ 31) : T_byteAt h 3 (nI i) = some (if i < X.2 then nI (X.1 i) else jN 1) := by
  obtain ⟨k1, k2, k3⟩ := kd34
  have hl := hX.1
  unfold T_byteAt T_byteAt_j30 T_byteAt_j31
  rw [k1, k2, k3, if_pos rfl, if_neg (show ¬ nI i < 0 from nI_pos hi), T.1]
  by_cases c : i < X.2
  · rw [if_neg (show ¬ nI X.2 ≤ nI i from fun e => by rw [i_le, nI_toInt (by omega), nI_toInt (by omega)] at e; omega), if_pos (by omega), if_neg (show ¬ Int32.ofNat 600 ≤ nI i from fun e => by have e2 : nI 600 ≤ nI i := e; rw [i_le, nI_toInt (by omega), nI_toInt (by omega)] at e2; omega), if_pos ⟨rfl, nI_in (show i < 600 by omega) (by omega)⟩, nI_clamp hi]
    show some (h.1 4 i) = _
    rw [T.2 i c, if_pos c]
  · rw [if_pos (show nI X.2 ≤ nI i by rw [i_le, nI_toInt (by omega), nI_toInt (by omega)]; omega), if_neg c]
    rfl
theorem q_isBlank : ∀ c, c < 256 → R_isBlank (nI c) = some (bI (cB c)) := by decide +kernel
theorem q_isLetter : ∀ c, c < 256 → R_isLetter (nI c) = some (bI (cL c)) := by decide +kernel
theorem q_isDigit : ∀ c, c < 256 → R_isDigit (nI c) = some (bI (cD c)) := by decide +kernel
def CT (X : Tx) (h : Hp) (p : Nat) : Prop := h.1 46 5 = nI (tK X p) ∧ h.1 46 6 = nI (tS X p) ∧ h.1 46 7 = nI (tE X p)
def pTk : Nat → Nat → Prop := fun c i => c = 46 ∧ 5 ≤ i ∧ i ≤ 7
theorem ptk_o {h h' : Hp} (F : Fr pTk h h') : ∀ c i, ¬ (c = 46 ∧ 5 ≤ i ∧ i ≤ 7) → h'.1 c i = h.1 c i := F
theorem tc_fr {X : Tx} {h h' : Hp} (T : TC X h) (o : ∀ c i, c = 3 ∨ c = 4 → h'.1 c i = h.1 c i) : TC X h' := ⟨by rw [o _ _ (by omega), T.1], fun i hi => by rw [o _ _ (by omega), T.2 i hi]⟩
theorem tc_tk {X : Tx} {h h' : Hp} (T : TC X h) (F : Fr pTk h h') : TC X h' := tc_fr T (fun c i hc => ptk_o F c i (by omega))
theorem q_sj52 {X : Tx} {h z : Hp} (hX : okX X) (T : TC X h) {p : Nat} (hp : p ≤ X.2) (F : Fr pTk h z) (h6 : z.1 46 6 = nI (tS X p)) : Okk (R_step_j52 z) (fun h' => CT X h' p ∧ Fr pTk h h') := by
  have hl := hX.1
  have hb := hX.2
  have hs := tS_b X hp
  have T2 := tc_tk T F
  have F1 : Fr pTk h (wr z 46 7 (nI (tS X p))) := fr_tr F (fr_wr (show 46 = 46 ∧ 5 ≤ 7 ∧ 7 ≤ 7 by omega))
  have T3 := tc_tk T F1
  have nl : ∀ i, i < 2 ^ 30 → (nI X.2 ≤ nI i ↔ X.2 ≤ i) := fun i hi => by rw [i_le, nI_toInt (by omega), nI_toInt (by omega)]; omega
  unfold R_step_j52 R_step_j238 R_step_j251
  rw [h6, q_byteAt hX T2 (show tS X p < 2 ^ 31 by omega), sb, bnd_eq]
  have e6 : (wr z 46 7 (nI (tS X p))).1 46 6 = nI (tS X p) := by rw [wr_p _ _ _ _ (by omega), h6]
  have e31 : (wr z 46 7 (nI (tS X p))).1 3 1 = nI X.2 := T3.1
  rw [e6, e31]
  by_cases c : tS X p < X.2
  case neg =>
    have ek : tK X p = 0 := if_pos (by omega)
    have ee : tE X p = tS X p := if_pos (by omega)
    rw [if_neg (show ¬ nI (tS X p) < nI X.2 from fun e => by rw [i_lt, nI_toInt (by omega), nI_toInt (by omega)] at e; omega), bnd_eq]
    refine ok_mk ⟨⟨?_, ?_, ?_⟩, fr_tr F1 (fr_wr (show 46 = 46 ∧ 5 ≤ 5 ∧ 5 ≤ 7 by omega))⟩
    · rw [wr_at, ek]; rfl
    · rw [wr_p _ _ _ _ (by omega), e6]
    · rw [wr_p _ _ _ _ (by omega), wr_at, ee]
  rw [if_pos (show nI (tS X p) < nI X.2 by rw [i_lt, nI_toInt (by omega), nI_toInt (by omega)]; omega), if_pos c, q_isLetter _ (hb _), sb, bI_it0]
  have eK : tK X p = if cL (X.1 (tS X p)) = true then 1 else if cD (X.1 (tS X p)) = true then (if tE X p - tS X p ≤ 2 then 2 else 4) else if X.1 (tS X p) = 59 then 3 else 4 := if_neg (by omega)
  have eE : tE X p = if cL (X.1 (tS X p)) = true then rnX cL X.1 X.2 (tS X p) else if cD (X.1 (tS X p)) = true then rnX cD X.1 X.2 (tS X p) else tS X p + 1 := if_neg (by omega)
  by_cases c1 : cL (X.1 (tS X p)) = true
  · rw [if_pos c1] at eK eE ⊢
    rw [bnd_eq]
    unfold R_step_l106
    refine lp_ms _ (fun z => X.2 - (z.1 46 7).toNatClampNeg) (fun z => ∃ i, tS X p ≤ i ∧ i ≤ X.2 ∧ z.1 46 7 = nI i ∧ tE X p = rnX cL X.1 X.2 i ∧ z.1 46 5 = nI 1 ∧ z.1 46 6 = nI (tS X p) ∧ Fr pTk h z) _ ?_ _ ⟨tS X p, Nat.le_refl _, hs.2, ?_, eE, wr_at _ _ _ _, ?_, fr_tr F1 (fr_wr (show 46 = 46 ∧ 5 ≤ 5 ∧ 5 ≤ 7 by omega))⟩
    · rintro y ⟨i, i1, i2, i3, i4, i5, i6, Fy⟩
      have Ty := tc_tk T Fy
      have fin : tE X p = i → Okk ((some y : Option Hp).map Sum.inr) (Sum.elim (fun s' => (∃ i, tS X p ≤ i ∧ i ≤ X.2 ∧ s'.1 46 7 = nI i ∧ tE X p = rnX cL X.1 X.2 i ∧ s'.1 46 5 = nI 1 ∧ s'.1 46 6 = nI (tS X p) ∧ Fr pTk h s') ∧ X.2 - (s'.1 46 7).toNatClampNeg < X.2 - (y.1 46 7).toNatClampNeg) (fun h' => CT X h' p ∧ Fr pTk h h')) := fun e => okmr (ok_mk ⟨⟨by rw [i5, eK], i6, by rw [i3, e]⟩, Fy⟩)
      unfold R_step_b106 R_step_j251
      rw [i3, Ty.1]
      by_cases d : X.2 ≤ i
      · rw [if_pos ((nl i (by omega)).mpr d)]
        rw [i3] at fin
        exact fin (by rw [i4, rn_ge d])
      rw [if_neg (fun e => d ((nl i (by omega)).mp e)), q_byteAt hX Ty (show i < 2 ^ 31 by omega), sb, if_pos (by omega), q_isLetter _ (hb _), sb, bI_it0]
      by_cases d2 : cL (X.1 i) = true
      · rw [if_pos d2, bnd_eq, show nI i + (1 : Int32) = nI (i + 1) from nI_add _ _]
        refine ok_mk ⟨⟨i + 1, by omega, by omega, wr_at _ _ _ _, by rw [i4, rn_y (by omega) d2], by rw [wr_p _ _ _ _ (by omega), i5], by rw [wr_p _ _ _ _ (by omega), i6], fr_tr Fy (fr_wr (show 46 = 46 ∧ 5 ≤ 7 ∧ 7 ≤ 7 by omega))⟩, ?_⟩
        rw [wr_at, nI_clamp (show i + 1 < 2 ^ 31 by omega), nI_clamp (show i < 2 ^ 31 by omega)]
        omega
      · rw [if_neg d2]
        rw [i3] at fin
        exact fin (by rw [i4, rn_n (eq_false_of_ne_true d2)])
    · rw [wr_p _ _ _ _ (by omega), wr_at]
    · rw [wr_p _ _ _ _ (by omega), e6]
  rw [if_neg c1] at eK eE ⊢
  rw [q_isDigit _ (hb _), sb, bI_it0]
  by_cases c2 : cD (X.1 (tS X p)) = true
  · rw [if_pos c2] at eK eE ⊢
    unfold R_step_l157
    refine lp_ms _ (fun z => X.2 - (z.1 46 7).toNatClampNeg) (fun z => ∃ i, tS X p ≤ i ∧ i ≤ X.2 ∧ z.1 46 7 = nI i ∧ tE X p = rnX cD X.1 X.2 i ∧ z.1 46 6 = nI (tS X p) ∧ Fr pTk h z) _ ?_ _ ⟨tS X p, Nat.le_refl _, hs.2, wr_at _ _ _ _, eE, e6, F1⟩
    rintro y ⟨i, i1, i2, i3, i4, i6, Fy⟩
    have Ty := tc_tk T Fy
    have fin : tE X p = i → Okk ((R_step_j201 y).map Sum.inr) (Sum.elim (fun s' => (∃ i, tS X p ≤ i ∧ i ≤ X.2 ∧ s'.1 46 7 = nI i ∧ tE X p = rnX cD X.1 X.2 i ∧ s'.1 46 6 = nI (tS X p) ∧ Fr pTk h s') ∧ X.2 - (s'.1 46 7).toNatClampNeg < X.2 - (nI i).toNatClampNeg) (fun h' => CT X h' p ∧ Fr pTk h h')) := fun e => by
      refine okmr ?_
      unfold R_step_j201 R_step_j220 R_step_j251
      rw [i3, i6, pk_sub (by omega)]
      rw [e] at eK
      by_cases d : i - tS X p ≤ 2
      · rw [if_pos d] at eK
        rw [if_neg (show ¬ (2 : Int32) < nI (i - tS X p) from fun e => by have := (nI_ltI (a := 2) (by omega) (by omega)).mp e; omega), bnd_eq]
        exact ok_mk ⟨⟨by rw [wr_at, eK]; rfl, by rw [wr_p _ _ _ _ (by omega), i6], by rw [wr_p _ _ _ _ (by omega), i3, e]⟩, fr_tr Fy (fr_wr (show 46 = 46 ∧ 5 ≤ 5 ∧ 5 ≤ 7 by omega))⟩
      · rw [if_neg d] at eK
        rw [if_pos (show (2 : Int32) < nI (i - tS X p) from (nI_ltI (a := 2) (by omega) (by omega)).mpr (by omega)), bnd_eq]
        exact ok_mk ⟨⟨by rw [wr_at, eK]; rfl, by rw [wr_p _ _ _ _ (by omega), i6], by rw [wr_p _ _ _ _ (by omega), i3, e]⟩, fr_tr Fy (fr_wr (show 46 = 46 ∧ 5 ≤ 5 ∧ 5 ≤ 7 by omega))⟩
    unfold R_step_b157
    rw [i3, Ty.1]
    by_cases d : X.2 ≤ i
    · rw [if_pos ((nl i (by omega)).mpr d)]
      exact fin (by rw [i4, rn_ge d])
    rw [if_neg (fun e => d ((nl i (by omega)).mp e)), q_byteAt hX Ty (show i < 2 ^ 31 by omega), sb, if_pos (by omega), q_isDigit _ (hb _), sb, bI_it0]
    by_cases d2 : cD (X.1 i) = true
    · rw [if_pos d2, bnd_eq, show nI i + (1 : Int32) = nI (i + 1) from nI_add _ _]
      refine ok_mk ⟨⟨i + 1, by omega, by omega, wr_at _ _ _ _, by rw [i4, rn_y (by omega) d2], by rw [wr_p _ _ _ _ (by omega), i6], fr_tr Fy (fr_wr (show 46 = 46 ∧ 5 ≤ 7 ∧ 7 ≤ 7 by omega))⟩, ?_⟩
      rw [wr_at, nI_clamp (show i + 1 < 2 ^ 31 by omega), nI_clamp (show i < 2 ^ 31 by omega)]
      omega
    · rw [if_neg d2]
      exact fin (by rw [i4, rn_n (eq_false_of_ne_true d2)])
  rw [if_neg c2] at eK eE ⊢
  have e59 : nI (X.1 (tS X p)) = (59 : Int32) ↔ X.1 (tS X p) = 59 := nI_eq (b := 59) (by have := hb (tS X p); omega) (by omega)
  have last : ∀ k, tK X p = k → Okk (bnd (wr (wr z 46 7 (nI (tS X p))) 46 5 (nI k)) fun h1 => bnd (wr h1 46 7 ((h1.1 46 7) + (1 : Int32))) fun h2 => (some h2 : Option Hp)) (fun h' => CT X h' p ∧ Fr pTk h h') := fun k hk => by
    rw [bnd_eq, bnd_eq, wr_p _ _ _ _ (show 7 ≠ 5 by omega), wr_at, show nI (tS X p) + (1 : Int32) = nI (tS X p + 1) from nI_add _ _]
    exact ok_mk ⟨⟨by rw [wr_p _ _ _ _ (by omega), wr_at, hk], by rw [wr_p _ _ _ _ (by omega), wr_p _ _ _ _ (by omega), e6], by rw [wr_at, eE]⟩, fr_tr (fr_tr F1 (fr_wr (show 46 = 46 ∧ 5 ≤ 5 ∧ 5 ≤ 7 by omega))) (fr_wr (show 46 = 46 ∧ 5 ≤ 7 ∧ 7 ≤ 7 by omega))⟩
  by_cases c3 : X.1 (tS X p) = 59
  · rw [if_pos c3] at eK
    rw [if_pos (e59.mpr c3)]
    exact last 3 eK
  · rw [if_neg c3] at eK
    rw [if_neg (fun e => c3 (e59.mp e))]
    exact last 4 eK
theorem q_step {X : Tx} {h : Hp} (hX : okX X) (T : TC X h) {p : Nat} (hp : p ≤ X.2) (h7 : h.1 46 7 = nI p) : Okk (R_step h) (fun h' => CT X h' p ∧ Fr pTk h h') := by
  have hl := hX.1
  have hb := hX.2
  unfold R_step R_step_l8
  rw [bnd_eq, h7]
  refine lp_ms _ (fun z => X.2 - (z.1 46 6).toNatClampNeg) (fun z => ∃ i, p ≤ i ∧ i ≤ X.2 ∧ z.1 46 6 = nI i ∧ tS X p = rnX cB X.1 X.2 i ∧ Fr pTk h z) _ ?_ _ ⟨p, Nat.le_refl _, hp, wr_at _ _ _ _, rfl, fr_wr (show 46 = 46 ∧ 5 ≤ 6 ∧ 6 ≤ 7 by omega)⟩
  rintro z ⟨i, i1, i2, i3, i4, F⟩
  have T2 := tc_tk T F
  unfold R_step_b8
  rw [i3, T2.1]
  by_cases c : X.2 ≤ i
  · rw [if_pos (show nI X.2 ≤ nI i by rw [i_le, nI_toInt (by omega), nI_toInt (by omega)]; omega)]
    exact okmr (q_sj52 hX T hp F (by rw [i3, i4, rn_ge c]))
  rw [if_neg (show ¬ nI X.2 ≤ nI i from fun e => by rw [i_le, nI_toInt (by omega), nI_toInt (by omega)] at e; omega), q_byteAt hX T2 (show i < 2 ^ 31 by omega), sb, if_pos (by omega), q_isBlank _ (hb _), sb, bI_it0]
  by_cases c2 : cB (X.1 i) = true
  · rw [if_pos c2, bnd_eq, show nI i + (1 : Int32) = nI (i + 1) from nI_add _ _]
    refine ok_mk ⟨⟨i + 1, by omega, by omega, wr_at _ _ _ _, by rw [i4, rn_y (by omega) c2], fr_tr F (fr_wr (show 46 = 46 ∧ 5 ≤ 6 ∧ 6 ≤ 7 by omega))⟩, ?_⟩
    rw [wr_at, nI_clamp (show i + 1 < 2 ^ 31 by omega), nI_clamp (show i < 2 ^ 31 by omega)]
    omega
  · rw [if_neg c2]
    exact okmr (q_sj52 hX T hp F (by rw [i3, i4, rn_n (eq_false_of_ne_true c2)]))
