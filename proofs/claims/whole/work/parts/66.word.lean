/-! ===== L3: texts: words ===== -/
theorem lgc (x y : Int64) : lg_cmp x y = 0 ↔ x = y := by
  unfold lg_cmp
  by_cases c : x = y
  · subst c
    rw [if_neg (show ¬ x > x from fun e => Int64.lt_irrefl e), if_pos rfl]
    exact ⟨fun _ => rfl, fun _ => rfl⟩
  · by_cases d : x > y
    · rw [if_pos d]
      exact ⟨fun e => absurd e (by decide +kernel), fun e => absurd e c⟩
    · rw [if_neg d, if_neg c]
      exact ⟨fun e => absurd e (by decide +kernel), fun e => absurd e c⟩
def cn (i j : Nat) : Nat := ((SBYT.getD i []).getD j 0).toNatClampNeg
def slN (i : Nat) : Nat := SLEN.getD i 0
theorem cn_b : ∀ i, i < 16 → 1 ≤ slN i ∧ slN i ≤ 7 ∧ ∀ j, j < slN i → (SBYT.getD i []).getD j 0 = nI (cn i j) ∧ 1 ≤ cn i j ∧ cn i j < 256 := by decide +kernel
/-- whether the token spells the word -/
def spl (X : Tx) (p i : Nat) : Bool := decide (tE X p - tS X p = slN i) && alB (fun j => decide (X.1 (tS X p + j) = cn i j)) (slN i)
theorem q_spells {X : Tx} {h : Hp} (hX : okX X) (T : TC X h) {p : Nat} (hp : p ≤ X.2) (K : CT X h p) {i : Nat} (hi : i < 16) : R_spells h (400 + i) = some (bI (spl X p i)) := by
  obtain ⟨k5, k6, k7⟩ := K
  have hl := hX.1
  have hb := hX.2
  have hE := tE_b X hp
  obtain ⟨c1, c2, c3⟩ := cn_b i hi
  have hi' : 400 ≤ 400 + i ∧ 400 + i < 416 := by omega
  have e1 : str_len (400 + i) = some (nI (slN i)) := by
    unfold str_len
    rw [if_pos hi', show 400 + i - 400 = i by omega]
    rfl
  unfold R_spells
  rw [if_pos hi', e1, sb, k6, k7, pk_sub (by omega)]
  unfold spl
  by_cases d : tE X p - tS X p = slN i
  case neg =>
    rw [if_neg (fun e => d ((nI_eq (by omega) (by omega)).mp e)), decide_eq_false d, Bool.false_and]
    rfl
  rw [if_pos (show nI (tE X p - tS X p) = nI (slN i) by rw [d]), decide_eq_true d, Bool.true_and]
  apply ok_to
  unfold R_spells_l20
  refine lp_for _ (slN i) (fun j z => z = nI j ∧ alB (fun j => decide (X.1 (tS X p + j) = cn i j)) j = true) _ ?_ ?_ 0 _ (by omega) ⟨rfl, rfl⟩
  · rintro j z hj ⟨rfl, hA⟩
    obtain ⟨y1, y2, y3⟩ := c3 j hj
    unfold R_spells_b20 R_spells_j49
    have e2 : str_at (400 + i) (nI j) = some (nI (cn i j)) := by
      unfold str_at
      rw [show 400 + i - 400 = i by omega, if_pos ⟨hi', nI_in (show j < SLEN.getD i 0 from hj) (by have : SLEN.getD i 0 = slN i := rfl; omega)⟩, nI_clamp (show j < 2 ^ 31 by omega)]
      exact congrArg some y1
    rw [if_pos hi', e1, sb, if_neg (show ¬ nI (slN i) ≤ nI j from fun e => by rw [i_le, nI_toInt (by omega), nI_toInt (by omega)] at e; omega), k6, nI_add, q_byteAt hX T (show tS X p + j < 2 ^ 31 by omega), sb, if_pos hi', e2, sb, if_pos (show tS X p + j < X.2 by omega), bnd_eq, show nI j + (1 : Int32) = nI (j + 1) from nI_add _ _]
    have ea : alB (fun j => decide (X.1 (tS X p + j) = cn i j)) (j + 1) = (alB (fun j => decide (X.1 (tS X p + j) = cn i j)) j && decide (X.1 (tS X p + j) = cn i j)) := rfl
    by_cases e : X.1 (tS X p + j) = cn i j
    · rw [if_pos (show nI (X.1 (tS X p + j)) = nI (cn i j) by rw [e])]
      exact ok_mk ⟨rfl, by rw [ea, hA, decide_eq_true e]; rfl⟩
    · rw [if_neg (fun e2 => e ((nI_eq (by have := hb (tS X p + j); omega) (by omega)).mp e2))]
      refine okmr (ok_mk ?_)
      rw [alB_f (k := j) (decide_eq_false e) _ hj]
      rfl
  · rintro z ⟨rfl, hA⟩
    unfold R_spells_b20 R_spells_j57
    rw [if_pos hi', e1, sb, if_pos (show nI (slN i) ≤ nI (slN i) by rw [i_le]; omega)]
    refine okmr (ok_mk ?_)
    rw [hA]
    rfl
def spk (X : Tx) (p i : Nat) : Bool := decide (tK X p = 1) && spl X p i
/-- the keyword of a line: 9 if there is none -/
def kwd (s : Nat) (X : Tx) (p : Nat) : Nat := if s = 0 then (if spk X p 0 = true then 0 else if spk X p 1 = true then 1 else if spk X p 2 = true then 2 else if spk X p 3 = true then 3 else 9) else if s = 1 then (if spk X p 4 = true then 0 else if spk X p 5 = true then 1 else if spk X p 6 = true then 2 else if spk X p 7 = true then 3 else if spk X p 8 = true then 4 else if spk X p 9 = true then 5 else 9) else if s = 2 then (if spk X p 10 = true then 0 else if spk X p 11 = true then 1 else if spk X p 12 = true then 2 else if spk X p 13 = true then 3 else 9) else (if spk X p 14 = true then 0 else if spk X p 15 = true then 1 else 9)
def vK (k : Nat) : Int32 := if k = 9 then jN 1 else nI k
theorem q_keyword {X : Tx} {h : Hp} (hX : okX X) (T : TC X h) {p : Nat} (hp : p ≤ X.2) (K : CT X h p) (hk : tK X p = 1) {s : Nat} (hs : s < 4) : R_keyword h (nI s) = some (vK (kwd s X p)) := by
  have e : ∀ i, i < 16 → R_spells h (400 + i) = some (bI (spk X p i)) := fun i hi => by
    rw [q_spells hX T hp K hi]
    unfold spk
    rw [decide_eq_true hk, Bool.true_and]
  have e0 : R_spells h 400 = some (bI (spk X p 0)) := e 0 (by omega)
  have e1 : R_spells h 401 = some (bI (spk X p 1)) := e 1 (by omega)
  have e2 : R_spells h 402 = some (bI (spk X p 2)) := e 2 (by omega)
  have e3 : R_spells h 403 = some (bI (spk X p 3)) := e 3 (by omega)
  have e4 : R_spells h 404 = some (bI (spk X p 4)) := e 4 (by omega)
  have e5 : R_spells h 405 = some (bI (spk X p 5)) := e 5 (by omega)
  have e6 : R_spells h 406 = some (bI (spk X p 6)) := e 6 (by omega)
  have e7 : R_spells h 407 = some (bI (spk X p 7)) := e 7 (by omega)
  have e8 : R_spells h 408 = some (bI (spk X p 8)) := e 8 (by omega)
  have e9 : R_spells h 409 = some (bI (spk X p 9)) := e 9 (by omega)
  have e10 : R_spells h 410 = some (bI (spk X p 10)) := e 10 (by omega)
  have e11 : R_spells h 411 = some (bI (spk X p 11)) := e 11 (by omega)
  have e12 : R_spells h 412 = some (bI (spk X p 12)) := e 12 (by omega)
  have e13 : R_spells h 413 = some (bI (spk X p 13)) := e 13 (by omega)
  have e14 : R_spells h 414 = some (bI (spk X p 14)) := e 14 (by omega)
  have e15 : R_spells h 415 = some (bI (spk X p 15)) := e 15 (by omega)
  unfold R_keyword kwd R_keyword_j81 R_keyword_j161 R_keyword_j215 R_keyword_j243
  rw [e0, e1, e2, e3, e4, e5, e6, e7, e8, e9, e10, e11, e12, e13, e14, e15]
  rcases s with _ | _ | _ | s
  · rw [if_pos (show nI 0 = (0 : Int32) from rfl), if_pos rfl]
    simp only [sb, bI_it0]
    cases spk X p 0 <;> cases spk X p 1 <;> cases spk X p 2 <;> cases spk X p 3 <;> rfl
  · rw [if_neg (show ¬ nI (0 + 1) = (0 : Int32) by decide +kernel), if_pos (show nI (0 + 1) = (1 : Int32) from rfl), if_neg (show ¬ 0 + 1 = 0 by omega), if_pos rfl]
    simp only [sb, bI_it0]
    cases spk X p 4 <;> cases spk X p 5 <;> cases spk X p 6 <;> cases spk X p 7 <;> cases spk X p 8 <;> cases spk X p 9 <;> rfl
  · rw [if_neg (show ¬ nI (0 + 1 + 1) = (0 : Int32) by decide +kernel), if_neg (show ¬ nI (0 + 1 + 1) = (1 : Int32) by decide +kernel), if_pos (show nI (0 + 1 + 1) = (2 : Int32) from rfl), if_neg (show ¬ 0 + 1 + 1 = 0 by omega), if_neg (show ¬ 0 + 1 + 1 = 1 by omega), if_pos rfl]
    simp only [sb, bI_it0]
    cases spk X p 10 <;> cases spk X p 11 <;> cases spk X p 12 <;> cases spk X p 13 <;> rfl
  · rw [if_neg (show ¬ nI (s + 1 + 1 + 1) = (0 : Int32) from ne_nI (b := 0) (by omega) (by omega) (by omega)), if_neg (show ¬ nI (s + 1 + 1 + 1) = (1 : Int32) from ne_nI (b := 1) (by omega) (by omega) (by omega)), if_neg (show ¬ nI (s + 1 + 1 + 1) = (2 : Int32) from ne_nI (b := 2) (by omega) (by omega) (by omega)), if_neg (show ¬ s + 1 + 1 + 1 = 0 by omega), if_neg (show ¬ s + 1 + 1 + 1 = 1 by omega), if_neg (show ¬ s + 1 + 1 + 1 = 2 by omega)]
    simp only [sb, bI_it0]
    cases spk X p 14 <;> cases spk X p 15 <;> rfl
/-! the model's words -/
def wN (f : Nat → Nat) : Nat → Nat
  | 0 => 0
  | k + 1 => wN f k * 256 + f k
theorem wN_lt {f : Nat → Nat} : ∀ k, (∀ i, i < k → f i < 256) → wN f k < 256 ^ k
  | 0, _ => Nat.zero_lt_one
  | k + 1, h => by
    have h1 := wN_lt k (fun i hi => h i (by omega))
    have h2 := h k (by omega)
    show wN f k * 256 + f k < 256 ^ (k + 1)
    rw [Nat.pow_succ]
    omega
theorem wN_inj {f g : Nat → Nat} : ∀ k m, (∀ i, i < k → 1 ≤ f i ∧ f i < 256) → (∀ i, i < m → 1 ≤ g i ∧ g i < 256) → wN f k = wN g m → k = m ∧ ∀ i, i < k → f i = g i
  | 0, 0, _, _, _ => ⟨rfl, fun i hi => absurd hi (by omega)⟩
  | 0, m + 1, _, hg, e => by
    have h1 := hg m (by omega)
    have e2 : 0 = wN g m * 256 + g m := e
    omega
  | k + 1, 0, hf, _, e => by
    have h1 := hf k (by omega)
    have e2 : wN f k * 256 + f k = 0 := e
    omega
  | k + 1, m + 1, hf, hg, e => by
    have h1 := hf k (by omega)
    have h2 := hg m (by omega)
    have e2 : wN f k * 256 + f k = wN g m * 256 + g m := e
    obtain ⟨r1, r2⟩ := wN_inj k m (fun i hi => hf i (by omega)) (fun i hi => hg i (by omega)) (by omega)
    refine ⟨by omega, fun i hi => ?_⟩
    by_cases c : i = k
    · subst c
      subst r1
      omega
    · exact r2 i (by omega)
theorem l_sh (a : Nat) {c : Nat} (ha : a < 2 ^ 56) (hc : c < 256) : (Int64.ofNat a <<< (Int32.toInt64 (8 : Int32) &&& 63)) ||| Int32.toInt64 (nI c) = Int64.ofNat (a * 256 + c) := by
  have e1 : (Int32.toInt64 (nI c)).toBitVec = BitVec.ofNat 64 c := (by decide +kernel : ∀ c, c < 256 → (Int32.toInt64 (nI c)).toBitVec = BitVec.ofNat 64 c) c hc
  have e2 : (Int64.ofNat a <<< (Int32.toInt64 (8 : Int32) &&& 63)).toBitVec = (Int64.ofNat a).toBitVec <<< (8 : Nat) := rfl
  apply Int64.toBitVec_inj.mp
  rw [Int64.toBitVec_or, e1, e2]
  show (BitVec.ofNat 64 a <<< (8 : Nat)) ||| BitVec.ofNat 64 c = BitVec.ofNat 64 (a * 256 + c)
  apply BitVec.eq_of_toNat_eq
  rw [BitVec.toNat_or, BitVec.toNat_shiftLeft, BitVec.toNat_ofNat, BitVec.toNat_ofNat, BitVec.toNat_ofNat, Nat.mod_eq_of_lt (show a < 2 ^ 64 by omega), Nat.mod_eq_of_lt (show c < 2 ^ 64 by omega), Nat.mod_eq_of_lt (show a * 256 + c < 2 ^ 64 by omega)]
  have e3 : a <<< 8 = a * 256 := by rw [Nat.shiftLeft_eq]
  rw [Nat.mod_eq_of_lt (show a <<< 8 < 2 ^ 64 by omega), ← Nat.shiftLeft_add_eq_or_of_lt (show c < 2 ^ 8 by omega), e3]
theorem wFd_n {b : Nat → Nat} {s : Nat} (hb : ∀ i, b i < 256) : ∀ k, k ≤ 8 → wFd b s k = Int64.ofNat (wN (fun j => b (s + j)) k)
  | 0, _ => rfl
  | k + 1, hk => by
    have h1 := wN_lt (f := fun j => b (s + j)) k (fun i _ => hb _)
    have h2 : 256 ^ k ≤ 256 ^ 7 := Nat.pow_le_pow_right (by omega) (by omega)
    have h3 : (256 : Nat) ^ 7 = 2 ^ 56 := by decide
    show (wFd b s k <<< (Int32.toInt64 (8 : Int32) &&& 63)) ||| Int32.toInt64 (nI (b (s + k))) = Int64.ofNat (wN (fun j => b (s + j)) k * 256 + b (s + k))
    rw [wFd_n hb k (by omega), l_sh _ (by omega) (hb _)]
theorem l_inj {a c : Nat} (ha : a < 2 ^ 64) (hc : c < 2 ^ 64) (e : Int64.ofNat a = Int64.ofNat c) : a = c := by
  have e1 : BitVec.ofNat 64 a = BitVec.ofNat 64 c := congrArg Int64.toBitVec e
  have e2 := congrArg BitVec.toNat e1
  rw [BitVec.toNat_ofNat, BitVec.toNat_ofNat, Nat.mod_eq_of_lt ha, Nat.mod_eq_of_lt hc] at e2
  exact e2
def WC (i : Nat) : Int64 := Int64.ofNat (wN (cn i) (slN i))
theorem WC_b : ∀ i, i < 16 → WC i ≠ 0 := by decide +kernel
theorem WC_l : (499850046565 : Int64) = WC 0 ∧ (113753910899827 : Int64) = WC 1 ∧ (31935733760681324 : Int64) = WC 2 ∧ (1819244133 : Int64) = WC 3 ∧ (7563636 : Int64) = WC 4 ∧ (7561593 : Int64) = WC 5 ∧ (474214787188 : Int64) = WC 6 ∧ (495589684578 : Int64) = WC 7 ∧ (1785686382 : Int64) = WC 8 ∧ (495807392116 : Int64) = WC 9 ∧ (1751474546 : Int64) = WC 10 ∧ (1936225646 : Int64) = WC 11 ∧ (418497262196 : Int64) = WC 12 ∧ (108187867505765 : Int64) = WC 13 ∧ (448377483876 : Int64) = WC 14 ∧ (32485536600843109 : Int64) = WC 15 := by decide +kernel
theorem WC_ne : ∀ i, i < 16 → ∀ j, j < 16 → (WC i = WC j ↔ i = j) := by decide +kernel
theorem tW_eq {X : Tx} (hX : okX X) {p : Nat} (hk : tK X p = 1) {i : Nat} (hi : i < 16) : tW X p = WC i ↔ spl X p i = true := by
  have hb := hX.2
  have hL := tK_1 hk
  obtain ⟨c1, c2, c3⟩ := cn_b i hi
  unfold tW spl
  by_cases d : tE X p - tS X p ≤ 8
  · rw [if_pos d, wFd_n hb _ d, Bool.and_eq_true, decide_eq_true_eq, alB_t]
    have h1 := wN_lt (f := fun j => X.1 (tS X p + j)) (tE X p - tS X p) (fun i _ => hb _)
    have h2 : 256 ^ (tE X p - tS X p) ≤ 256 ^ 8 := Nat.pow_le_pow_right (by omega) d
    have h3 : (256 : Nat) ^ 8 = 2 ^ 64 := by decide
    have h4 := wN_lt (f := cn i) (slN i) (fun j hj => (c3 j hj).2.2)
    have h5 : 256 ^ slN i ≤ 256 ^ 8 := Nat.pow_le_pow_right (by omega) (by omega)
    constructor
    · intro e
      have e1 := l_inj (by omega) (by omega) e
      obtain ⟨r1, r2⟩ := wN_inj _ _ (fun j hj => ⟨by have := cL_n (hL j hj); omega, hb _⟩) (fun j hj => (c3 j hj).2) e1
      exact ⟨r1, fun j hj => decide_eq_true (r2 j (by omega))⟩
    · rintro ⟨r1, r2⟩
      show Int64.ofNat (wN (fun j => X.1 (tS X p + j)) (tE X p - tS X p)) = Int64.ofNat (wN (cn i) (slN i))
      rw [r1]
      refine congrArg Int64.ofNat ?_
      have key : ∀ k, k ≤ slN i → wN (fun j => X.1 (tS X p + j)) k = wN (cn i) k := by
        intro k
        induction k with
        | zero => exact fun _ => rfl
        | succ k ih =>
          intro hk'
          have := r2 k (by omega)
          rw [decide_eq_true_eq] at this
          show wN (fun j => X.1 (tS X p + j)) k * 256 + X.1 (tS X p + k) = wN (cn i) k * 256 + cn i k
          rw [ih (by omega), this]
      exact key _ (Nat.le_refl _)
  · rw [if_neg d, decide_eq_false (by omega), Bool.false_and]
    exact ⟨fun e => absurd e.symm (WC_b i hi), fun e => absurd e (by decide)⟩
/-- the word that the model has for a line -/
def xw (X : Tx) (p : Nat) : Int64 := if tK X p = 1 then tW X p else 0
theorem xw_eq {X : Tx} (hX : okX X) (p : Nat) {i : Nat} (hi : i < 16) : xw X p = WC i ↔ spk X p i = true := by
  unfold xw spk
  by_cases c : tK X p = 1
  · rw [if_pos c, decide_eq_true c, Bool.true_and]
    exact tW_eq hX c hi
  · rw [if_neg c, decide_eq_false c, Bool.false_and]
    exact ⟨fun e => absurd e.symm (WC_b i hi), fun e => absurd e (by decide)⟩
def kB (s : Nat) : Nat := if s = 0 then 0 else if s = 1 then 4 else if s = 2 then 10 else 14
def kN (s : Nat) : Nat := if s = 0 then 4 else if s = 1 then 6 else if s = 2 then 4 else 2
theorem kwd_s {s : Nat} (hs : s < 4) (X : Tx) (p : Nat) : (kwd s X p = 9 ∧ ∀ i, i < kN s → spk X p (kB s + i) = false) ∨ (kwd s X p < kN s ∧ spk X p (kB s + kwd s X p) = true) := by
  unfold kwd
  rcases s with _ | _ | _ | s
  · rw [if_pos rfl]
    show (_ ∧ ∀ i, i < 4 → spk X p (0 + i) = false) ∨ (_ < 4 ∧ spk X p (0 + _) = true)
    cases e0 : spk X p 0
    case true => exact Or.inr ⟨by rw [if_pos rfl]; omega, by rw [if_pos rfl]; exact e0⟩
    rw [if_neg (by decide)]
    cases e1 : spk X p 1
    case true => exact Or.inr ⟨by rw [if_pos rfl]; omega, by rw [if_pos rfl]; exact e1⟩
    rw [if_neg (by decide)]
    cases e2 : spk X p 2
    case true => exact Or.inr ⟨by rw [if_pos rfl]; omega, by rw [if_pos rfl]; exact e2⟩
    rw [if_neg (by decide)]
    cases e3 : spk X p 3
    case true => exact Or.inr ⟨by rw [if_pos rfl]; omega, by rw [if_pos rfl]; exact e3⟩
    rw [if_neg (by decide)]
    refine Or.inl ⟨rfl, fun i hi => ?_⟩
    rcases i with _ | _ | _ | _ | i
    · exact e0
    · exact e1
    · exact e2
    · exact e3
    · omega
  · rw [if_neg (show ¬ 0 + 1 = 0 by omega), if_pos rfl]
    show (_ ∧ ∀ i, i < 6 → spk X p (4 + i) = false) ∨ (_ < 6 ∧ spk X p (4 + _) = true)
    cases e0 : spk X p 4
    case true => exact Or.inr ⟨by rw [if_pos rfl]; omega, by rw [if_pos rfl]; exact e0⟩
    rw [if_neg (by decide)]
    cases e1 : spk X p 5
    case true => exact Or.inr ⟨by rw [if_pos rfl]; omega, by rw [if_pos rfl]; exact e1⟩
    rw [if_neg (by decide)]
    cases e2 : spk X p 6
    case true => exact Or.inr ⟨by rw [if_pos rfl]; omega, by rw [if_pos rfl]; exact e2⟩
    rw [if_neg (by decide)]
    cases e3 : spk X p 7
    case true => exact Or.inr ⟨by rw [if_pos rfl]; omega, by rw [if_pos rfl]; exact e3⟩
    rw [if_neg (by decide)]
    cases e4 : spk X p 8
    case true => exact Or.inr ⟨by rw [if_pos rfl]; omega, by rw [if_pos rfl]; exact e4⟩
    rw [if_neg (by decide)]
    cases e5 : spk X p 9
    case true => exact Or.inr ⟨by rw [if_pos rfl]; omega, by rw [if_pos rfl]; exact e5⟩
    rw [if_neg (by decide)]
    refine Or.inl ⟨rfl, fun i hi => ?_⟩
    rcases i with _ | _ | _ | _ | _ | _ | i
    · exact e0
    · exact e1
    · exact e2
    · exact e3
    · exact e4
    · exact e5
    · omega
  · rw [if_neg (show ¬ 0 + 1 + 1 = 0 by omega), if_neg (show ¬ 0 + 1 + 1 = 1 by omega), if_pos rfl]
    show (_ ∧ ∀ i, i < 4 → spk X p (10 + i) = false) ∨ (_ < 4 ∧ spk X p (10 + _) = true)
    cases e0 : spk X p 10
    case true => exact Or.inr ⟨by rw [if_pos rfl]; omega, by rw [if_pos rfl]; exact e0⟩
    rw [if_neg (by decide)]
    cases e1 : spk X p 11
    case true => exact Or.inr ⟨by rw [if_pos rfl]; omega, by rw [if_pos rfl]; exact e1⟩
    rw [if_neg (by decide)]
    cases e2 : spk X p 12
    case true => exact Or.inr ⟨by rw [if_pos rfl]; omega, by rw [if_pos rfl]; exact e2⟩
    rw [if_neg (by decide)]
    cases e3 : spk X p 13
    case true => exact Or.inr ⟨by rw [if_pos rfl]; omega, by rw [if_pos rfl]; exact e3⟩
    rw [if_neg (by decide)]
    refine Or.inl ⟨rfl, fun i hi => ?_⟩
    rcases i with _ | _ | _ | _ | i
    · exact e0
    · exact e1
    · exact e2
    · exact e3
    · omega
  · obtain rfl : s = 0 := by omega
    rw [if_neg (show ¬ 0 + 1 + 1 + 1 = 0 by omega), if_neg (show ¬ 0 + 1 + 1 + 1 = 1 by omega), if_neg (show ¬ 0 + 1 + 1 + 1 = 2 by omega)]
    show (_ ∧ ∀ i, i < 2 → spk X p (14 + i) = false) ∨ (_ < 2 ∧ spk X p (14 + _) = true)
    cases e0 : spk X p 14
    case true => exact Or.inr ⟨by rw [if_pos rfl]; omega, by rw [if_pos rfl]; exact e0⟩
    rw [if_neg (by decide)]
    cases e1 : spk X p 15
    case true => exact Or.inr ⟨by rw [if_pos rfl]; omega, by rw [if_pos rfl]; exact e1⟩
    rw [if_neg (by decide)]
    refine Or.inl ⟨rfl, fun i hi => ?_⟩
    rcases i with _ | _ | i
    · exact e0
    · exact e1
    · omega
