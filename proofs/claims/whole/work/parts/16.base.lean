/-! ===== L3: ints as numbers, bits, loops ===== -/
theorem KK : ((0 : Int32) = nI 0) ∧ ((1 : Int32) = nI 1) ∧ ((2 : Int32) = nI 2) ∧ ((3 : Int32) = nI 3) ∧ ((4 : Int32) = nI 4) ∧ ((5 : Int32) = nI 5) ∧ ((6 : Int32) = nI 6) ∧ ((7 : Int32) = nI 7) ∧ ((8 : Int32) = nI 8) ∧ ((9 : Int32) = nI 9) ∧ ((10 : Int32) = nI 10) ∧ ((11 : Int32) = nI 11) ∧ ((12 : Int32) = nI 12) ∧ ((13 : Int32) = nI 13) ∧ ((14 : Int32) = nI 14) ∧ ((15 : Int32) = nI 15) ∧ ((16 : Int32) = nI 16) ∧ ((17 : Int32) = nI 17) ∧ ((18 : Int32) = nI 18) ∧ ((19 : Int32) = nI 19) ∧ ((20 : Int32) = nI 20) ∧ ((21 : Int32) = nI 21) ∧ ((22 : Int32) = nI 22) ∧ ((23 : Int32) = nI 23) ∧ ((24 : Int32) = nI 24) ∧ ((25 : Int32) = nI 25) ∧ ((26 : Int32) = nI 26) ∧ ((27 : Int32) = nI 27) ∧ ((28 : Int32) = nI 28) ∧ ((29 : Int32) = nI 29) ∧ ((30 : Int32) = nI 30) ∧ ((31 : Int32) = nI 31) ∧ ((32 : Int32) = nI 32) ∧ ((33 : Int32) = nI 33) ∧ ((39 : Int32) = nI 39) ∧ ((40 : Int32) = nI 40) ∧ ((48 : Int32) = nI 48) ∧ ((49 : Int32) = nI 49) ∧ ((50 : Int32) = nI 50) ∧ ((57 : Int32) = nI 57) ∧ ((59 : Int32) = nI 59) ∧ ((62 : Int32) = nI 62) ∧ ((63 : Int32) = nI 63) ∧ ((64 : Int32) = nI 64) ∧ ((66 : Int32) = nI 66) ∧ ((97 : Int32) = nI 97) ∧ ((121 : Int32) = nI 121) ∧ ((122 : Int32) = nI 122) ∧ ((242 : Int32) = nI 242) ∧ ((255 : Int32) = nI 255) ∧ ((256 : Int32) = nI 256) ∧ ((600 : Int32) = nI 600) ∧ ((1023 : Int32) = nI 1023) ∧ ((1024 : Int32) = nI 1024) ∧ ((1000000 : Int32) = nI 1000000) := by refine ⟨rfl, rfl, rfl, rfl, rfl, rfl, rfl, rfl, rfl, rfl, rfl, rfl, rfl, rfl, rfl, rfl, rfl, rfl, rfl, rfl, rfl, rfl, rfl, rfl, rfl, rfl, rfl, rfl, rfl, rfl, rfl, rfl, rfl, rfl, rfl, rfl, rfl, rfl, rfl, rfl, rfl, rfl, rfl, rfl, rfl, rfl, rfl, rfl, rfl, rfl, rfl, rfl, rfl, rfl, rfl⟩
def jN (n : Nat) : Int32 := -nI n
theorem K1 : ((-1 : Int32) = jN 1) ∧ ((-2 : Int32) = jN 2) ∧ ((-8 : Int32) = jN 8) ∧ ((-1000000 : Int32) = jN 1000000) := ⟨rfl, rfl, rfl, rfl⟩
theorem K2 (n : Nat) : -nI n = jN n := rfl
theorem jN_toInt {n : Nat} (h : n < 2 ^ 31) : (jN n).toInt = -(n : Int) := by
  unfold jN
  rw [Int32.toInt_neg, nI_toInt h]
  rw [Int.bmod_eq_of_le (by omega) (by omega)]
theorem i_le (a b : Int32) : a ≤ b ↔ a.toInt ≤ b.toInt := Int32.le_iff_toInt_le
theorem i_lt (a b : Int32) : a < b ↔ a.toInt < b.toInt := Int32.lt_iff_toInt_lt
theorem i_eq (a b : Int32) : a = b ↔ a.toInt = b.toInt := Int32.toInt_inj.symm
theorem NN : (∀ a b : Nat, nI a + nI b = nI (a + b)) ∧ (∀ a b : Nat, nI a * nI b = nI (a * b)) ∧ (∀ a b : Nat, b ≤ a → nI a - nI b = nI (a - b)) ∧ (∀ a : Nat, 1 ≤ a → nI a + jN 1 = nI (a - 1)) ∧ (∀ a b : Nat, a < 2 ^ 31 → b < 2 ^ 31 → (nI a ≤ nI b) = (a ≤ b)) ∧ (∀ a b : Nat, a < 2 ^ 31 → b < 2 ^ 31 → (nI a < nI b) = (a < b)) ∧ (∀ a b : Nat, a < 2 ^ 31 → b < 2 ^ 31 → (nI a = nI b) = (a = b)) ∧ (∀ a : Nat, a < 2 ^ 31 → (nI a).toNatClampNeg = a) ∧ (∀ a b : Nat, a < 2 ^ 31 → inb (nI a) b = (a < b)) ∧ (∀ a b : Nat, a < 2 ^ 31 → 0 < b → b < 2 ^ 31 → nI a / nI b = nI (a / b)) ∧ (∀ a b : Nat, a < 2 ^ 31 → 0 < b → b < 2 ^ 31 → rm (nI a) (nI b) = nI (a % b)) := by
  refine ⟨nI_add, pk_mul, fun _ _ => pk_sub, ?_, ?_, ?_, ?_, fun _ => nI_clamp, ?_, fun _ _ => pk_div, fun _ _ => pk_rem⟩
  · intro a h
    obtain ⟨c, rfl⟩ : ∃ c, a = c + 1 := ⟨a - 1, by omega⟩
    exact pk_m1 c
  · exact fun a b ha hb => propext (nI_leI ha hb)
  · exact fun a b ha hb => propext (nI_ltI ha hb)
  · exact fun a b ha hb => propext (nI_eq ha hb)
  · intro a b ha
    apply propext
    show ¬ (nI a < 0 ∨ b ≤ (nI a).toNatClampNeg) ↔ a < b
    rw [nI_clamp ha]
    constructor
    · intro h
      rcases Nat.lt_or_ge a b with h1 | h1
      · exact h1
      · exact absurd (Or.inr h1) h
    · rintro h (h1 | h1)
      · exact nI_pos ha h1
      · omega
theorem NJ (a b : Nat) (hb0 : 0 < b) (hb : b < 2 ^ 31) : (a < 2 ^ 31 → (nI a ≤ jN b) = False) ∧ (a < 2 ^ 31 → (jN b ≤ nI a) = True) ∧ (a < 2 ^ 31 → (nI a < jN b) = False) ∧ (a < 2 ^ 31 → (jN b < nI a) = True) ∧ (a < 2 ^ 31 → (nI a = jN b) = False) ∧ (a < 2 ^ 31 → (jN b = nI a) = False) ∧ (inb (jN b) a = False) := by
  have h1 := jN_toInt hb
  refine ⟨?_, ?_, ?_, ?_, ?_, ?_, ?_⟩
  · intro ha; have h2 := nI_toInt ha; rw [i_le, h1, h2]; apply eq_false; omega
  · intro ha; have h2 := nI_toInt ha; rw [i_le, h1, h2]; apply eq_true; omega
  · intro ha; have h2 := nI_toInt ha; rw [i_lt, h1, h2]; apply eq_false; omega
  · intro ha; have h2 := nI_toInt ha; rw [i_lt, h1, h2]; apply eq_true; omega
  · intro ha; have h2 := nI_toInt ha; rw [i_eq, h1, h2]; apply eq_false; omega
  · intro ha; have h2 := nI_toInt ha; rw [i_eq, h1, h2]; apply eq_false; omega
  · apply eq_false
    intro h
    apply h
    left
    rw [i_lt, h1]
    show -(b : Int) < 0
    omega
theorem jj (a b : Nat) (ha : a < 2 ^ 31) (hb : b < 2 ^ 31) : ((jN a = jN b) = (a = b)) ∧ ((jN a ≤ jN b) = (b ≤ a)) ∧ ((jN a < jN b) = (b < a)) := by
  have h1 := jN_toInt ha
  have h2 := jN_toInt hb
  refine ⟨?_, ?_, ?_⟩
  · rw [i_eq, h1, h2]; apply propext; omega
  · rw [i_le, h1, h2]; apply propext; omega
  · rw [i_lt, h1, h2]; apply propext; omega
/-- an int is a number below n, or it isn't -/
def ix (x : Int32) (n : Nat) : Bool := decide (0 ≤ x.toInt) && decide (x.toInt < n)
theorem ix_nI {a : Nat} (n : Nat) (h : a < 2 ^ 31) : ix (nI a) n = decide (a < n) := by
  unfold ix
  rw [nI_toInt h, decide_eq_true (show (0 : Int) ≤ a by omega), Bool.true_and]
  congr 1
  apply propext
  omega
theorem ix_of {x : Int32} {n : Nat} (h : ix x n = true) : ∃ a, a < n ∧ a < 2 ^ 31 ∧ x = nI a := by
  unfold ix at h
  rw [Bool.and_eq_true, decide_eq_true_eq, decide_eq_true_eq] at h
  obtain ⟨j, hj, rfl⟩ := nI_of (x := x) (by rw [i_lt]; show ¬ _ < 0; omega)
  rw [nI_toInt hj] at h
  exact ⟨j, by omega, hj, rfl⟩
theorem ix_jN (a n : Nat) (h0 : 0 < a) (h : a < 2 ^ 31) : ix (jN a) n = false := by
  unfold ix
  rw [jN_toInt h, decide_eq_false (show ¬ (0 : Int) ≤ -(a : Int) by omega), Bool.false_and]
def bI (b : Bool) : Int32 := if b = true then nI 1 else nI 0
theorem bI_0 (b : Bool) : (bI b = nI 0) = (b = false) := by
  cases b
  · exact eq_true rfl |>.trans (eq_true rfl).symm
  · refine (eq_false ?_).trans (eq_false (by decide)).symm
    decide +kernel
theorem bI_ite {α : Type} (b : Bool) (x y : α) : (if bI b = nI 0 then x else y) = if b = true then y else x := by
  cases b
  · rw [if_pos (show bI false = nI 0 from rfl), if_neg (by decide)]
  · rw [if_neg (show ¬ bI true = nI 0 by decide +kernel), if_pos rfl]
theorem bI_t : bI true = nI 1 := rfl
theorem bI_f : bI false = nI 0 := rfl
theorem bI_g (b : Bool) : (bI b = nI 0 ∨ bI b = nI 1) = True := by
  cases b
  · exact eq_true (Or.inl rfl)
  · exact eq_true (Or.inr rfl)
theorem bI_ne (b c : Bool) : (bI b = bI c) = (b = c) := by
  cases b <;> cases c
  · exact (eq_true rfl).trans (eq_true rfl).symm
  · exact (eq_false (by decide +kernel)).trans (eq_false (by decide)).symm
  · exact (eq_false (by decide +kernel)).trans (eq_false (by decide)).symm
  · exact (eq_true rfl).trans (eq_true rfl).symm
/-! ===== what may fail: the other way ===== -/
theorem ok_mk {α : Type} {x : α} {Q : α → Prop} (h : Q x) : Okk (some x) Q := ⟨x, rfl, h⟩
theorem okb {α β : Type} {o : Option α} {f : α → Option β} {P : α → Prop} {Q : β → Prop} (h : Okk o P) (k : ∀ x, P x → Okk (f x) Q) : Okk (o.bind f) Q := by
  obtain ⟨x, rfl, hx⟩ := h
  exact k x hx
theorem okw {α : Type} {o : Option α} {P Q : α → Prop} (h : Okk o P) (k : ∀ x, P x → Q x) : Okk o Q := by
  obtain ⟨x, rfl, hx⟩ := h
  exact ⟨x, rfl, k x hx⟩
theorem okmr {S R : Type} {o : Option R} {H : S → Prop} {Q : R → Prop} (h : Okk o Q) : Okk (o.map Sum.inr) (Sum.elim H Q) := by
  obtain ⟨x, rfl, hx⟩ := h
  exact ⟨_, rfl, hx⟩
theorem ok_ite {α : Type} {c : Prop} {i : Decidable c} {a b : Option α} {Q : α → Prop} (h1 : c → Okk a Q) (h2 : ¬ c → Okk b Q) : Okk (@ite _ c i a b) Q := by
  by_cases hc : c
  · rw [if_pos hc]; exact h1 hc
  · rw [if_neg hc]; exact h2 hc
theorem ok_e {α : Type} {o : Option α} {x : α} (h : o = some x) {Q : α → Prop} (hq : Q x) : Okk o Q := ⟨x, h, hq⟩
theorem ok_to {α : Type} {o : Option α} {x : α} (h : Okk o (fun y => y = x)) : o = some x := by
  obtain ⟨y, h1, rfl⟩ := h
  exact h1
theorem sb {α β : Type} (x : α) (f : α → Option β) : (some x).bind f = f x := rfl
theorem smr {S R : Type} (x : R) : (some x).map (Sum.inr : R → S ⊕ R) = some (Sum.inr x) := rfl
theorem lp_in {S R : Type} {f : S → Option (S ⊕ R)} {s : S} {Q : R → Prop} (h : Okk (f s) (Sum.elim (fun s' => Okk (lp f s') Q) Q)) : Okk (lp f s) Q := by
  rw [lp_eq]
  obtain ⟨x, h1, h2⟩ := h
  rw [h1]
  cases x with
  | inl s' => exact h2
  | inr r => exact ⟨r, rfl, h2⟩
theorem lp_for {S R : Type} (f : S → Option (S ⊕ R)) (n : Nat) (Iv : Nat → S → Prop) (Q : R → Prop) (hs : ∀ k s, k < n → Iv k s → Okk (f s) (Sum.elim (Iv (k + 1)) Q)) (he : ∀ s, Iv n s → Okk (f s) (Sum.elim (fun _ => False) Q)) : ∀ k s, k ≤ n → Iv k s → Okk (lp f s) Q := by
  intro k
  have key : ∀ m k s, k + m = n → Iv k s → Okk (lp f s) Q := by
    intro m
    induction m with
    | zero =>
      intro k s hk h
      have hk' : k = n := by omega
      subst hk'
      apply lp_in
      refine okw (he s h) ?_
      intro x hx
      cases x with
      | inl s' => exact False.elim hx
      | inr r => exact hx
    | succ m ih =>
      intro k s hk h
      apply lp_in
      refine okw (hs k s (by omega) h) ?_
      intro x hx
      cases x with
      | inl s' => exact ih (k + 1) s' (by omega) hx
      | inr r => exact hx
  intro s hk h
  exact key (n - k) k s (by omega) h
theorem lp_ms {S R : Type} (f : S → Option (S ⊕ R)) (V : S → Nat) (Iv : S → Prop) (Q : R → Prop) (hs : ∀ s, Iv s → Okk (f s) (Sum.elim (fun s' => Iv s' ∧ V s' < V s) Q)) : ∀ s, Iv s → Okk (lp f s) Q := by
  have key : ∀ m s, V s ≤ m → Iv s → Okk (lp f s) Q := by
    intro m
    induction m with
    | zero =>
      intro s hm h
      apply lp_in
      refine okw (hs s h) ?_
      intro x hx
      cases x with
      | inl s' => exact absurd hx.2 (by omega)
      | inr r => exact hx
    | succ m ih =>
      intro s hm h
      apply lp_in
      refine okw (hs s h) ?_
      intro x hx
      cases x with
      | inl s' => exact ih s' (by have := hx.2; omega) hx.1
      | inr r => exact hx
  exact fun s h => key (V s) s (Nat.le_refl _) h
/-! ===== cells ===== -/
theorem wr_at (h : Hp) (k j : Nat) (v : Int32) : (wr h k j v).1 k j = v := if_pos ⟨rfl, rfl⟩
theorem wr_c (h : Hp) {k a : Nat} (j b : Nat) (v : Int32) (hk : a ≠ k) : (wr h k j v).1 a b = h.1 a b := if_neg (fun e => hk e.1)
theorem wr_p (h : Hp) (k a : Nat) {j b : Nat} (v : Int32) (hj : b ≠ j) : (wr h k j v).1 a b = h.1 a b := if_neg (fun e => hj e.2)
theorem wr_i (h : Hp) (k j : Nat) (v : Int32) (a b : Nat) : (wr h k j v).1 a b = if a = k ∧ b = j then v else h.1 a b := rfl
theorem wr_2 (h : Hp) (k j : Nat) (v : Int32) : (wr h k j v).2 = h.2 := rfl
/-- what is not in p stays as it was -/
def Fr (p : Nat → Nat → Prop) (h h' : Hp) : Prop := ∀ a i, ¬ p a i → h'.1 a i = h.1 a i
theorem fr_rfl {p : Nat → Nat → Prop} {h : Hp} : Fr p h h := fun _ _ _ => rfl
theorem fr_tr {p : Nat → Nat → Prop} {h h1 h2 : Hp} (a : Fr p h h1) (b : Fr p h1 h2) : Fr p h h2 := fun x i hx => (b x i hx).trans (a x i hx)
theorem fr_mo {p q : Nat → Nat → Prop} {h h1 : Hp} (a : Fr p h h1) (hpq : ∀ x i, p x i → q x i) : Fr q h h1 := fun x i hx => a x i (fun hp => hx (hpq x i hp))
theorem fr_wr {p : Nat → Nat → Prop} {h : Hp} {k j : Nat} {v : Int32} (hp : p k j) : Fr p h (wr h k j v) := fun a i ha => if_neg (fun e => ha (by rw [e.1, e.2]; exact hp))
/-! ===== bits (the kit's rows) ===== -/
def bt (x : Int32) (i : Nat) : Bool := x.toBitVec.getLsbD i
theorem b_ext {x y : Int32} (h : ∀ i, i < 32 → bt x i = bt y i) : x = y := Int32.toBitVec_inj.mp (BitVec.eq_of_getLsbD_eq (fun i hi => h i hi))
theorem b_or (x y : Int32) (i : Nat) : bt (x ||| y) i = (bt x i || bt y i) := by unfold bt; rw [Int32.toBitVec_or, BitVec.getLsbD_or]
theorem b_and (x y : Int32) (i : Nat) : bt (x &&& y) i = (bt x i && bt y i) := by unfold bt; rw [Int32.toBitVec_and, BitVec.getLsbD_and]
theorem b_xor (x y : Int32) (i : Nat) : bt (x ^^^ y) i = (bt x i ^^ bt y i) := by unfold bt; rw [Int32.toBitVec_xor, BitVec.getLsbD_xor]
theorem b_big {x : Int32} {i : Nat} (h : 32 ≤ i) : bt x i = false := BitVec.getLsbD_of_ge _ _ h
theorem b_m1 : ∀ i, i < 32 → bt (-1) i = true := by decide +kernel
theorem b_0 (i : Nat) : bt 0 i = false := BitVec.getLsbD_zero
theorem s_l : ∀ n, n < 32 → ((nI n &&& 31).toBitVec.smod 32).toNat = n := by decide +kernel
theorem b_shl (n : Nat) (hn : n < 32) (x : Int32) {i : Nat} (hi : i < 32) : bt (x <<< (nI n &&& 31)) i = (decide (n ≤ i) && bt x (i - n)) := by
  unfold bt
  rw [Int32.toBitVec_shiftLeft]
  show (x.toBitVec <<< ((nI n &&& 31).toBitVec.smod 32).toNat).getLsbD i = _
  rw [s_l n hn, BitVec.getLsbD_shiftLeft]
  rcases Nat.lt_or_ge i n with h | h
  · simp [h, Nat.not_le.mpr h]
  · simp [hi, h, Nat.not_lt.mpr h]
theorem b_sshr (n : Nat) (hn : n < 32) (x : Int32) {i : Nat} (hi : i < 32) : bt (x >>> (nI n &&& 31)) i = if n + i < 32 then bt x (n + i) else bt x 31 := by
  unfold bt
  rw [Int32.toBitVec_shiftRight]
  show (x.toBitVec.sshiftRight ((nI n &&& 31).toBitVec.smod 32).toNat).getLsbD i = _
  rw [s_l n hn, BitVec.getLsbD_sshiftRight, BitVec.msb_eq_getLsbD_last]
  simp [hi]
theorem b_1 (i : Nat) : bt (nI 1) i = decide (i = 0) := by
  rcases Nat.lt_or_ge i 32 with h | h
  · exact (by decide +kernel : ∀ i, i < 32 → bt (nI 1) i = decide (i = 0)) i h
  · rw [b_big h, decide_eq_false (by omega)]
theorem b_nI (n i : Nat) (hi : i < 32) : bt (nI n) i = n.testBit i := by
  unfold bt
  show (BitVec.ofNat 32 n).getLsbD i = _
  rw [BitVec.getLsbD_ofNat]
  simp [hi]
theorem b_sh {k : Nat} (hk : k < 32) (i : Nat) (hi : i < 32) : bt (sh (nI 1) (nI k)) i = decide (i = k) := by
  unfold sh
  rw [b_shl k hk _ hi, b_1]
  rcases Nat.lt_or_ge i k with h | h
  · rw [decide_eq_false (show ¬ k ≤ i by omega), decide_eq_false (show ¬ i = k by omega), Bool.false_and]
  · rw [decide_eq_true h, Bool.true_and]
    congr 1
    apply propext
    omega
theorem b_m1' {i : Nat} (h : i < 32) : bt (jN 1) i = true := b_m1 i h
theorem b_nt (x : Int32) (i : Nat) (h : i < 32) : bt (x ^^^ jN 1) i = !bt x i := by
  rw [b_xor, b_m1' h]
  cases bt x i <;> rfl
theorem sr_1 (x : Int32) {k : Nat} (hk : k < 32) : (sr x (nI k)) &&& nI 1 = bI (bt x k) := by
  apply b_ext
  intro i hi
  unfold sr
  rw [b_and, b_1, b_sshr k hk _ hi]
  rcases Nat.eq_zero_or_pos i with h | h
  · subst h
    rw [if_pos (by omega), Nat.add_zero, decide_eq_true rfl, Bool.and_true]
    cases bt x k
    · exact (b_0 0).symm
    · exact (b_1 0).symm
  · rw [decide_eq_false (by omega), Bool.and_false]
    cases bt x k
    · exact (b_0 i).symm
    · show false = bt (nI 1) i
      rw [b_1, decide_eq_false (by omega)]
/-- no bits from k on -/
def lo (k : Nat) (x : Int32) : Prop := ∀ i, k ≤ i → bt x i = false
theorem lo_0 (k : Nat) : lo k (nI 0) := fun i _ => b_0 i
theorem lo_or {k : Nat} {x y : Int32} (hx : lo k x) (hy : lo k y) : lo k (x ||| y) := fun i hi => by rw [b_or, hx i hi, hy i hi]; rfl
theorem lo_al {k : Nat} {x : Int32} (y : Int32) (hx : lo k x) : lo k (x &&& y) := fun i hi => by rw [b_and, hx i hi]; rfl
theorem lo_ar {k : Nat} {y : Int32} (x : Int32) (hy : lo k y) : lo k (x &&& y) := fun i hi => by rw [b_and, hy i hi, Bool.and_false]
theorem lo_sh {k j : Nat} (hj : j < k) (hk : k ≤ 32) : lo k (sh (nI 1) (nI j)) := fun i hi => by
  rcases Nat.lt_or_ge i 32 with h | h
  · rw [b_sh (by omega) i h, decide_eq_false (by omega)]
  · exact b_big h
theorem lo_mo {k m : Nat} {x : Int32} (h : lo k x) (hk : k ≤ m) : lo m x := fun i hi => h i (by omega)
theorem lo_nI {k n : Nat} (hk : k ≤ 31) (h : n < 2 ^ k) : lo k (nI n) := fun i hi => by
  rcases Nat.lt_or_ge i 32 with h1 | h1
  · rw [b_nI n i h1]
    exact Nat.testBit_lt_two_pow (Nat.lt_of_lt_of_le h (Nat.pow_le_pow_right (by decide) hi))
  · exact b_big h1
theorem lo_ex {k : Nat} {x : Int32} (h : lo k x) : ∃ n, n < 2 ^ k ∧ x = nI n := by
  refine ⟨x.toBitVec.toNat % 2 ^ k, Nat.mod_lt _ (Nat.two_pow_pos k), ?_⟩
  apply b_ext
  intro i hi
  rw [b_nI _ i hi, Nat.testBit_mod_two_pow]
  rcases Nat.lt_or_ge i k with h1 | h1
  · rw [decide_eq_true h1, Bool.true_and]
    rfl
  · rw [decide_eq_false (by omega), Bool.false_and, h i h1]
theorem lo_eq {x y : Int32} (k : Nat) (hx : lo k x) (hy : lo k y) (h : ∀ i, i < k → bt x i = bt y i) : x = y := by
  apply b_ext
  intro i _
  rcases Nat.lt_or_ge i k with h1 | h1
  · exact h i h1
  · rw [hx i h1, hy i h1]
/-! ===== folds ===== -/
def sT (f : Nat → Int32) : Nat → Int32
  | 0 => nI 0
  | n + 1 => sT f n + f n
def oT (f : Nat → Int32) : Nat → Int32
  | 0 => nI 0
  | n + 1 => oT f n ||| f n
def cT (f : Nat → Bool) : Nat → Nat
  | 0 => 0
  | n + 1 => cT f n + (if f n = true then 1 else 0)
theorem sT_0 (f : Nat → Int32) : sT f 0 = nI 0 := rfl
theorem sT_s (f : Nat → Int32) (n : Nat) : sT f (n + 1) = sT f n + f n := rfl
theorem oT_0 (f : Nat → Int32) : oT f 0 = nI 0 := rfl
theorem oT_s (f : Nat → Int32) (n : Nat) : oT f (n + 1) = oT f n ||| f n := rfl
theorem cT_0 (f : Nat → Bool) : cT f 0 = 0 := rfl
theorem cT_s (f : Nat → Bool) (n : Nat) : cT f (n + 1) = cT f n + (if f n = true then 1 else 0) := rfl
theorem sT_cg {f g : Nat → Int32} : ∀ n, (∀ i, i < n → f i = g i) → sT f n = sT g n
  | 0, _ => rfl
  | n + 1, h => by rw [sT_s, sT_s, sT_cg n (fun i hi => h i (by omega)), h n (by omega)]
theorem oT_cg {f g : Nat → Int32} : ∀ n, (∀ i, i < n → f i = g i) → oT f n = oT g n
  | 0, _ => rfl
  | n + 1, h => by rw [oT_s, oT_s, oT_cg n (fun i hi => h i (by omega)), h n (by omega)]
theorem cT_cg {f g : Nat → Bool} : ∀ n, (∀ i, i < n → f i = g i) → cT f n = cT g n
  | 0, _ => rfl
  | n + 1, h => by rw [cT_s, cT_s, cT_cg n (fun i hi => h i (by omega)), h n (by omega)]
theorem cT_le (f : Nat → Bool) : ∀ n, cT f n ≤ n
  | 0 => Nat.le_refl _
  | n + 1 => by
    have := cT_le f n
    rw [cT_s]
    split <;> omega
theorem lo_oT {k : Nat} {f : Nat → Int32} : ∀ n, (∀ i, i < n → lo k (f i)) → lo k (oT f n)
  | 0, _ => lo_0 k
  | n + 1, h => lo_or (lo_oT n (fun i hi => h i (by omega))) (h n (by omega))
theorem b_oT (f : Nat → Int32) (i : Nat) : ∀ n, bt (oT f n) i = true ↔ ∃ j, j < n ∧ bt (f j) i = true
  | 0 => by
    constructor
    · intro h
      rw [oT_0] at h
      exact absurd ((b_0 i).symm.trans h) (by decide)
    · rintro ⟨j, hj, -⟩
      omega
  | n + 1 => by
    rw [oT_s, b_or, Bool.or_eq_true, b_oT f i n]
    constructor
    · rintro (⟨j, hj, h⟩ | h)
      · exact ⟨j, by omega, h⟩
      · exact ⟨n, by omega, h⟩
    · rintro ⟨j, hj, h⟩
      rcases Nat.lt_or_ge j n with h1 | h1
      · exact Or.inl ⟨j, h1, h⟩
      · have : j = n := by omega
        subst this
        exact Or.inr h
/-- how many bits of the first ten -/
def pc (x : Int32) : Nat := cT (bt x) 10
