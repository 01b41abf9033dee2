/-! ===== L3: what is fed ===== -/
theorem b_255 : ∀ i, i < 32 → bt (nI 255) i = decide (i < 8) := by decide +kernel
theorem b_by (v : Int32) {i : Nat} (hi : i < 8) : bt (v.toInt8.toInt32) i = bt v i := by
  unfold bt
  rw [Int8.toBitVec_toInt32, Int32.toBitVec_toInt8, BitVec.getLsbD_signExtend, BitVec.getLsbD_signExtend, if_pos hi]
  simp only [show i < 32 by omega, if_true, hi, decide_true, Bool.true_and]
theorem by_and (v : Int32) : v.toInt8.toInt32 &&& nI 255 = v &&& nI 255 := by
  refine b_ext (fun i hi => ?_)
  rw [b_and, b_and, b_255 i hi]
  by_cases c : i < 8
  · rw [b_by v c]
  · rw [decide_eq_false c, Bool.and_false, Bool.and_false]
theorem b_us (x : Int32) : ∀ j, j < 4 → ∀ i, bt (us x (nI (24 - 8 * j))) i = bt x (24 - 8 * j + i)
  | 0, _, i => by
    show (x.toBitVec >>> (24 : Nat)).getLsbD i = x.toBitVec.getLsbD (24 + i)
    rw [BitVec.getLsbD_ushiftRight]
  | 1, _, i => by
    show (x.toBitVec >>> (16 : Nat)).getLsbD i = x.toBitVec.getLsbD (16 + i)
    rw [BitVec.getLsbD_ushiftRight]
  | 2, _, i => by
    show (x.toBitVec >>> (8 : Nat)).getLsbD i = x.toBitVec.getLsbD (8 + i)
    rw [BitVec.getLsbD_ushiftRight]
  | 3, _, i => by
    show (x.toBitVec >>> (0 : Nat)).getLsbD i = x.toBitVec.getLsbD (0 + i)
    rw [BitVec.getLsbD_ushiftRight]
  | j + 4, h, _ => absurd h (by omega)
/-- the model's byte j of x -/
def myB (x : Int32) (j : Nat) : Int32 := Int8.toInt32 (Int32.toInt8 (Int8.toInt32 (Int32.toInt8 (sr x (nI (24 - 8 * j))))))
def kyB (x : Int32) (j : Nat) : Int32 := us x (nI (24 - 8 * j)) &&& nI 255
theorem by_eq (x : Int32) {j : Nat} (hj : j < 4) : kyB x j = myB x j &&& nI 255 := by
  unfold kyB myB
  rw [by_and, by_and]
  refine b_ext (fun i hi => ?_)
  rw [b_and, b_and, b_255 i hi]
  by_cases c : i < 8
  · rw [b_us x j hj i, b_sr x (k := 24 - 8 * j) (by omega) hi, if_pos (by omega)]
  · rw [decide_eq_false c, Bool.and_false, Bool.and_false]
theorem st8 : ∀ k, k < 4 → nI (24 - 8 * k) + (-8 : Int32) = (if k + 1 < 4 then nI (24 - 8 * (k + 1)) else jN 8) := by decide +kernel
theorem q_take {h : Hp} {l : Nat} (x : Int32) (h1 : h.1 3 1 = nI l) (hl : l + 4 ≤ 600) : Okk (T_takeOne h 3 x) (fun h' => h'.1 3 1 = nI (l + 4) ∧ (∀ j, j < 4 → h'.1 4 (l + j) = kyB x j) ∧ Fr (fun c i => (c = 3 ∧ i = 1) ∨ (c = 4 ∧ l ≤ i ∧ i < l + 4)) h h') := by
  unfold T_takeOne T_takeOne_l3
  rw [if_pos (show kd 3 = 8 by decide +kernel)]
  refine lp_for _ 4 (fun k s => s.1 = (if k < 4 then nI (24 - 8 * k) else jN 8) ∧ s.2.1 3 1 = nI (l + k) ∧ (∀ j, j < k → s.2.1 4 (l + j) = kyB x j) ∧ Fr (fun c i => (c = 3 ∧ i = 1) ∨ (c = 4 ∧ l ≤ i ∧ i < l + 4)) h s.2) _ ?_ ?_ 0 _ (by omega) ⟨rfl, h1, fun j hj => absurd hj (by omega), fr_rfl⟩
  · rintro k ⟨s1, g⟩ hk ⟨e1, e2, e3, e4⟩
    dsimp only at e1 e2 e3 e4
    rw [if_pos hk] at e1
    subst e1
    have ek : kd 4 = 20 ∧ ln 4 = 600 := by decide +kernel
    unfold T_takeOne_b3
    rw [if_neg (show ¬ nI (24 - 8 * k) < 0 from fun c => by rw [i_lt, nI_toInt (by omega)] at c; have : (0 : Int32).toInt = 0 := rfl; omega), ek.1, ek.2, e2, if_pos (by omega), if_neg (show ¬ Int32.ofNat 600 ≤ nI (l + k) from fun c => by have c2 : nI 600 ≤ nI (l + k) := c; rw [i_le, nI_toInt (by omega), nI_toInt (by omega)] at c2; omega), if_pos ⟨rfl, nI_in (by omega) (by omega)⟩, nI_clamp (by omega), bnd_eq, bnd_eq, bnd_eq, wr_c _ _ _ _ (show 3 ≠ 3 + 1 by omega), e2]
    refine ok_mk ⟨?_, ?_, ?_, ?_⟩
    · exact st8 k hk
    · dsimp only
      rw [wr_at]
      exact nI_add _ 1
    · intro j hj
      dsimp only
      rw [wr_c _ _ _ _ (by omega), wr_i]
      by_cases c : j = k
      · subst c
        rw [if_pos ⟨rfl, rfl⟩]
        rfl
      · rw [if_neg (by omega), e3 j (by omega)]
    · refine fr_tr e4 (fr_tr (fr_wr (Or.inr ⟨rfl, by omega, by omega⟩)) (fr_wr (Or.inl ⟨rfl, rfl⟩)))
  · rintro ⟨s1, g⟩ ⟨e1, e2, e3, e4⟩
    dsimp only at e1 e2 e3 e4
    subst e1
    unfold T_takeOne_b3 T_takeOne_j51
    rw [if_neg (show ¬ 4 < 4 by omega), if_pos (show jN 8 < 0 by decide +kernel)]
    exact ok_mk ⟨e2, e3, e4⟩
theorem q_four {h : Hp} {l : Nat} (x : Int32) (h1 : h.1 253 0 = nI l) (hl : l + 4 ≤ 600) : Okk (M_four h x) (fun h' => h'.1 253 0 = nI (l + 4) ∧ (∀ j, j < 4 → h'.1 252 (l + j) = myB x j) ∧ Fr (fun c i => (c = 253 ∧ i = 0) ∨ (c = 252 ∧ l ≤ i ∧ i < l + 4)) h h') := by
  unfold M_four M_four_l3
  refine lp_for _ 4 (fun k s => s.1 = (if k < 4 then nI (24 - 8 * k) else jN 8) ∧ s.2.1 253 0 = nI (l + k) ∧ (∀ j, j < k → s.2.1 252 (l + j) = myB x j) ∧ Fr (fun c i => (c = 253 ∧ i = 0) ∨ (c = 252 ∧ l ≤ i ∧ i < l + 4)) h s.2) _ ?_ ?_ 0 _ (by omega) ⟨rfl, h1, fun j hj => absurd hj (by omega), fr_rfl⟩
  · rintro k ⟨s1, g⟩ hk ⟨e1, e2, e3, e4⟩
    dsimp only at e1 e2 e3 e4
    rw [if_pos hk] at e1
    subst e1
    have ek : ln 252 = 2400 := by decide +kernel
    have cl0 : Int32.toNatClampNeg 0 = 0 := by decide +kernel
    unfold M_four_b3
    rw [if_neg (show ¬ nI (24 - 8 * k) < 0 from fun c => by rw [i_lt, nI_toInt (by omega)] at c; have : (0 : Int32).toInt = 0 := rfl; omega), cl0, ek, e2, if_pos (nI_in (by omega) (by omega)), nI_clamp (by omega), bnd_eq, bnd_eq, bnd_eq, wr_c _ _ _ _ (show 253 ≠ 252 by omega), e2]
    refine ok_mk ⟨?_, ?_, ?_, ?_⟩
    · exact st8 k hk
    · dsimp only
      rw [wr_at]
      exact nI_add _ 1
    · intro j hj
      dsimp only
      rw [wr_c _ _ _ _ (by omega), wr_i]
      by_cases c : j = k
      · subst c
        rw [if_pos ⟨rfl, rfl⟩]
        rfl
      · rw [if_neg (by omega), e3 j (by omega)]
    · refine fr_tr e4 (fr_tr (fr_wr (Or.inr ⟨rfl, by omega, by omega⟩)) (fr_wr (Or.inl ⟨rfl, rfl⟩)))
  · rintro ⟨s1, g⟩ ⟨e1, e2, e3, e4⟩
    dsimp only at e1 e2 e3 e4
    subst e1
    unfold M_four_b3 M_four_j38
    rw [if_neg (show ¬ 4 < 4 by omega), if_pos (show jN 8 < 0 by decide +kernel)]
    exact ok_mk ⟨e2, e3, e4⟩
/-! what is told, place by place -/
theorem chf {h h' : Hp} {a : Nat} {n : Inn} (hw : wI n) (H : CH h a n) (f : ∀ c i, a ≤ c → c < a + 6 → h'.1 c i = h.1 c i) : CH h' a n := by
  obtain ⟨c0, c5, c6, cT, cG⟩ := H
  refine ⟨c0, by rw [f a 5 (by omega) (by omega), c5], by rw [f a 6 (by omega) (by omega), c6], ?_, ?_⟩
  · intro t ht
    rw [f _ _ (by omega) (by omega), f _ _ (by omega) (by omega), f _ _ (by omega) (by omega)]
    exact cT t ht
  · intro g hg
    rw [f _ _ (by omega) (by omega), f _ _ (by omega) (by omega)]
    exact cG g hg
theorem mhf {h h' : Hp} {k : Nat} {n : Inn} (hw : wI n) (H : MH h k n) (f : ∀ i, i < 33 → h'.1 257 (33 * k + i) = h.1 257 (33 * k + i)) : MH h' k n := by
  obtain ⟨m0, m1, mT, mG⟩ := H
  have hT5 := hw.1
  have f0 : h'.1 257 (33 * k) = h.1 257 (33 * k) := f 0 (by omega)
  refine ⟨by rw [f0, m0], by rw [f 1 (by omega), m1], ?_, ?_⟩
  · intro t ht
    rw [f _ (by omega), f _ (by omega), f _ (by omega)]
    exact mT t ht
  · intro g hg
    rw [f _ (by omega), f _ (by omega)]
    exact mG g hg
theorem clf {h h' : Hp} {a m : Nat} {g : Nat → Pst} (H : CL h a m g) (f : ∀ c i, a ≤ c → c < a + 4 → h'.1 c i = h.1 c i) : CL h' a m g := by
  obtain ⟨c0, c3, cm, cR⟩ := H
  refine ⟨c0, by rw [f a 3 (by omega) (by omega), c3], cm, ?_⟩
  intro i hi
  rw [f _ _ (by omega) (by omega), f _ _ (by omega) (by omega), f _ _ (by omega) (by omega)]
  exact cR i hi
theorem mef {h h' : Hp} {k m : Nat} {g : Nat → Pst} (H : ME h k m g) (f : ∀ i, i < 121 → h'.1 258 (121 * k + i) = h.1 258 (121 * k + i)) : ME h' k m g := by
  obtain ⟨a1, a2, a3, a4⟩ := H
  have f0 : h'.1 258 (121 * k) = h.1 258 (121 * k) := f 0 (by omega)
  refine ⟨a1, a2, by rw [f0, a3], ?_⟩
  intro i hi
  rw [f _ (by omega), f _ (by omega), f _ (by omega)]
  exact a4 i hi
theorem mwf {h h' : Hp} {k m : Nat} {g : Nat → Pst} (H : MW h k m g) (f : ∀ i, i < 31 → h'.1 259 (31 * k + i) = h.1 259 (31 * k + i)) : MW h' k m g := by
  obtain ⟨a1, a2, a3, a4⟩ := H
  have f0 : h'.1 259 (31 * k) = h.1 259 (31 * k) := f 0 (by omega)
  refine ⟨a1, a2, by rw [f0, a3], ?_⟩
  intro i hi
  rw [f _ (by omega), f _ (by omega), f _ (by omega)]
  exact a4 i hi
theorem mgf {h h' : Hp} {k m : Nat} {g : Nat → Pst} (H : MG h k m g) (f : ∀ i, i < 8 → h'.1 260 (8 * k + i) = h.1 260 (8 * k + i)) : MG h' k m g := by
  obtain ⟨a1, a2, a3, a4⟩ := H
  have f0 : h'.1 260 (8 * k) = h.1 260 (8 * k) := f 0 (by omega)
  refine ⟨a1, a2, by rw [f0, a3], ?_⟩
  intro i hi
  rw [f _ (by omega)]
  exact a4 i hi
/-- the four sorts, place k of row r -/
def X0 (h : Hp) (r k : Nat) : Prop := ∃ n, wI n ∧ CH h (tA r + 6 + 6 * k) n ∧ MH h (2 * r + k) n
def X1 (h : Hp) (r k : Nat) : Prop := ∃ m f, CL h (tA r + 18 + 8 * 0 + 4 * k) m f ∧ ME h (2 * r + k) m f ∧ ∀ i, i < m → wD (f i)
def X2 (h : Hp) (r k : Nat) : Prop := ∃ m f, CL h (tA r + 18 + 8 * 1 + 4 * k) m f ∧ MW h (2 * r + k) m f ∧ ∀ i, i < m → wW (f i)
def X3 (h : Hp) (r k : Nat) : Prop := ∃ m f, CL h (tA r + 18 + 8 * 2 + 4 * k) m f ∧ MG h (2 * r + k) m f ∧ ∀ i, i < m → wG (f i)
def XL (h : Hp) (r s k : Nat) : Prop := ∃ m, m ≤ ln (tA r + 18 + 8 * s + 4 * k + 1) ∧ h.1 (tA r + 18 + 8 * s + 4 * k) 3 = nI m
/-- a row's tape, its counts -/
def XT (h : Hp) (r len : Nat) : Prop := len ≤ 600 ∧ h.1 (tA r + 1) 1 = nI len ∧ h.1 253 r = nI len ∧ (∀ i, i < 600 → h.1 (tA r + 2) i = h.1 252 (600 * r + i) &&& nI 255)
def XC (h : Hp) (r : Nat) (c : Nat → Nat) : Prop := ∀ s, s < 4 → c s ≤ 2 ∧ h.1 (tA r + 5) s = nI (c s) ∧ h.1 256 (4 * r + s) = nI (c s)
theorem Rt_x {h : Hp} {r : Nat} : Rt h r ↔ (∃ len, XT h r len) ∧ (h.1 (tA r) 4 = h.1 254 r ∧ (r = 0 → h.1 (tA r) 5 = h.1 255 r)) ∧ (∃ c, XC h r c ∧ (∀ k, k < c 0 → X0 h r k) ∧ (∀ k, k < c 1 → X1 h r k) ∧ (∀ k, k < c 2 → X2 h r k) ∧ (∀ k, k < c 3 → X3 h r k)) ∧ ∀ s, s < 3 → ∀ k, k < 2 → XL h r s k := by
  constructor
  · rintro ⟨len, c, h1, h2, h3, h4, h5, h6, h7, h8, h9, h10, h11, h12⟩
    exact ⟨⟨len, h1, h2, h3, h4⟩, ⟨h5, h6⟩, ⟨c, h7, h8, h9, h10, h11⟩, h12⟩
  · rintro ⟨⟨len, h1, h2, h3, h4⟩, ⟨h5, h6⟩, ⟨c, h7, h8, h9, h10, h11⟩, h12⟩
    exact ⟨len, c, h1, h2, h3, h4, h5, h6, h7, h8, h9, h10, h11, h12⟩
theorem X0_fr {h h' : Hp} {r k : Nat} (H : X0 h r k) (f : ∀ c i, tA r + 6 + 6 * k ≤ c → c < tA r + 6 + 6 * k + 6 → h'.1 c i = h.1 c i) (g : ∀ i, i < 33 → h'.1 257 (33 * (2 * r + k) + i) = h.1 257 (33 * (2 * r + k) + i)) : X0 h' r k := by
  obtain ⟨n, hw, C, M⟩ := H
  exact ⟨n, hw, chf hw C f, mhf hw M g⟩
theorem X1_fr {h h' : Hp} {r k : Nat} (H : X1 h r k) (f : ∀ c i, tA r + 18 + 8 * 0 + 4 * k ≤ c → c < tA r + 18 + 8 * 0 + 4 * k + 4 → h'.1 c i = h.1 c i) (g : ∀ i, i < 121 → h'.1 258 (121 * (2 * r + k) + i) = h.1 258 (121 * (2 * r + k) + i)) : X1 h' r k := by
  obtain ⟨m, d, C, M, D⟩ := H
  exact ⟨m, d, clf C f, mef M g, D⟩
theorem X2_fr {h h' : Hp} {r k : Nat} (H : X2 h r k) (f : ∀ c i, tA r + 18 + 8 * 1 + 4 * k ≤ c → c < tA r + 18 + 8 * 1 + 4 * k + 4 → h'.1 c i = h.1 c i) (g : ∀ i, i < 31 → h'.1 259 (31 * (2 * r + k) + i) = h.1 259 (31 * (2 * r + k) + i)) : X2 h' r k := by
  obtain ⟨m, d, C, M, D⟩ := H
  exact ⟨m, d, clf C f, mwf M g, D⟩
theorem X3_fr {h h' : Hp} {r k : Nat} (H : X3 h r k) (f : ∀ c i, tA r + 18 + 8 * 2 + 4 * k ≤ c → c < tA r + 18 + 8 * 2 + 4 * k + 4 → h'.1 c i = h.1 c i) (g : ∀ i, i < 8 → h'.1 260 (8 * (2 * r + k) + i) = h.1 260 (8 * (2 * r + k) + i)) : X3 h' r k := by
  obtain ⟨m, d, C, M, D⟩ := H
  exact ⟨m, d, clf C f, mgf M g, D⟩
theorem XL_fr {h h' : Hp} {r s k : Nat} (H : XL h r s k) (f : h'.1 (tA r + 18 + 8 * s + 4 * k) 3 = h.1 (tA r + 18 + 8 * s + 4 * k) 3) : XL h' r s k := by
  obtain ⟨m, hm, e⟩ := H
  exact ⟨m, hm, by rw [f, e]⟩
/-- a row with another tape -/
theorem Rt_tp {h h' : Hp} {r len : Nat} (hr : r < 4) (H : Rt h r) (T : XT h' r len) (F : h'.1 (tA r) 4 = h'.1 254 r ∧ h'.1 (tA r) 5 = h'.1 255 r) (f : ∀ c i, (tA r + 5 ≤ c ∧ c < tA r + 42) ∨ (c = 256 ∧ 4 * r ≤ i ∧ i < 4 * r + 4) ∨ (c = 257 ∧ 66 * r ≤ i ∧ i < 66 * r + 66) ∨ (c = 258 ∧ 242 * r ≤ i ∧ i < 242 * r + 242) ∨ (c = 259 ∧ 62 * r ≤ i ∧ i < 62 * r + 62) ∨ (c = 260 ∧ 16 * r ≤ i ∧ i < 16 * r + 16) → h'.1 c i = h.1 c i) : Rt h' r := by
  rw [Rt_x] at H ⊢
  obtain ⟨-, -, ⟨c, h7, h8, h9, h10, h11⟩, h12⟩ := H
  refine ⟨⟨len, T⟩, ⟨F.1, fun _ => F.2⟩, ⟨c, ?_, ?_, ?_, ?_, ?_⟩, ?_⟩
  · intro s hs
    obtain ⟨a1, a2, a3⟩ := h7 s hs
    exact ⟨a1, by rw [f _ _ (by omega), a2], by rw [f 256 _ (by omega), a3]⟩
  · intro k hk
    have := (h7 0 (by omega)).1
    exact X0_fr (h8 k hk) (fun c i _ _ => f c i (by omega)) (fun i hi => f _ _ (by omega))
  · intro k hk
    have := (h7 1 (by omega)).1
    exact X1_fr (h9 k hk) (fun c i _ _ => f c i (by omega)) (fun i hi => f _ _ (by omega))
  · intro k hk
    have := (h7 2 (by omega)).1
    exact X2_fr (h10 k hk) (fun c i _ _ => f c i (by omega)) (fun i hi => f _ _ (by omega))
  · intro k hk
    have := (h7 3 (by omega)).1
    exact X3_fr (h11 k hk) (fun c i _ _ => f c i (by omega)) (fun i hi => f _ _ (by omega))
  · intro s hs k hk
    exact XL_fr (h12 s hs k hk) (f _ _ (by omega))
/-- all that is told, with another tape in the first row -/
theorem inv_tp {h h' : Hp} {len : Nat} (I : Inv h) (T : XT h' 0 len) (f : ∀ c i, toldC c → ¬ ((c = 3 ∧ i = 1) ∨ c = 4 ∨ (c = 253 ∧ i = 0) ∨ (c = 252 ∧ i < 600)) → h'.1 c i = h.1 c i) : Inv h' := by
  have o : ∀ c i, ((2 ≤ c ∧ c ≤ 45) ∨ (125 ≤ c ∧ c ≤ 250) ∨ (252 ≤ c ∧ c ≤ 260) ∨ c = 280) → ¬ ((c = 3 ∧ i = 1) ∨ c = 4 ∨ (c = 253 ∧ i = 0) ∨ (c = 252 ∧ i < 600)) → h'.1 c i = h.1 c i := f
  have e0 : tA 0 = 2 := rfl
  refine ⟨?_, ?_⟩
  · intro r hr
    rcases tA_le hr with ⟨rfl, e⟩ | ⟨h1, e⟩
    · obtain ⟨-, ⟨a1, a2⟩, -⟩ := Rt_x.mp (I.1 0 hr)
      replace a2 := a2 rfl
      rw [e0] at a1 a2
      refine Rt_tp hr (I.1 0 hr) T ⟨?_, ?_⟩ (fun c i hc => o c i (by omega) (by omega))
      · rw [e0, o 2 4 (by omega) (by omega), o 254 0 (by omega) (by omega), a1]
      · rw [e0, o 2 5 (by omega) (by omega), o 255 0 (by omega) (by omega), a2]
    · refine Rt_fr hr (I.1 r hr) (fun c i hc => ?_)
      have hc' : (tA r ≤ c ∧ c < tA r + 42) ∨ (c = 252 ∧ 600 * r ≤ i ∧ i < 600 * r + 600) ∨ (253 ≤ c ∧ c ≤ 255 ∧ i = r) ∨ (c = 256 ∧ 4 * r ≤ i ∧ i < 4 * r + 4) ∨ (c = 257 ∧ 66 * r ≤ i ∧ i < 66 * r + 66) ∨ (c = 258 ∧ 242 * r ≤ i ∧ i < 242 * r + 242) ∨ (c = 259 ∧ 62 * r ≤ i ∧ i < 62 * r + 62) ∨ (c = 260 ∧ 16 * r ≤ i ∧ i < 16 * r + 16) := hc
      exact o c i (by omega) (by omega)
  · intro k hk
    obtain ⟨b, e1, e2, e3⟩ := I.2 k hk
    have ea := tA_le (r := k + 1) (by omega)
    exact ⟨b, by rw [o 45 k (by omega) (by omega), e1], by rw [o 280 k (by omega) (by omega), e2], fun eb => by rw [o (tA (k + 1)) 5 (by omega) (by omega), o 255 (k + 1) (by omega) (by omega), e3 eb]⟩
/-- w words taken -/
def TK (h : Hp) (f : Nat → Int32) (l w : Nat) (h' : Hp) : Prop := h'.1 3 1 = nI (l + 4 * w) ∧ (∀ i, i < 4 * w → h'.1 4 (l + i) = kyB (f (i / 4)) (i % 4)) ∧ Fr (fun c i => (c = 3 ∧ i = 1) ∨ (c = 4 ∧ l ≤ i ∧ i < l + 20)) h h'
def TM (h : Hp) (f : Nat → Int32) (l w : Nat) (h' : Hp) : Prop := h'.1 253 0 = nI (l + 4 * w) ∧ (∀ i, i < 4 * w → h'.1 252 (l + i) = myB (f (i / 4)) (i % 4)) ∧ Fr (fun c i => (c = 253 ∧ i = 0) ∨ (c = 252 ∧ l ≤ i ∧ i < l + 20)) h h'
theorem tk_s {h h' : Hp} {f : Nat → Int32} {l w : Nat} (H : TK h f l w h') (hw : w < 5) (hl : l + 20 ≤ 600) : Okk (T_takeOne h' 3 (f w)) (TK h f l (w + 1)) := by
  obtain ⟨a, b, c⟩ := H
  refine okw (q_take (f w) a (by omega)) ?_
  rintro h2 ⟨a2, b2, c2⟩
  refine ⟨by rw [a2, show l + 4 * w + 4 = l + 4 * (w + 1) by omega], ?_, fr_tr c (fr_mo c2 (by rintro x i (h1 | h1) <;> omega))⟩
  intro i hi
  by_cases c0 : i < 4 * w
  · rw [c2 4 (l + i) (by omega), b i c0]
  · have := b2 (i - 4 * w) (by omega)
    rw [show l + 4 * w + (i - 4 * w) = l + i by omega] at this
    rw [this, show i / 4 = w by omega, show i % 4 = i - 4 * w by omega]
theorem tm_s {h h' : Hp} {f : Nat → Int32} {l w : Nat} (H : TM h f l w h') (hw : w < 5) (hl : l + 20 ≤ 600) : Okk (M_four h' (f w)) (TM h f l (w + 1)) := by
  obtain ⟨a, b, c⟩ := H
  refine okw (q_four (f w) a (by omega)) ?_
  rintro h2 ⟨a2, b2, c2⟩
  refine ⟨by rw [a2, show l + 4 * w + 4 = l + 4 * (w + 1) by omega], ?_, fr_tr c (fr_mo c2 (by rintro x i (h1 | h1) <;> omega))⟩
  intro i hi
  by_cases c0 : i < 4 * w
  · rw [c2 252 (l + i) (by omega), b i c0]
  · have := b2 (i - 4 * w) (by omega)
    rw [show l + 4 * w + (i - 4 * w) = l + i by omega] at this
    rw [this, show i / 4 = w by omega, show i % 4 = i - 4 * w by omega]
theorem cl0 : Int32.toNatClampNeg 0 = 0 := by decide +kernel
theorem t_feed {h : Hp} (I : Inv h) (x1 x2 x3 x4 x5 : Int32) : Sm (K_feed h x1 x2 x3 x4 x5) (fun h1 => M_feed h1 x1 x2 x3 x4 x5) := by
  obtain ⟨⟨len, t1, t2, t3, t4⟩, -⟩ := Rt_x.mp (I.1 0 (by omega))
  have t2' : h.1 3 1 = nI len := t2
  have t4' : ∀ i, i < 600 → h.1 4 i = h.1 252 i &&& nI 255 := fun i hi => by
    have := t4 i hi
    rw [show 600 * 0 + i = i by omega] at this
    exact this
  have k3 : kd 3 = 8 ∧ kd 4 = 20 ∧ ln 4 = 600 := by decide +kernel
  obtain ⟨f, e1, e2, e3, e4, e5⟩ : ∃ f : Nat → Int32, f 0 = x1 ∧ f 1 = x2 ∧ f 2 = x3 ∧ f 3 = x4 ∧ f 4 = x5 := ⟨fun k => if k = 0 then x1 else if k = 1 then x2 else if k = 2 then x3 else if k = 3 then x4 else x5, rfl, rfl, rfl, rfl, rfl⟩
  unfold K_feed T_takeFive
  rw [if_pos k3.1, t2', if_pos (show 20 ≤ kd (3 + 1) ∧ kd (3 + 1) < 27 by rw [show 3 + 1 = 4 from rfl, k3.2.1]; omega), show Int32.ofNat (ln (3 + 1)) - (20 : Int32) = nI 580 by rw [show 3 + 1 = 4 from rfl, k3.2.2]; exact pk_sub (a := 600) (b := 20) (by omega)]
  by_cases c : len ≤ 580
  · rw [if_pos (show nI len ≤ nI 580 by rw [i_le, nI_toInt (by omega), nI_toInt (by omega)]; omega), ← e1, ← e2, ← e3, ← e4, ← e5]
    refine okb (P := fun r => r.1 = nI (len + 20) ∧ TK h f len 5 r.2) ?_ ?_
    · refine okb (tk_s (w := 0) ⟨t2', fun i hi => absurd hi (by omega), fr_rfl⟩ (by omega) (by omega)) (fun h3 H3 => ?_)
      refine okb (tk_s H3 (by omega) (by omega)) (fun h4 H4 => ?_)
      refine okb (tk_s H4 (by omega) (by omega)) (fun h5 H5 => ?_)
      refine okb (tk_s H5 (by omega) (by omega)) (fun h6 H6 => ?_)
      refine okb (tk_s H6 (by omega) (by omega)) (fun h7 H7 => ?_)
      exact ok_mk ⟨H7.1, H7⟩
    rintro ⟨r1, h1⟩ ⟨rfl, KK1, KK2, KK3⟩
    refine ok_mk ?_
    dsimp only
    unfold M_feed
    rw [bnd_eq, cl0, wr_c _ _ _ _ (by omega)]
    have m3 : h1.1 253 0 = nI len := by
      rw [KK3 253 0 (by omega)]
      exact t3
    rw [m3, if_pos (show nI len + (20 : Int32) ≤ (600 : Int32) by rw [show nI len + (20 : Int32) = nI (len + 20) from nI_add _ _, i_le, nI_toInt (by omega)]; show ((len + 20 : Nat) : Int) ≤ (600 : Int); omega)]
    refine okb (P := TM (wr h1 251 0 0) f len 1) (tm_s (w := 0) ⟨by rw [wr_c _ _ _ _ (by omega), m3]; rfl, fun i hi => absurd hi (by omega), fr_rfl⟩ (by omega) (by omega)) (fun h3 H3 => ?_)
    refine okb (tm_s H3 (by omega) (by omega)) (fun h4 H4 => ?_)
    refine okb (tm_s H4 (by omega) (by omega)) (fun h5 H5 => ?_)
    refine okb (tm_s H5 (by omega) (by omega)) (fun h6 H6 => ?_)
    refine okb (tm_s H6 (by omega) (by omega)) (fun h7 H7 => ?_)
    obtain ⟨M1, M2, M3⟩ := H7
    have M3' : ∀ c i, ¬ ((c = 253 ∧ i = 0) ∨ (c = 252 ∧ len ≤ i ∧ i < len + 20)) → h7.1 c i = (wr h1 251 0 0).1 c i := M3
    have KK3' : ∀ c i, ¬ ((c = 3 ∧ i = 1) ∨ (c = 4 ∧ len ≤ i ∧ i < len + 20)) → h1.1 c i = h.1 c i := KK3
    refine ok_mk ⟨M1, inv_tp (len := len + 20) I ⟨by omega, ?_, M1, ?_⟩ ?_⟩
    · show h7.1 3 1 = _
      rw [M3' 3 1 (by omega), wr_c _ _ _ _ (by omega), KK1]
    · intro i hi
      show h7.1 4 i = _
      rw [show 600 * 0 + i = i by omega, M3' 4 i (by omega), wr_c _ _ _ _ (by omega)]
      by_cases ci : len ≤ i ∧ i < len + 20
      · have q1 := KK2 (i - len) (by omega)
        have q2 := M2 (i - len) (by omega)
        rw [show len + (i - len) = i by omega] at q1 q2
        rw [q1, q2, by_eq _ (by omega)]
      · rw [M3' 252 i (by omega), wr_c _ _ _ _ (by omega), KK3' 4 i (by omega), KK3' 252 i (by omega), t4' i hi]
    · intro c i hc hn
      have hc' : (2 ≤ c ∧ c ≤ 45) ∨ (125 ≤ c ∧ c ≤ 250) ∨ (252 ≤ c ∧ c ≤ 260) ∨ c = 280 := hc
      rw [M3' c i (by omega), wr_c _ _ _ _ (by omega), KK3' c i (by omega)]
  · rw [if_neg (show ¬ nI len ≤ nI 580 by rw [i_le, nI_toInt (by omega), nI_toInt (by omega)]; omega)]
    refine ok_mk ?_
    dsimp only
    unfold M_feed
    rw [bnd_eq, cl0, wr_c _ _ _ _ (by omega), show h.1 253 0 = nI len from t3, if_neg (show ¬ nI len + (20 : Int32) ≤ (600 : Int32) by rw [show nI len + (20 : Int32) = nI (len + 20) from nI_add _ _, i_le, nI_toInt (by omega)]; show ¬ ((len + 20 : Nat) : Int) ≤ (600 : Int); omega)]
    exact ok_mk ⟨rfl, inv_fr I w251⟩
theorem t_end {h : Hp} (I : Inv h) (x1 : Int32) : Sm (K_end h x1) (fun h1 => M_end h1 x1) := by
  obtain ⟨⟨len, t1, t2, t3, t4⟩, -⟩ := Rt_x.mp (I.1 0 (by omega))
  have t2' : h.1 3 1 = nI len := t2
  have k3 : kd 3 = 8 := by decide +kernel
  have em : ∀ h1 : Hp, h1.1 253 0 = nI len → M_end h1 x1 = if iz x1 0 (len + 1) = true then some (x1, wr (wr h1 251 0 0) 253 0 x1) else some (jN 1, wr h1 251 0 0) := by
    intro h1 e
    unfold M_end
    rw [bnd_eq, cl0, wr_c _ _ _ _ (by omega), e, show M_in x1 (0 : Int32) (nI len) = some (bI (iz x1 0 (len + 1 - 0))) from q_in x1 (a := 0) (by omega) (by omega), sb, bI_it0]
    rfl
  have no : K_end h x1 = some (jN 1, h) → iz x1 0 (len + 1) = false → Sm (K_end h x1) (fun h1 => M_end h1 x1) := by
    intro e1 e2
    unfold Sm
    rw [e1]
    refine ok_mk ?_
    dsimp only
    rw [em h t3, if_neg (by rw [e2]; exact Bool.false_ne_true)]
    exact ok_mk ⟨rfl, inv_fr I w251⟩
  have ek : K_end h x1 = if x1 < 0 then some (jN 1, h) else if x1 ≤ nI len then some (x1, wr h 3 1 x1) else some (jN 1, h) := by
    unfold K_end T_cutTo T_cutTo_j12
    rw [if_pos k3, t2']
    by_cases c1 : x1 < 0
    · rw [if_pos c1, if_pos c1]; rfl
    · rw [if_neg c1, if_neg c1]
      by_cases c2 : x1 ≤ nI len
      · rw [if_pos c2, if_pos c2]; rfl
      · rw [if_neg c2, if_neg c2]; rfl
  have e0 : (0 : Int32).toInt = 0 := rfl
  by_cases c1 : x1 < 0
  · refine no (by rw [ek, if_pos c1]) ?_
    rw [i_lt, e0] at c1
    refine eq_false_of_ne_true (fun c => ?_)
    rw [iz_iff] at c
    omega
  by_cases c2 : x1 ≤ nI len
  · have cz : iz x1 0 (len + 1) = true := by
      rw [i_lt, e0] at c1
      rw [i_le, nI_toInt (by omega)] at c2
      rw [iz_iff]
      omega
    obtain ⟨l, hl, -, rfl⟩ := iz_0 cz
    unfold Sm
    rw [ek, if_neg c1, if_pos c2]
    refine ok_mk ?_
    dsimp only
    rw [em _ (by rw [wr_c _ _ _ _ (by omega)]; exact t3), if_pos cz]
    refine ok_mk ⟨rfl, inv_tp (len := l) I ⟨by omega, ?_, ?_, ?_⟩ ?_⟩
    · show (wr (wr (wr h 3 1 (nI l)) 251 0 0) 253 0 (nI l)).1 3 1 = _
      rw [wr_c _ _ _ _ (by omega), wr_c _ _ _ _ (by omega), wr_at]
    · exact wr_at _ _ _ _
    · intro i hi
      show (wr (wr (wr h 3 1 (nI l)) 251 0 0) 253 0 (nI l)).1 4 i = (wr (wr (wr h 3 1 (nI l)) 251 0 0) 253 0 (nI l)).1 252 (600 * 0 + i) &&& nI 255
      rw [wr_c _ _ _ _ (by omega), wr_c _ _ _ _ (by omega), wr_c _ _ _ _ (by omega), wr_c _ _ _ _ (by omega), wr_c _ _ _ _ (by omega), wr_c _ _ _ _ (by omega)]
      exact t4 i hi
    · intro c i hc hn
      have hc' : (2 ≤ c ∧ c ≤ 45) ∨ (125 ≤ c ∧ c ≤ 250) ∨ (252 ≤ c ∧ c ≤ 260) ∨ c = 280 := hc
      rw [wr_i, if_neg (by omega), wr_i, if_neg (by omega), wr_i, if_neg (by omega)]
  · refine no (by rw [ek, if_neg c1, if_neg c2]) ?_
    rw [i_le, nI_toInt (by omega)] at c2
    refine eq_false_of_ne_true (fun c => ?_)
    rw [iz_iff] at c
    omega
