/-! ===== L3: images ===== -/
theorem cpy_c {h : Hp} {a b k n : Nat} (q : Nat) (hk : k ≠ b) : (cpy h a 0 b 0 n).1 k q = h.1 k q := if_neg (fun e => hk e.1)
theorem cpy_at {h : Hp} {a b q n : Nat} (hq : q < n) : (cpy h a 0 b 0 n).1 b q = h.1 a q := by
  show (if b = b ∧ 0 ≤ q ∧ q < 0 + n then h.1 a (0 + (q - 0)) else h.1 b q) = _
  rw [if_pos ⟨rfl, by omega, by omega⟩, show 0 + (q - 0) = q by omega]
theorem cpy_hi {h : Hp} {a b q n : Nat} (k : Nat) (hq : n ≤ q) : (cpy h a 0 b 0 n).1 k q = h.1 k q := if_neg (fun e => by omega)
theorem cls : Int32.toNatClampNeg 0 = 0 ∧ Int32.toNatClampNeg 5 = 5 ∧ Int32.toNatClampNeg 8 = 8 ∧ Int32.toNatClampNeg 4 = 4 ∧ (¬ (0 : Int32) < 0 ∧ ¬ (0 : Int32) < 0 ∧ ¬ (5 : Int32) < 0) ∧ (¬ (0 : Int32) < 0 ∧ ¬ (0 : Int32) < 0 ∧ ¬ (8 : Int32) < 0) ∧ (¬ (0 : Int32) < 0 ∧ ¬ (0 : Int32) < 0 ∧ ¬ (4 : Int32) < 0) ∧ (¬ (0 : Int32) < 0 ∧ ¬ (0 : Int32) < 0 ∧ ¬ Int32.ofNat 600 < 0) ∧ Int32.toNatClampNeg (Int32.ofNat 600) = 600 := by decide +kernel
theorem q_hcopy {h : Hp} {a a' : Nat} (hk : kd a = 1) (hk' : kd a' = 1) (dj : a + 6 ≤ a' ∨ a' + 6 ≤ a) : Okk (H_copyFrom h a' a) (fun h' => (∀ j i, j < 6 → (j = 0 → i = 5 ∨ i = 6) → (0 < j → i < 8) → (j ≤ 3 → 0 < j → i < 5) → h'.1 (a' + j) i = h.1 (a + j) i) ∧ Fr (fun c _ => a' ≤ c ∧ c < a' + 6) h h') := by
  obtain ⟨k1, k2, k3, k4, k5, l1, l2, l3, l4, l5⟩ := hs_kd hk
  obtain ⟨k1', k2', k3', k4', k5', l1', l2', l3', l4', l5'⟩ := hs_kd hk'
  obtain ⟨z0, z5, z8, z4, n5, n8, -⟩ := cls
  unfold H_copyFrom
  rw [if_pos hk', if_pos hk, bnd_eq, bnd_eq, if_pos ⟨⟨k1, k1'⟩, n5, by rw [z0, z5, l1]; omega, by rw [z0, z5, l1']; omega⟩, bnd_eq, if_pos ⟨⟨k2, k2'⟩, n5, by rw [z0, z5, l2]; omega, by rw [z0, z5, l2']; omega⟩, bnd_eq, if_pos ⟨⟨k3, k3'⟩, n5, by rw [z0, z5, l3]; omega, by rw [z0, z5, l3']; omega⟩, bnd_eq, if_pos ⟨⟨k4, k4'⟩, n8, by rw [z0, z8, l4]; omega, by rw [z0, z8, l4']; omega⟩, bnd_eq, if_pos ⟨⟨k5, k5'⟩, n8, by rw [z0, z8, l5]; omega, by rw [z0, z8, l5']; omega⟩, bnd_eq, z0, z5, z8]
  refine ok_mk ⟨?_, ?_⟩
  · intro j i hj c0 c1 c2
    rcases (by omega : j = 0 ∨ j = 1 ∨ j = 2 ∨ j = 3 ∨ j = 4 ∨ j = 5) with rfl | rfl | rfl | rfl | rfl | rfl
    · rcases c0 rfl with rfl | rfl
      · simp (disch := omega) only [cpy_c, wr_c, wr_p, Nat.add_zero, wr_at]
      · simp (disch := omega) only [cpy_c, wr_c, wr_p, Nat.add_zero, wr_at]
    · have := c2 (by omega) (by omega)
      simp (disch := omega) only [cpy_c, cpy_at, wr_c]
    · have := c2 (by omega) (by omega)
      simp (disch := omega) only [cpy_c, cpy_at, wr_c]
    · have := c2 (by omega) (by omega)
      simp (disch := omega) only [cpy_c, cpy_at, wr_c]
    · have := c1 (by omega)
      simp (disch := omega) only [cpy_c, cpy_at, wr_c]
    · have := c1 (by omega)
      simp (disch := omega) only [cpy_c, cpy_at, wr_c]
  · intro c i hc
    have hc' : ¬ (a' ≤ c ∧ c < a' + 6) := hc
    simp (disch := omega) only [cpy_c, wr_c]
theorem q_ladd {h : Hp} {a k : Nat} (hk : kd a = 2) (h3 : h.1 a 3 = nI k) (hl : k < ln (a + 1)) (x y z : Int32) : L_add h a x y z = some (wr (wr (wr (wr h (a + 1) k x) (a + 2) k y) (a + 3) k z) a 3 (nI (k + 1))) := by
  obtain ⟨k1, k2, k3, l0, l2, l3⟩ := li_kd hk
  unfold L_add L_add_j52
  rw [if_pos hk, if_pos (by rw [k1]; omega), h3, if_neg (show ¬ Int32.ofNat (ln (a + 1)) ≤ nI k from fun c => by have c2 : nI (ln (a + 1)) ≤ nI k := c; rw [i_le, nI_toInt (by omega), nI_toInt (by omega)] at c2; omega), if_pos ⟨k1, nI_in hl (by omega)⟩, bnd_eq, nI_clamp (by omega), wr_c _ _ _ _ (show a ≠ a + 1 by omega), h3, if_pos ⟨k2, by rw [l2]; exact nI_in hl (by omega)⟩, bnd_eq, nI_clamp (by omega), wr_c _ _ _ _ (show a ≠ a + 2 by omega), wr_c _ _ _ _ (show a ≠ a + 1 by omega), h3, if_pos ⟨k3, by rw [l3]; exact nI_in hl (by omega)⟩, bnd_eq, nI_clamp (by omega), wr_c _ _ _ _ (show a ≠ a + 3 by omega), wr_c _ _ _ _ (show a ≠ a + 2 by omega), wr_c _ _ _ _ (show a ≠ a + 1 by omega), h3, bnd_eq, show nI k + (1 : Int32) = nI (k + 1) from nI_add _ _]
theorem q_lcopy {h : Hp} {a a' m : Nat} (hk : kd a = 2) (hk' : kd a' = 2) (dj : a + 4 ≤ a' ∨ a' + 4 ≤ a) (h3 : h.1 a 3 = nI m) (hm : m ≤ ln (a + 1)) (hl : ln (a' + 1) = ln (a + 1)) : Okk (L_copyFrom h a' a) (fun h' => h'.1 a' 3 = nI m ∧ (∀ i, i < m → ∀ j, 1 ≤ j → j < 4 → h'.1 (a' + j) i = h.1 (a + j) i) ∧ Fr (fun c _ => a' ≤ c ∧ c < a' + 4) h h') := by
  obtain ⟨k1, k2, k3, l0, l2, l3⟩ := li_kd hk
  unfold L_copyFrom L_clear L_copyFrom_l6
  rw [if_pos hk', if_pos hk', bnd_eq, sb]
  refine lp_for _ m (fun k s => s.1 = nI k ∧ s.2.1 a' 3 = nI k ∧ (∀ i, i < k → ∀ j, 1 ≤ j → j < 4 → s.2.1 (a' + j) i = h.1 (a + j) i) ∧ Fr (fun c _ => a' ≤ c ∧ c < a' + 4) h s.2) _ ?_ ?_ 0 _ (by omega) ⟨rfl, wr_at _ _ _ _, fun i hi => absurd hi (by omega), fr_wr ⟨by omega, by omega⟩⟩
  · rintro k ⟨s1, g⟩ hk2 ⟨e1, e2, e3, e4⟩
    dsimp only at e1 e2 e3 e4
    subst e1
    have o : ∀ c i, ¬ (a' ≤ c ∧ c < a' + 4) → g.1 c i = h.1 c i := e4
    have C : CL g a m (fun i => (h.1 (a + 1) i, h.1 (a + 2) i, h.1 (a + 3) i)) := ⟨hk, by rw [o a 3 (by omega), h3], hm, fun i hi => ⟨o _ _ (by omega), o _ _ (by omega), o _ _ (by omega)⟩⟩
    obtain ⟨g1, g2, g3⟩ := q_lget C hk2
    unfold L_copyFrom_b6
    dsimp only
    rw [if_pos hk, C.2.1, if_neg (show ¬ nI m ≤ nI k from fun c => by rw [i_le, nI_toInt (by omega), nI_toInt (by omega)] at c; omega), g1, sb, g2, sb, g3, sb, q_ladd hk' e2 (by omega), sb, bnd_eq]
    refine ok_mk ⟨nI_add _ _, wr_at _ _ _ _, ?_, ?_⟩
    · intro i hi j h1 h2
      dsimp only
      by_cases c : i = k
      · subst c
        rcases (by omega : j = 1 ∨ j = 2 ∨ j = 3) with rfl | rfl | rfl
        · simp (disch := omega) only [wr_c, wr_at]
        · simp (disch := omega) only [wr_c, wr_at]
        · simp (disch := omega) only [wr_c, wr_at]
      · simp (disch := omega) only [wr_c, wr_p]
        exact e3 i (by omega) j h1 h2
    · exact fr_tr e4 (fr_tr (fr_wr ⟨by omega, by omega⟩) (fr_tr (fr_wr ⟨by omega, by omega⟩) (fr_tr (fr_wr ⟨by omega, by omega⟩) (fr_wr ⟨by omega, by omega⟩))))
  · rintro ⟨s1, g⟩ ⟨e1, e2, e3, e4⟩
    dsimp only at e1 e2 e3 e4
    subst e1
    have o : ∀ c i, ¬ (a' ≤ c ∧ c < a' + 4) → g.1 c i = h.1 c i := e4
    unfold L_copyFrom_b6 L_copyFrom_j39
    dsimp only
    rw [if_pos hk, o a 3 (by omega), h3, if_pos (show nI m ≤ nI m from by rw [i_le]; omega)]
    exact ok_mk ⟨e2, e3, e4⟩
/-- what the code copies of a row -/
def CyK (h h' : Hp) (r r' : Nat) : Prop := h'.1 (tA r' + 1) 1 = h.1 (tA r + 1) 1 ∧ (∀ i, i < 600 → h'.1 (tA r' + 2) i = h.1 (tA r + 2) i) ∧ (h'.1 (tA r') 4 = h.1 (tA r) 4 ∧ h'.1 (tA r') 5 = h.1 (tA r) 5) ∧ (∀ s, s < 4 → h'.1 (tA r' + 5) s = h.1 (tA r + 5) s) ∧ (∀ k, k < 2 → ∀ j i, j < 6 → (j = 0 → i = 5 ∨ i = 6) → (0 < j → i < 8) → (j ≤ 3 → 0 < j → i < 5) → h'.1 (tA r' + 6 + 6 * k + j) i = h.1 (tA r + 6 + 6 * k + j) i) ∧ (∀ s, s < 3 → ∀ k, k < 2 → ∀ m, m ≤ ln (tA r + 18 + 8 * s + 4 * k + 1) → h.1 (tA r + 18 + 8 * s + 4 * k) 3 = nI m → h'.1 (tA r' + 18 + 8 * s + 4 * k) 3 = nI m ∧ ∀ i, i < m → ∀ j, 1 ≤ j → j < 4 → h'.1 (tA r' + 18 + 8 * s + 4 * k + j) i = h.1 (tA r + 18 + 8 * s + 4 * k + j) i)
/-- what is copied first -/
def CyA (h h' : Hp) (r r' : Nat) : Prop := h'.1 (tA r' + 1) 1 = h.1 (tA r + 1) 1 ∧ (∀ i, i < 600 → h'.1 (tA r' + 2) i = h.1 (tA r + 2) i) ∧ (h'.1 (tA r') 4 = h.1 (tA r) 4 ∧ h'.1 (tA r') 5 = h.1 (tA r) 5) ∧ (∀ s, s < 4 → h'.1 (tA r' + 5) s = h.1 (tA r + 5) s)
/-- the houses below q -/
def CyH (h h' : Hp) (r r' q : Nat) : Prop := ∀ k, k < q → ∀ j i, j < 6 → (j = 0 → i = 5 ∨ i = 6) → (0 < j → i < 8) → (j ≤ 3 → 0 < j → i < 5) → h'.1 (tA r' + 6 + 6 * k + j) i = h.1 (tA r + 6 + 6 * k + j) i
/-- the lines below q -/
def CyL (h h' : Hp) (r r' q : Nat) : Prop := ∀ s, s < 3 → ∀ k, k < 2 → 2 * (s + 1) + k < q → ∀ m, m ≤ ln (tA r + 18 + 8 * s + 4 * k + 1) → h.1 (tA r + 18 + 8 * s + 4 * k) 3 = nI m → h'.1 (tA r' + 18 + 8 * s + 4 * k) 3 = nI m ∧ ∀ i, i < m → ∀ j, 1 ≤ j → j < 4 → h'.1 (tA r' + 18 + 8 * s + 4 * k + j) i = h.1 (tA r + 18 + 8 * s + 4 * k + j) i
def rowF (r : Nat) : Nat → Nat → Prop := fun c _ => tA r ≤ c ∧ c < tA r + 42
theorem tA_dj {r r' : Nat} (hr : r < 4) (hr' : r' < 4) (hne : r ≠ r') : tA r + 42 ≤ tA r' ∨ tA r' + 42 ≤ tA r := by
  have ea := tA_le hr
  have ea' := tA_le hr'
  omega
theorem q_dlines {h g : Hp} {r r' : Nat} (hr : r < 4) (hr' : r' < 4) (hne : r ≠ r') (H : ∀ s, s < 3 → ∀ k, k < 2 → XL h r s k) (a1 : CyA h g r r') (a2 : CyH h g r r' 2) (a3 : Fr (rowF r') h g) : Okk (D_copyFrom_l75 (tA r') (tA r) 2 g) (fun h' => CyK h h' r r' ∧ Fr (rowF r') h h') := by
  obtain ⟨kA, kB, kC, lC, kD, lD, kE, lE, kF, lF, kH, kL⟩ := tA_kd r hr
  obtain ⟨kA', kB', kC', lC', kD', lD', kE', lE', kF', lF', kH', kL'⟩ := tA_kd r' hr'
  have dj := tA_dj hr hr' hne
  unfold D_copyFrom_l75
  refine lp_for _ 8 (fun q s => 2 ≤ q ∧ s.1 = nI q ∧ CyA h s.2 r r' ∧ CyH h s.2 r r' 2 ∧ CyL h s.2 r r' q ∧ Fr (rowF r') h s.2) _ ?_ ?_ 2 _ (by omega) ⟨by omega, rfl, a1, a2, fun s _ k _ c => absurd c (by omega), a3⟩
  · rintro q ⟨s1, g1⟩ hq ⟨q2, e1, b1, b2, b3, b4⟩
    dsimp only at e1 b1 b2 b3 b4
    subst e1
    obtain ⟨s, k, hs, hk, rfl⟩ : ∃ s k, s < 3 ∧ k < 2 ∧ q = 2 * (s + 1) + k := ⟨q / 2 - 1, q % 2, by omega, by omega, by omega⟩
    have o : ∀ c i, ¬ (tA r' ≤ c ∧ c < tA r' + 42) → g1.1 c i = h.1 c i := b4
    obtain ⟨m, hm, em⟩ := H s hs k hk
    obtain ⟨u1, u2, u3⟩ := kL s hs k hk
    obtain ⟨v1, v2, v3⟩ := kL' s hs k hk
    unfold D_copyFrom_b75
    dsimp only
    rw [if_pos (by rw [kE']; omega), lE', if_neg (show ¬ Int32.ofNat 8 ≤ nI (2 * (s + 1) + k) from fun c => by have c2 : nI 8 ≤ nI (2 * (s + 1) + k) := c; rw [i_le, nI_toInt (by omega), nI_toInt (by omega)] at c2; omega), if_pos ⟨by rw [kE']; omega, nI_in (by omega) (by omega)⟩, if_pos kA, if_pos ⟨by rw [kE]; omega, by rw [lE]; exact nI_in (by omega) (by omega)⟩, nI_clamp (by omega), v1, u1, if_pos v2]
    refine okb (q_lcopy u2 v2 (by omega) (show g1.1 (tA r + 18 + 8 * s + 4 * k) 3 = nI m by rw [o _ _ (by omega), em]) hm (by rw [v3, u3])) ?_
    rintro g2 ⟨c1, c2, c3⟩
    have o2 : ∀ c i, ¬ (tA r' + 18 + 8 * s + 4 * k ≤ c ∧ c < tA r' + 18 + 8 * s + 4 * k + 4) → g2.1 c i = g1.1 c i := c3
    rw [bnd_eq]
    refine ok_mk ⟨by omega, nI_add _ 1, ?_, ?_, ?_, ?_⟩
    · obtain ⟨d1, d2, ⟨d3, d4⟩, d5⟩ := b1
      refine ⟨?_, ?_, ⟨?_, ?_⟩, ?_⟩
      · rw [o2 _ _ (by omega), d1]
      · intro i hi
        rw [o2 _ _ (by omega), d2 i hi]
      · rw [o2 _ _ (by omega), d3]
      · rw [o2 _ _ (by omega), d4]
      · intro s hs
        rw [o2 _ _ (by omega), d5 s hs]
    · intro k2 hk2 j i hj x1 x2 x3
      dsimp only
      rw [o2 _ _ (by omega)]
      exact b2 k2 hk2 j i hj x1 x2 x3
    · intro s2 hs2 k2 hk2 hlt m2 hm2 em2
      dsimp only
      by_cases cc : s2 = s ∧ k2 = k
      · obtain ⟨rfl, rfl⟩ := cc
        have emm : nI m2 = nI m := by rw [← em2, em]
        rw [emm]
        have : m2 = m := by
          by_cases c : m2 = m
          · exact c
          · have l40 := (li_kd u2).2.2.2.1
            exact absurd emm (ne_nI (by omega) (by omega) c)
        subst this
        refine ⟨c1, ?_⟩
        intro i hi j h1 h2
        rw [c2 i hi j h1 h2, o _ _ (by omega)]
      · obtain ⟨d1, d2⟩ := b3 s2 hs2 k2 hk2 (by omega) m2 hm2 em2
        refine ⟨by rw [o2 _ _ (by omega), d1], ?_⟩
        intro i hi j h1 h2
        rw [o2 _ _ (by omega), d2 i hi j h1 h2]
    · refine fr_tr b4 (fr_mo c3 ?_)
      rintro c i ⟨h1, h2⟩
      exact ⟨by omega, by omega⟩
  · rintro ⟨s1, g1⟩ ⟨q2, e1, b1, b2, b3, b4⟩
    dsimp only at e1 b1 b2 b3 b4
    subst e1
    unfold D_copyFrom_b75 D_copyFrom_j105
    dsimp only
    rw [if_pos (by rw [kE']; omega), lE', if_pos (show Int32.ofNat 8 ≤ nI 8 by decide +kernel)]
    obtain ⟨d1, d2, d3, d5⟩ := b1
    exact ok_mk ⟨⟨d1, d2, d3, d5, b2, fun s hs k hk => b3 s hs k hk (by omega)⟩, b4⟩
theorem q_dhouses {h g : Hp} {r r' : Nat} (hr : r < 4) (hr' : r' < 4) (hne : r ≠ r') (H : ∀ s, s < 3 → ∀ k, k < 2 → XL h r s k) (a1 : CyA h g r r') (a3 : Fr (rowF r') h g) : Okk (D_copyFrom_l43 (tA r') (tA r) 0 g) (fun h' => CyK h h' r r' ∧ Fr (rowF r') h h') := by
  obtain ⟨kA, kB, kC, lC, kD, lD, kE, lE, kF, lF, kH, kL⟩ := tA_kd r hr
  obtain ⟨kA', kB', kC', lC', kD', lD', kE', lE', kF', lF', kH', kL'⟩ := tA_kd r' hr'
  have dj := tA_dj hr hr' hne
  unfold D_copyFrom_l43
  refine lp_for _ 2 (fun q s => s.1 = nI q ∧ CyA h s.2 r r' ∧ CyH h s.2 r r' q ∧ Fr (rowF r') h s.2) _ ?_ ?_ 0 _ (by omega) ⟨rfl, a1, fun k c => absurd c (by omega), a3⟩
  · rintro q ⟨s1, g1⟩ hq ⟨e1, b1, b2, b4⟩
    dsimp only at e1 b1 b2 b4
    subst e1
    have o : ∀ c i, ¬ (tA r' ≤ c ∧ c < tA r' + 42) → g1.1 c i = h.1 c i := b4
    obtain ⟨u1, u2⟩ := kH q hq
    obtain ⟨v1, v2⟩ := kH' q hq
    unfold D_copyFrom_b43
    dsimp only
    rw [if_pos (by rw [kD']; omega), lD', if_neg (show ¬ Int32.ofNat 2 ≤ nI q from fun c => by have c2 : nI 2 ≤ nI q := c; rw [i_le, nI_toInt (by omega), nI_toInt (by omega)] at c2; omega), if_pos ⟨by rw [kD']; omega, nI_in (by omega) (by omega)⟩, if_pos kA, if_pos ⟨by rw [kD]; omega, by rw [lD]; exact nI_in (by omega) (by omega)⟩, nI_clamp (by omega), v1, u1, if_pos v2]
    refine okb (q_hcopy u2 v2 (by omega)) ?_
    rintro g2 ⟨c1, c3⟩
    have o2 : ∀ c i, ¬ (tA r' + 6 + 6 * q ≤ c ∧ c < tA r' + 6 + 6 * q + 6) → g2.1 c i = g1.1 c i := c3
    rw [bnd_eq]
    refine ok_mk ⟨nI_add _ 1, ?_, ?_, ?_⟩
    · obtain ⟨d1, d2, ⟨d3, d4⟩, d5⟩ := b1
      refine ⟨?_, ?_, ⟨?_, ?_⟩, ?_⟩
      · rw [o2 _ _ (by omega), d1]
      · intro i hi
        rw [o2 _ _ (by omega), d2 i hi]
      · rw [o2 _ _ (by omega), d3]
      · rw [o2 _ _ (by omega), d4]
      · intro s hs
        rw [o2 _ _ (by omega), d5 s hs]
    · intro k2 hk2 j i hj x1 x2 x3
      dsimp only
      by_cases cc : k2 = q
      · subst cc
        rw [c1 j i hj x1 x2 x3, o _ _ (by omega)]
      · rw [o2 _ _ (by omega)]
        exact b2 k2 (by omega) j i hj x1 x2 x3
    · refine fr_tr b4 (fr_mo c3 ?_)
      rintro c i ⟨h1, h2⟩
      exact ⟨by omega, by omega⟩
  · rintro ⟨s1, g1⟩ ⟨e1, b1, b2, b4⟩
    dsimp only at e1 b1 b2 b4
    subst e1
    unfold D_copyFrom_b43 D_copyFrom_j73
    dsimp only
    rw [if_pos (by rw [kD']; omega), lD', if_pos (show Int32.ofNat 2 ≤ nI 2 by decide +kernel)]
    exact okmr (q_dlines hr hr' hne H b1 b2 b4)
theorem q_dcopy {h : Hp} {r r' : Nat} (hr : r < 4) (hr' : r' < 4) (hne : r ≠ r') (H : ∀ s, s < 3 → ∀ k, k < 2 → XL h r s k) : Okk (D_copyFrom h (tA r') (tA r)) (fun h' => CyK h h' r r' ∧ Fr (rowF r') h h') := by
  obtain ⟨kA, kB, kC, lC, kD, lD, kE, lE, kF, lF, kH, kL⟩ := tA_kd r hr
  obtain ⟨kA', kB', kC', lC', kD', lD', kE', lE', kF', lF', kH', kL'⟩ := tA_kd r' hr'
  have dj := tA_dj hr hr' hne
  obtain ⟨z0, z5, z8, z4, n5, n8, n4, n600, z600⟩ := cls
  unfold D_copyFrom
  rw [if_pos kA', if_pos kA, if_pos kB']
  refine okb (P := fun g => g = cpy (wr h (tA r' + 1) 1 (h.1 (tA r + 1) 1)) (tA r + 2) 0 (tA r' + 2) 0 600) ?_ ?_
  · unfold T_copyFrom
    rw [if_pos kB', if_pos kB, bnd_eq, show tA r' + 1 + 1 = tA r' + 2 from rfl, show tA r + 1 + 1 = tA r + 2 from rfl, if_pos (by rw [kC']; omega), lC', if_pos ⟨⟨kC, kC'⟩, n600, by rw [z0, z600, lC]; omega, by rw [z0, z600]; omega⟩, bnd_eq, z0, z600]
    exact ok_mk rfl
  rintro g rfl
  rw [bnd_eq, bnd_eq, if_pos ⟨⟨kF, kF'⟩, n4, by rw [z0, z4, lF]; omega, by rw [z0, z4, lF']; omega⟩, bnd_eq, z0, z4]
  refine q_dhouses hr hr' hne H ⟨?_, ?_, ⟨?_, ?_⟩, ?_⟩ ?_
  · simp (disch := omega) only [cpy_c, wr_c, wr_at]
  · intro i hi
    simp (disch := omega) only [cpy_c, cpy_at, wr_c]
  · simp (disch := omega) only [cpy_c, cpy_at, wr_c, wr_at, wr_p]
  · simp (disch := omega) only [cpy_c, cpy_at, wr_c, wr_at, wr_p]
  · intro s hs
    simp (disch := omega) only [cpy_c, cpy_at, wr_c]
  · intro c i hc
    have hc' : ¬ (tA r' ≤ c ∧ c < tA r' + 42) := hc
    simp (disch := omega) only [cpy_c, wr_c]
