/-! ===== L3: all that is told ===== -/
/-- where the code keeps the r-th of all that is told -/
def tA (r : Nat) : Nat := if r = 0 then 2 else 83 + 42 * r
theorem tA_kd : ∀ r, r < 4 → kd (tA r) = 9 ∧ kd (tA r + 1) = 8 ∧ kd (tA r + 2) = 20 ∧ ln (tA r + 2) = 600 ∧ kd (tA r + 3) = 23 ∧ ln (tA r + 3) = 2 ∧ kd (tA r + 4) = 24 ∧ ln (tA r + 4) = 8 ∧ kd (tA r + 5) = 20 ∧ ln (tA r + 5) = 4 ∧ (∀ k, k < 2 → el (tA r + 3) k = tA r + 6 + 6 * k ∧ kd (tA r + 6 + 6 * k) = 1) ∧ ∀ s, s < 3 → ∀ k, k < 2 → el (tA r + 4) (2 * (s + 1) + k) = tA r + 18 + 8 * s + 4 * k ∧ kd (tA r + 18 + 8 * s + 4 * k) = 2 ∧ ln (tA r + 18 + 8 * s + 4 * k + 1) = (if s = 0 then 40 else if s = 1 then 10 else 7) := by decide +kernel
/-- a wish, a row that can be told -/
def wW (d : Pst) : Prop := ∃ k g x, k < 4 ∧ g < 8 ∧ d.1 = nI k ∧ d.2.1 = nI g ∧ d.2.2 = nI x ∧ (if k < 2 then x < 10 else x < 8 ∧ g ≠ x)
def wG (d : Pst) : Prop := (∃ g, g < 8 ∧ d.2.1 = nI g) ∨ d.2.1 = jN 1
def MW (h : Hp) (k m : Nat) (f : Nat → Pst) : Prop := k < 8 ∧ m ≤ 10 ∧ h.1 259 (31 * k) = nI m ∧ ∀ i, i < m → h.1 259 (31 * k + (1 + 3 * i)) = (f i).1 ∧ h.1 259 (31 * k + (1 + 3 * i + 1)) = (f i).2.1 ∧ h.1 259 (31 * k + (1 + 3 * i + 2)) = (f i).2.2
def MG (h : Hp) (k m : Nat) (f : Nat → Pst) : Prop := k < 8 ∧ m ≤ 7 ∧ h.1 260 (8 * k) = nI m ∧ ∀ i, i < m → h.1 260 (8 * k + (1 + i)) = (f i).2.1
/-- the r-th of all that is told: the code's and the model's are one -/
def Rt (h : Hp) (r : Nat) : Prop := ∃ (len : Nat) (c : Nat → Nat), len ≤ 600 ∧ h.1 (tA r + 1) 1 = nI len ∧ h.1 253 r = nI len ∧ (∀ i, i < 600 → h.1 (tA r + 2) i = h.1 252 (600 * r + i) &&& nI 255) ∧ h.1 (tA r) 4 = h.1 254 r ∧ (r = 0 → h.1 (tA r) 5 = h.1 255 r) ∧ (∀ s, s < 4 → c s ≤ 2 ∧ h.1 (tA r + 5) s = nI (c s) ∧ h.1 256 (4 * r + s) = nI (c s)) ∧ (∀ k, k < c 0 → ∃ n, wI n ∧ CH h (tA r + 6 + 6 * k) n ∧ MH h (2 * r + k) n) ∧ (∀ k, k < c 1 → ∃ m f, CL h (tA r + 18 + 8 * 0 + 4 * k) m f ∧ ME h (2 * r + k) m f ∧ ∀ i, i < m → wD (f i)) ∧ (∀ k, k < c 2 → ∃ m f, CL h (tA r + 18 + 8 * 1 + 4 * k) m f ∧ MW h (2 * r + k) m f ∧ ∀ i, i < m → wW (f i)) ∧ (∀ k, k < c 3 → ∃ m f, CL h (tA r + 18 + 8 * 2 + 4 * k) m f ∧ MG h (2 * r + k) m f ∧ ∀ i, i < m → wG (f i)) ∧ (∀ s, s < 3 → ∀ k, k < 2 → ∃ m, m ≤ ln (tA r + 18 + 8 * s + 4 * k + 1) ∧ h.1 (tA r + 18 + 8 * s + 4 * k) 3 = nI m)
def Inv (h : Hp) : Prop := (∀ r, r < 4 → Rt h r) ∧ ∀ k, k < 3 → ∃ b, h.1 45 k = bI b ∧ h.1 280 k = bI b ∧ (b = true → h.1 (tA (k + 1)) 5 = h.1 255 (k + 1))
/-- the cells of all that is told -/
def toldC (c : Nat) : Prop := (2 ≤ c ∧ c ≤ 45) ∨ (125 ≤ c ∧ c ≤ 250) ∨ (252 ≤ c ∧ c ≤ 260) ∨ c = 280
theorem tA_le {r : Nat} (hr : r < 4) : (r = 0 ∧ tA r = 2) ∨ (1 ≤ r ∧ tA r = 83 + 42 * r) := by
  unfold tA
  by_cases h : r = 0
  · rw [if_pos h]
    exact Or.inl ⟨h, rfl⟩
  · rw [if_neg h]
    exact Or.inr ⟨by omega, rfl⟩
/-- one row of all that is told, laid into another -/
theorem Rt_cp {h h' : Hp} {r r' : Nat} (hr : r < 4) (hr' : r' < 4) (H : Rt h r) (fz : r' = 0 → h.1 (tA r) 5 = h.1 255 r) (f1 : h'.1 (tA r' + 1) 1 = h.1 (tA r + 1) 1) (f2 : ∀ i, i < 600 → h'.1 (tA r' + 2) i = h.1 (tA r + 2) i ∧ h'.1 252 (600 * r' + i) &&& nI 255 = h.1 252 (600 * r + i) &&& nI 255) (f3 : h'.1 253 r' = h.1 253 r ∧ h'.1 254 r' = h.1 254 r ∧ h'.1 255 r' = h.1 255 r) (f4 : h'.1 (tA r') 4 = h.1 (tA r) 4 ∧ h'.1 (tA r') 5 = h.1 (tA r) 5) (f5 : ∀ s, s < 4 → h'.1 (tA r' + 5) s = h.1 (tA r + 5) s ∧ h'.1 256 (4 * r' + s) = h.1 256 (4 * r + s)) (f6 : ∀ k, k < 2 → ∀ j i, j < 6 → (j = 0 → i = 5 ∨ i = 6) → (0 < j → i < 8) → (j ≤ 3 → 0 < j → i < 5) → h'.1 (tA r' + 6 + 6 * k + j) i = h.1 (tA r + 6 + 6 * k + j) i) (f7 : ∀ s, s < 3 → ∀ k, k < 2 → ∀ m, m ≤ ln (tA r + 18 + 8 * s + 4 * k + 1) → h.1 (tA r + 18 + 8 * s + 4 * k) 3 = nI m → h'.1 (tA r' + 18 + 8 * s + 4 * k) 3 = nI m ∧ ∀ i, i < m → ∀ j, 1 ≤ j → j < 4 → h'.1 (tA r' + 18 + 8 * s + 4 * k + j) i = h.1 (tA r + 18 + 8 * s + 4 * k + j) i) (f8 : ∀ i, (i < 66 → h'.1 257 (66 * r' + i) = h.1 257 (66 * r + i)) ∧ (i < 242 → h'.1 258 (242 * r' + i) = h.1 258 (242 * r + i)) ∧ (i < 62 → h'.1 259 (62 * r' + i) = h.1 259 (62 * r + i)) ∧ (i < 16 → h'.1 260 (16 * r' + i) = h.1 260 (16 * r + i))) : Rt h' r' := by
  obtain ⟨len, c, h1, h2, h3, h4, h5, h6, h7, h8, h9, h10, h11, h12⟩ := H
  obtain ⟨kA, kB, kC, lC, kD, lD, kE, lE, kF, lF, kH, kL⟩ := tA_kd r hr
  obtain ⟨kA', kB', kC', lC', kD', lD', kE', lE', kF', lF', kH', kL'⟩ := tA_kd r' hr'
  have eln : ∀ s, s < 3 → ∀ k, k < 2 → ln (tA r' + 18 + 8 * s + 4 * k + 1) = ln (tA r + 18 + 8 * s + 4 * k + 1) := fun s hs k hk => by rw [(kL' s hs k hk).2.2, (kL s hs k hk).2.2]
  have cl : ∀ s, s < 3 → ∀ k, k < 2 → ∀ m f, CL h (tA r + 18 + 8 * s + 4 * k) m f → CL h' (tA r' + 18 + 8 * s + 4 * k) m f := by
    rintro s hs k hk m f ⟨hkd, h3, hm, hR⟩
    obtain ⟨a1, a2⟩ := f7 s hs k hk m hm h3
    refine ⟨(kL' s hs k hk).2.1, a1, by rw [eln s hs k hk]; exact hm, ?_⟩
    intro i hi
    obtain ⟨e1, e2, e3⟩ := hR i hi
    exact ⟨by rw [a2 i hi 1 (by omega) (by omega), e1], by rw [a2 i hi 2 (by omega) (by omega), e2], by rw [a2 i hi 3 (by omega) (by omega), e3]⟩
  refine ⟨len, c, h1, by rw [f1, h2], by rw [f3.1, h3], ?_, ?_, ?_, ?_, ?_, ?_, ?_, ?_, ?_⟩
  · intro i hi
    rw [(f2 i hi).1, (f2 i hi).2, h4 i hi]
  · rw [f4.1, f3.2.1, h5]
  · intro z
    rw [f4.2, f3.2.2, fz z]
  · intro s hs
    obtain ⟨a1, a2, a3⟩ := h7 s hs
    exact ⟨a1, by rw [(f5 s hs).1, a2], by rw [(f5 s hs).2, a3]⟩
  · intro k hk
    have hk2 : k < 2 := by have := (h7 0 (by omega)).1; omega
    obtain ⟨n, hw, ⟨ck, c5, c6, cT, cG⟩, m0, m1, mT, mG⟩ := h8 k hk
    have hT5 := hw.1
    have o : ∀ i, i < 33 → h'.1 257 (33 * (2 * r' + k) + i) = h.1 257 (33 * (2 * r + k) + i) := fun i hi => by
      have := (f8 (33 * k + i)).1 (by omega)
      rw [show 33 * (2 * r' + k) + i = 66 * r' + (33 * k + i) by omega, show 33 * (2 * r + k) + i = 66 * r + (33 * k + i) by omega, this]
    have o0 : h'.1 257 (33 * (2 * r' + k)) = h.1 257 (33 * (2 * r + k)) := o 0 (by omega)
    refine ⟨n, hw, ⟨(kH' k hk2).2, ?_, ?_, ?_, ?_⟩, by rw [o0, m0], by rw [o 1 (by omega), m1], ?_, ?_⟩
    · have := f6 k hk2 0 5 (by omega) (fun _ => Or.inl rfl) (fun h => absurd h (by omega)) (fun _ h => absurd h (by omega))
      rw [← c5]
      exact this
    · have := f6 k hk2 0 6 (by omega) (fun _ => Or.inr rfl) (fun h => absurd h (by omega)) (fun _ h => absurd h (by omega))
      rw [← c6]
      exact this
    · intro t ht
      obtain ⟨e1, e2, e3⟩ := cT t ht
      refine ⟨?_, ?_, ?_⟩
      · rw [← e1]
        exact f6 k hk2 1 t (by omega) (fun h => absurd h (by omega)) (fun _ => by omega) (fun _ _ => by omega)
      · rw [← e2]
        exact f6 k hk2 2 t (by omega) (fun h => absurd h (by omega)) (fun _ => by omega) (fun _ _ => by omega)
      · rw [← e3]
        exact f6 k hk2 3 t (by omega) (fun h => absurd h (by omega)) (fun _ => by omega) (fun _ _ => by omega)
    · intro g hg
      obtain ⟨e1, e2⟩ := cG g hg
      refine ⟨?_, ?_⟩
      · rw [← e1]
        exact f6 k hk2 4 g (by omega) (fun h => absurd h (by omega)) (fun _ => by omega) (fun h _ => absurd h (by omega))
      · rw [← e2]
        exact f6 k hk2 5 g (by omega) (fun h => absurd h (by omega)) (fun _ => by omega) (fun h _ => absurd h (by omega))
    · intro t ht
      rw [o _ (by omega), o _ (by omega), o _ (by omega)]
      exact mT t ht
    · intro g hg
      rw [o _ (by omega), o _ (by omega)]
      exact mG g hg
  · intro k hk
    have hk2 : k < 2 := by have := (h7 1 (by omega)).1; omega
    obtain ⟨m, f, C, ⟨a1, a2, a3, a4⟩, D⟩ := h9 k hk
    have o : ∀ i, i < 121 → h'.1 258 (121 * (2 * r' + k) + i) = h.1 258 (121 * (2 * r + k) + i) := fun i hi => by
      have := (f8 (121 * k + i)).2.1 (by omega)
      rw [show 121 * (2 * r' + k) + i = 242 * r' + (121 * k + i) by omega, show 121 * (2 * r + k) + i = 242 * r + (121 * k + i) by omega, this]
    have o0 : h'.1 258 (121 * (2 * r' + k)) = h.1 258 (121 * (2 * r + k)) := o 0 (by omega)
    refine ⟨m, f, cl 0 (by omega) k hk2 m f C, ⟨by omega, a2, by rw [o0, a3], ?_⟩, D⟩
    intro i hi
    rw [o _ (by omega), o _ (by omega), o _ (by omega)]
    exact a4 i hi
  · intro k hk
    have hk2 : k < 2 := by have := (h7 2 (by omega)).1; omega
    obtain ⟨m, f, C, ⟨a1, a2, a3, a4⟩, D⟩ := h10 k hk
    have o : ∀ i, i < 31 → h'.1 259 (31 * (2 * r' + k) + i) = h.1 259 (31 * (2 * r + k) + i) := fun i hi => by
      have := (f8 (31 * k + i)).2.2.1 (by omega)
      rw [show 31 * (2 * r' + k) + i = 62 * r' + (31 * k + i) by omega, show 31 * (2 * r + k) + i = 62 * r + (31 * k + i) by omega, this]
    have o0 : h'.1 259 (31 * (2 * r' + k)) = h.1 259 (31 * (2 * r + k)) := o 0 (by omega)
    refine ⟨m, f, cl 1 (by omega) k hk2 m f C, ⟨by omega, a2, by rw [o0, a3], ?_⟩, D⟩
    intro i hi
    rw [o _ (by omega), o _ (by omega), o _ (by omega)]
    exact a4 i hi
  · intro k hk
    have hk2 : k < 2 := by have := (h7 3 (by omega)).1; omega
    obtain ⟨m, f, C, ⟨a1, a2, a3, a4⟩, D⟩ := h11 k hk
    have o : ∀ i, i < 8 → h'.1 260 (8 * (2 * r' + k) + i) = h.1 260 (8 * (2 * r + k) + i) := fun i hi => by
      have := (f8 (8 * k + i)).2.2.2 (by omega)
      rw [show 8 * (2 * r' + k) + i = 16 * r' + (8 * k + i) by omega, show 8 * (2 * r + k) + i = 16 * r + (8 * k + i) by omega, this]
    have o0 : h'.1 260 (8 * (2 * r' + k)) = h.1 260 (8 * (2 * r + k)) := o 0 (by omega)
    refine ⟨m, f, cl 2 (by omega) k hk2 m f C, ⟨by omega, a2, by rw [o0, a3], ?_⟩, D⟩
    intro i hi
    rw [o _ (by omega), a4 i hi]
  · intro s hs k hk
    obtain ⟨m, hm, e⟩ := h12 s hs k hk
    exact ⟨m, by rw [eln s hs k hk]; exact hm, (f7 s hs k hk m hm e).1⟩
/-- the cells of one row -/
def rowC (r c i : Nat) : Prop := (tA r ≤ c ∧ c < tA r + 42) ∨ (c = 252 ∧ 600 * r ≤ i ∧ i < 600 * r + 600) ∨ (253 ≤ c ∧ c ≤ 255 ∧ i = r) ∨ (c = 256 ∧ 4 * r ≤ i ∧ i < 4 * r + 4) ∨ (c = 257 ∧ 66 * r ≤ i ∧ i < 66 * r + 66) ∨ (c = 258 ∧ 242 * r ≤ i ∧ i < 242 * r + 242) ∨ (c = 259 ∧ 62 * r ≤ i ∧ i < 62 * r + 62) ∨ (c = 260 ∧ 16 * r ≤ i ∧ i < 16 * r + 16)
theorem Rt_fr {h h' : Hp} {r : Nat} (hr : r < 4) (H : Rt h r) (hf : ∀ c i, rowC r c i → h'.1 c i = h.1 c i) : Rt h' r := by
  have o : ∀ c i, (tA r ≤ c ∧ c < tA r + 42) ∨ (c = 252 ∧ 600 * r ≤ i ∧ i < 600 * r + 600) ∨ (253 ≤ c ∧ c ≤ 255 ∧ i = r) ∨ (c = 256 ∧ 4 * r ≤ i ∧ i < 4 * r + 4) ∨ (c = 257 ∧ 66 * r ≤ i ∧ i < 66 * r + 66) ∨ (c = 258 ∧ 242 * r ≤ i ∧ i < 242 * r + 242) ∨ (c = 259 ∧ 62 * r ≤ i ∧ i < 62 * r + 62) ∨ (c = 260 ∧ 16 * r ≤ i ∧ i < 16 * r + 16) → h'.1 c i = h.1 c i := fun c i hc => hf c i hc
  have fz : r = 0 → h.1 (tA r) 5 = h.1 255 r := by
    obtain ⟨len, c, h1, h2, h3, h4, h5, h6, -⟩ := H
    exact h6
  refine Rt_cp hr hr H fz (o _ _ (by omega)) (fun i hi => ⟨o _ _ (by omega), by rw [o 252 _ (by omega)]⟩) ⟨o 253 r (by omega), o 254 r (by omega), o 255 r (by omega)⟩ ⟨o _ _ (by omega), o _ _ (by omega)⟩ (fun s hs => ⟨o _ _ (by omega), o 256 _ (by omega)⟩) (fun k hk j i hj _ _ _ => o _ _ (by omega)) ?_ (fun i => ⟨fun hi => o 257 _ (by omega), fun hi => o 258 _ (by omega), fun hi => o 259 _ (by omega), fun hi => o 260 _ (by omega)⟩)
  intro s hs k hk m hm e
  exact ⟨by rw [o _ 3 (by omega), e], fun i hi j h1 h2 => o _ i (by omega)⟩
theorem inv_fr {h h' : Hp} (H : Inv h) (hf : ∀ c i, toldC c → h'.1 c i = h.1 c i) : Inv h' := by
  refine ⟨?_, ?_⟩
  · intro r hr
    refine Rt_fr hr (H.1 r hr) (fun c i hc => hf c i ?_)
    have e := tA_le hr
    have hc' : (tA r ≤ c ∧ c < tA r + 42) ∨ (c = 252 ∧ 600 * r ≤ i ∧ i < 600 * r + 600) ∨ (253 ≤ c ∧ c ≤ 255 ∧ i = r) ∨ (c = 256 ∧ 4 * r ≤ i ∧ i < 4 * r + 4) ∨ (c = 257 ∧ 66 * r ≤ i ∧ i < 66 * r + 66) ∨ (c = 258 ∧ 242 * r ≤ i ∧ i < 242 * r + 242) ∨ (c = 259 ∧ 62 * r ≤ i ∧ i < 62 * r + 62) ∨ (c = 260 ∧ 16 * r ≤ i ∧ i < 16 * r + 16) := hc
    show (2 ≤ c ∧ c ≤ 45) ∨ (125 ≤ c ∧ c ≤ 250) ∨ (252 ≤ c ∧ c ≤ 260) ∨ c = 280
    omega
  · intro k hk
    obtain ⟨b, e1, e2, e3⟩ := H.2 k hk
    have ea := tA_le (r := k + 1) (by omega)
    refine ⟨b, ?_, ?_, fun eb => ?_⟩
    · rw [hf 45 k (by show (2 ≤ 45 ∧ 45 ≤ 45) ∨ (125 ≤ 45 ∧ 45 ≤ 250) ∨ (252 ≤ 45 ∧ 45 ≤ 260) ∨ 45 = 280; omega), e1]
    · rw [hf 280 k (by show (2 ≤ 280 ∧ 280 ≤ 45) ∨ (125 ≤ 280 ∧ 280 ≤ 250) ∨ (252 ≤ 280 ∧ 280 ≤ 260) ∨ 280 = 280; omega), e2]
    · rw [hf (tA (k + 1)) 5 (by show (2 ≤ tA (k + 1) ∧ tA (k + 1) ≤ 45) ∨ (125 ≤ tA (k + 1) ∧ tA (k + 1) ≤ 250) ∨ (252 ≤ tA (k + 1) ∧ tA (k + 1) ≤ 260) ∨ tA (k + 1) = 280; omega), hf 255 (k + 1) (by show (2 ≤ 255 ∧ 255 ≤ 45) ∨ (125 ≤ 255 ∧ 255 ≤ 250) ∨ (252 ≤ 255 ∧ 255 ≤ 260) ∨ 255 = 280; omega), e3 eb]
/-- a frame that leaves all that is told -/
theorem inv_p {p : Nat → Nat → Prop} {h h' : Hp} (H : Inv h) (F : Fr p h h') (hp : ∀ c i, p c i → ¬ toldC c) : Inv h' := inv_fr H (fun c i hc => F c i (fun hpc => hp c i hpc hc))
theorem inv_w {h : Hp} {c i : Nat} {v : Int32} (H : Inv h) (hc : ¬ toldC c) : Inv (wr h c i v) := inv_fr H (fun c' i' h' => wr_c _ _ _ _ (fun e => hc (e ▸ h')))
/-! what both ask -/
theorem q_count {h : Hp} {r s : Nat} {c : Nat → Nat} (hr : r < 4) (hs : s < 4) (h7 : ∀ s, s < 4 → c s ≤ 2 ∧ h.1 (tA r + 5) s = nI (c s) ∧ h.1 256 (4 * r + s) = nI (c s)) : D_countOf h (tA r) (nI s) = some (nI (c s)) := by
  obtain ⟨k0, k1, k2, k3, k4, k5, k6, k7, k8, k9, -⟩ := tA_kd r hr
  have e := q_isOf (nI s) (a := 0) (n := 4) (by omega) (by omega)
  rw [iz_nI 0 4 (by omega), decide_eq_true (by omega)] at e
  obtain ⟨a1, a2, a3⟩ := h7 s hs
  unfold D_countOf D_countOf_j19
  simp (disch := omega) only [KK, K1, K2, NN, bnd_eq, sb, smr, bI_ite, if_pos, if_neg, if_true, if_false, or_true, true_or, true_and, and_true, g01, e, a2]
theorem q_dhas {h : Hp} {r s : Nat} {c : Nat → Nat} (hr : r < 4) (hs : s < 4) (h7 : ∀ s, s < 4 → c s ≤ 2 ∧ h.1 (tA r + 5) s = nI (c s) ∧ h.1 256 (4 * r + s) = nI (c s)) (x : Int32) : D_has h (tA r) (nI s) x = some (bI (iz x 0 (c s))) := by
  obtain ⟨k0, -⟩ := tA_kd r hr
  have e := q_count hr hs h7
  have hc := (h7 s hs).1
  unfold D_has D_has_j22 D_has_j23
  simp (disch := omega) only [KK, K1, K2, NN, bnd_eq, sb, smr, bI_ite, if_pos, if_neg, if_true, if_false, or_true, true_or, true_and, and_true, g01, e, rg x]
  by_cases h2 : iz x 0 2 = true
  · rw [if_pos h2]
    obtain ⟨k, hk, hk2, rfl⟩ := iz_0 h2
    simp (disch := omega) only [KK, K1, K2, NN, bnd_eq, sb, smr, bI_ite, if_pos, if_neg, if_true, if_false, or_true, true_or, true_and, and_true, g01]
    rw [iz_nI 0 (c s) (by omega)]
    by_cases h3 : c s ≤ k
    · rw [if_pos h3, decide_eq_false (by omega)]; rfl
    · rw [if_neg h3, decide_eq_true (by omega)]; rfl
  · rw [if_neg h2]
    have h4 : iz x 0 (c s) = false := by
      cases h5 : iz x 0 (c s)
      · rfl
      · rw [iz_iff] at h5 h2
        omega
    rw [h4]; rfl
theorem q_innAt {h : Hp} {c : Nat → Nat} (h7 : ∀ s, s < 4 → c s ≤ 2 ∧ h.1 (tA 0 + 5) s = nI (c s) ∧ h.1 256 (4 * 0 + s) = nI (c s)) (x : Int32) : D_innAt h 2 x = some (if iz x 0 (c 0) = true then 8 + 6 * x.toNatClampNeg else 0) := by
  obtain ⟨k0, k1, k2, k3, k4, k5, k6, k7, k8, k9, kE, -⟩ := tA_kd 0 (by omega)
  have e : D_has h 2 (nI 0) x = some (bI (iz x 0 (c 0))) := q_dhas (r := 0) (by omega) (by omega) h7 x
  have hc := (h7 0 (by omega)).1
  have k0' : kd 2 = 9 := k0
  have k4' : kd (2 + 3) = 23 := k4
  have k5' : ln (2 + 3) = 2 := k5
  unfold D_innAt D_innAt_j19
  have e' : D_has h 2 (0 : Int32) x = some (bI (iz x 0 (c 0))) := e
  rw [if_pos k0', e', sb]
  by_cases h2 : iz x 0 (c 0) = true
  · rw [if_pos h2, h2, if_neg (show ¬ bI true = 0 by decide +kernel)]
    obtain ⟨k, hk, hk2, rfl⟩ := iz_0 h2
    have e2 : el (2 + 3) k = 8 + 6 * k := (kE k (by omega)).1
    rw [if_pos ⟨Or.inl k4', by rw [k5']; exact nI_in (by omega) (by omega)⟩, nI_clamp (by omega), e2]
  · rw [if_neg h2, eq_false_of_ne_true h2, if_pos (show bI false = 0 from rfl)]
theorem q_linesAt {h : Hp} {c : Nat → Nat} (h7 : ∀ s, s < 4 → c s ≤ 2 ∧ h.1 (tA 0 + 5) s = nI (c s) ∧ h.1 256 (4 * 0 + s) = nI (c s)) (s : Nat) (hs : s < 3) (x : Int32) : D_linesAt h 2 (nI (s + 1)) x = some (if iz x 0 (c (s + 1)) = true then 20 + 8 * s + 4 * x.toNatClampNeg else 0) := by
  obtain ⟨k0, k1, k2, k3, k4, k5, k6, k7, k8, k9, kE, kL⟩ := tA_kd 0 (by omega)
  have e : D_has h 2 (nI (s + 1)) x = some (bI (iz x 0 (c (s + 1)))) := q_dhas (r := 0) (by omega) (by omega) h7 x
  have hc := (h7 (s + 1) (by omega)).1
  have k0' : kd 2 = 9 := k0
  have k6' : kd (2 + 4) = 24 := k6
  have k7' : ln (2 + 4) = 8 := k7
  unfold D_linesAt D_linesAt_j26 D_linesAt_j27
  rw [if_pos k0', if_neg (show ¬ nI (s + 1) = (0 : Int32) from ne_nI (b := 0) (by omega) (by omega) (by omega)), e, sb]
  by_cases h2 : iz x 0 (c (s + 1)) = true
  · rw [if_pos h2, h2, if_neg (show ¬ bI true = 0 by decide +kernel)]
    obtain ⟨k, hk, hk2, rfl⟩ := iz_0 h2
    have e2 : el (2 + 4) (2 * (s + 1) + k) = 20 + 8 * s + 4 * k := (kL s hs k (by omega)).1
    rw [show (2 : Int32) * nI (s + 1) + nI k = nI (2 * (s + 1) + k) by rw [show (2 : Int32) = nI 2 from rfl, pk_mul, nI_add]]
    rw [if_pos ⟨Or.inr (Or.inl k6'), by rw [k7']; exact nI_in (by omega) (by omega)⟩, nI_clamp (by omega), nI_clamp (by omega), e2]
  · rw [if_neg h2, eq_false_of_ne_true h2, if_pos (show bI false = 0 from rfl)]
theorem q_is {h : Hp} {s : Nat} {c : Nat → Nat} (hs : s < 4) (h7 : ∀ s, s < 4 → c s ≤ 2 ∧ h.1 (tA 0 + 5) s = nI (c s) ∧ h.1 256 (4 * 0 + s) = nI (c s)) (x : Int32) : M_is h (nI s) x = some (bI (iz x 0 (c s))) := by
  obtain ⟨a1, a2, a3⟩ := h7 s hs
  have a3' : h.1 256 s = nI (c s) := by
    rw [show 4 * 0 + s = s by omega] at a3
    exact a3
  unfold M_is
  rw [if_pos (show inb (nI s) (ln 256) by rw [lnm.2.2.2.2.1]; exact nI_in (by omega) (by omega)), nI_clamp (by omega), a3', show (0 : Int32) = nI 0 from rfl, show (1 : Int32) = nI 1 from rfl, q_in0 x (by omega), sb]
  simp only [bI_g, if_true]
/-- the model takes an inn at hand -/
theorem q_hand {h : Hp} {c : Nat → Nat} (h7 : ∀ s, s < 4 → c s ≤ 2 ∧ h.1 (tA 0 + 5) s = nI (c s) ∧ h.1 256 (4 * 0 + s) = nI (c s)) (x : Int32) : (iz x 0 (c 0) = false → Okk (M_hand h x) (fun r => r.1 = nI 0 ∧ Fr (fun c i => c = 251 ∧ 23 ≤ i ∧ i ≤ 25) h r.2)) ∧ ∀ k n, k < c 0 → MH h k n → Okk (M_hand h (nI k)) (fun r => r.1 = nI 1 ∧ MX r.2 n ∧ Fr (fun c i => c = 251 ∧ 23 ≤ i ∧ i ≤ 25) h r.2) := by
  have hc := (h7 0 (by omega)).1
  constructor
  · intro hx
    have e := q_is (s := 0) (by omega) h7 x
    rw [hx] at e
    unfold M_hand
    rw [show (0 : Int32) = nI 0 from rfl, e, sb, if_pos (show bI false = nI 0 from rfl)]
    exact ok_mk ⟨rfl, fr_rfl⟩
  · intro k n hk M
    have e := q_is (s := 0) (by omega) h7 (nI k)
    rw [iz_nI 0 (c 0) (by omega), decide_eq_true (by omega)] at e
    obtain ⟨m0, m1, mT, mG⟩ := id M
    have m0' : h.1 257 (33 * k + 0) = nI (nT n) := m0
    unfold M_hand M_of
    simp (disch := omega) only [KK, K1, K2, NN, bnd_eq, sb, smr, bI_ite, if_pos, if_neg, if_true, if_false, or_true, true_or, true_and, and_true, g01, wr_at, wr_c, wr_p, e, lnm, m0', m1]
    have F : Fr (fun c i => c = 251 ∧ 23 ≤ i ∧ i ≤ 25) h (wr (wr (wr h 251 23 (nI k)) 251 24 (nI (nT n))) 251 25 (nI (nG n))) := by
      refine fr_tr (fr_tr (fr_wr ⟨rfl, ?_, ?_⟩) (fr_wr ⟨rfl, ?_, ?_⟩)) (fr_wr ⟨rfl, ?_, ?_⟩) <;> omega
    refine ok_mk ⟨rfl, ⟨k, by omega, ?_, ?_, ?_, ?_⟩, F⟩
    · simp (disch := omega) only [KK, K1, K2, NN, bnd_eq, sb, smr, bI_ite, if_pos, if_neg, if_true, if_false, or_true, true_or, true_and, and_true, g01, wr_at, wr_c, wr_p, ]
    · simp (disch := omega) only [KK, K1, K2, NN, bnd_eq, sb, smr, bI_ite, if_pos, if_neg, if_true, if_false, or_true, true_or, true_and, and_true, g01, wr_at, wr_c, wr_p, ]
    · simp (disch := omega) only [KK, K1, K2, NN, bnd_eq, sb, smr, bI_ite, if_pos, if_neg, if_true, if_false, or_true, true_or, true_and, and_true, g01, wr_at, wr_c, wr_p, ]
    · have o : ∀ i, (wr (wr (wr h 251 23 (nI k)) 251 24 (nI (nT n))) 251 25 (nI (nG n))).1 257 i = h.1 257 i := fun i => F 257 i (by show ¬ ((257 : Nat) = 251 ∧ 23 ≤ i ∧ i ≤ 25); omega)
      refine ⟨by rw [o, m0], by rw [o, m1], ?_, ?_⟩
      · intro t ht
        rw [o, o, o]
        exact mT t ht
      · intro g hg
        rw [o, o]
        exact mG g hg
def plm : Nat → Nat → Prop := fun c i => (c = 251 ∧ (i = 0 ∨ (23 ≤ i ∧ i ≤ 26))) ∨ pms c i
theorem cls_fr {h h' : Hp} {c : Nat → Nat} (h7 : ∀ s, s < 4 → c s ≤ 2 ∧ h.1 (tA 0 + 5) s = nI (c s) ∧ h.1 256 (4 * 0 + s) = nI (c s)) (hf : ∀ c i, toldC c → h'.1 c i = h.1 c i) : ∀ s, s < 4 → c s ≤ 2 ∧ h'.1 (tA 0 + 5) s = nI (c s) ∧ h'.1 256 (4 * 0 + s) = nI (c s) := by
  intro s hs
  obtain ⟨a1, a2, a3⟩ := h7 s hs
  refine ⟨a1, ?_, ?_⟩
  · rw [hf _ s (by show (2 ≤ 7 ∧ 7 ≤ 45) ∨ (125 ≤ 7 ∧ 7 ≤ 250) ∨ (252 ≤ 7 ∧ 7 ≤ 260) ∨ 7 = 280; omega), a2]
  · rw [hf _ _ (by show (2 ≤ 256 ∧ 256 ≤ 45) ∨ (125 ≤ 256 ∧ 256 ≤ 250) ∨ (252 ≤ 256 ∧ 256 ≤ 260) ∨ 256 = 280; omega), a3]
theorem q_evenings {h : Hp} {c : Nat → Nat} (h7 : ∀ s, s < 4 → c s ≤ 2 ∧ h.1 (tA 0 + 5) s = nI (c s) ∧ h.1 256 (4 * 0 + s) = nI (c s)) (x : Int32) : M_hasEvenings h x = some (bI (iz x 0 (c 1)), wr h 251 26 x) := by
  have e := q_is (s := 1) (by omega) (cls_fr (h' := wr h 251 26 x) h7 (fun c i hc => wr_c _ _ _ _ (fun e => by
    have hc' : (2 ≤ c ∧ c ≤ 45) ∨ (125 ≤ c ∧ c ≤ 250) ∨ (252 ≤ c ∧ c ≤ 260) ∨ c = 280 := hc
    omega))) x
  unfold M_hasEvenings
  rw [bnd_eq, show (1 : Int32) = nI 1 from rfl, e, sb, show (0 : Int32) = nI 0 from rfl]
  simp only [bI_g, if_true]
/-! ===== both come to a state, or neither ===== -/
theorem told_m {c : Nat} (hc : toldC c) : c ≠ 251 ∧ (c < 261 ∨ c = 280) ∧ (c < 57 ∨ 90 ≤ c) := by
  have hc' : (2 ≤ c ∧ c ≤ 45) ∨ (125 ≤ c ∧ c ≤ 250) ∨ (252 ≤ c ∧ c ≤ 260) ∨ c = 280 := hc
  omega
theorem q_reach {h : Hp} (I : Inv h) (x1 x2 x3 : Int32) : (Okk (K_reach h x1 x2 x3) (fun r => r.1 = 0 ∧ Fr pbg h r.2) ∧ ∀ h', (∀ c i, toldC c → h'.1 c i = h.1 c i) → Okk (M_layState h' x1 x2 x3) (fun r => r.1 = nI 0 ∧ Fr plm h' r.2)) ∨ ∃ n s, wI n ∧ wS n s ∧ Okk (K_reach h x1 x2 x3) (fun r => r.1 = 57 ∧ CX r.2 n ∧ CS r.2 s ∧ Fr pbg h r.2) ∧ ∀ h', (∀ c i, toldC c → h'.1 c i = h.1 c i) → Okk (M_layState h' x1 x2 x3) (fun r => r.1 = nI 1 ∧ MX r.2 n ∧ MS r.2 s ∧ Fr plm h' r.2 ∧ ∃ l, x3 = nI l ∧ ∀ h2, (∀ c i, toldC c ∨ (c = 251 ∧ 23 ≤ i ∧ i ≤ 26) → h2.1 c i = r.2.1 c i) → Okk (M_play h2 x3) (fun q => MS q.2 s ∧ Fr pms h2 q.2)) := by
  obtain ⟨len, c, z1, z2, z3, z4, z5, z6, h7, h8, h9, -, -⟩ := I.1 0 (by omega)
  have c0 := (h7 0 (by omega)).1
  have c1 := (h7 1 (by omega)).1
  have eI := q_innAt h7 x1
  have eL : D_linesAt h 2 (1 : Int32) x2 = some (if iz x2 0 (c 1) = true then 20 + 8 * 0 + 4 * x2.toNatClampNeg else 0) := q_linesAt h7 0 (by omega) x2
  -- the model's way, up to the inn
  have mod : ∀ h', (∀ c i, toldC c → h'.1 c i = h.1 c i) → M_layState h' x1 x2 x3 = if iz x2 0 (c 1) = true then ((M_hand (wr h' 251 26 x2) x1).bind fun (r5, h6) => if r5 = 0 then ((M_layState_j41 h6)) else ((M_deeds h6).bind fun r8 => (M_in x3 (0 : Int32) r8).bind fun r9 => if r9 = 0 then ((M_layState_j41 h6)) else ((M_play h6 x3).bind fun (r11, h12) => if r11 = x3 then ((M_layState_j42 (1 : Int32) h12)) else ((M_layState_j41 h12))))) else M_layState_j41 (wr h' 251 26 x2) := by
    intro h' hf
    unfold M_layState
    rw [q_evenings (cls_fr h7 hf) x2, sb]
    show (if bI (iz x2 0 (c 1)) = nI 0 then _ else _) = _
    rw [bI_ite]
  have j41 : ∀ h', M_layState_j41 h' = some (nI 0, h') := by
    intro h'
    unfold M_layState_j41 M_layState_j42
    exact if_pos (Or.inl rfl)
  have j42 : ∀ h', M_layState_j42 (1 : Int32) h' = some (nI 1, h') := by
    intro h'
    unfold M_layState_j42
    exact if_pos (Or.inr rfl)
  have w26 : ∀ h' : Hp, Fr plm h' (wr h' 251 26 x2) := fun h' => fr_wr (Or.inl ⟨rfl, by omega⟩)
  by_cases hx2 : iz x2 0 (c 1) = true
  case neg =>
    left
    constructor
    · unfold K_reach K_reach_j44
      rw [eI, sb, eL, sb, if_neg hx2, if_pos (show (0 : Nat) = 0 from rfl)]
      refine ok_ite (fun _ => ok_mk ⟨rfl, fr_rfl⟩) (fun _ => ok_mk ⟨rfl, fr_rfl⟩)
    · intro h' hf
      rw [mod h' hf, if_neg hx2, j41]
      exact ok_mk ⟨rfl, w26 h'⟩
  have ohf : ∀ h' : Hp, (∀ c i, toldC c → h'.1 c i = h.1 c i) → ∀ c i, toldC c → (wr h' 251 26 x2).1 c i = h.1 c i := fun h' hf c i hc => by
    rw [wr_c _ _ _ _ (told_m hc).1]
    exact hf c i hc
  by_cases hx1 : iz x1 0 (c 0) = true
  case neg =>
    left
    constructor
    · unfold K_reach K_reach_j44
      rw [eI, sb, eL, sb, if_neg hx1, if_pos (show (0 : Nat) = 0 from rfl)]
      exact ok_mk ⟨rfl, fr_rfl⟩
    · intro h' hf
      rw [mod h' hf, if_pos hx2]
      refine okb ((q_hand (cls_fr h7 (ohf h' hf)) x1).1 (eq_false_of_ne_true hx1)) ?_
      rintro ⟨r1, r2⟩ ⟨rfl, F⟩
      show Okk (if nI 0 = (0 : Int32) then M_layState_j41 r2 else _) _
      rw [if_pos (show nI 0 = (0 : Int32) from rfl), j41]
      refine ok_mk ⟨rfl, fr_tr (w26 h') (fr_mo F ?_)⟩
      rintro c i ⟨h1, h2, h3⟩
      exact Or.inl ⟨h1, by omega⟩
  obtain ⟨k, hk, hk2, rfl⟩ := iz_0 hx1
  obtain ⟨e, he, he2, rfl⟩ := iz_0 hx2
  obtain ⟨n, hw, CHk, MHk⟩ := h8 k hk
  obtain ⟨m, f, CLe, MEe, D⟩ := h9 e he
  have hm40 := MEe.2.1
  rw [if_pos hx1, nI_clamp hk2] at eI
  rw [if_pos hx2, nI_clamp he2] at eL
  have CH' : CH h (8 + 6 * k) n := CHk
  have CL' : CL h (20 + 8 * 0 + 4 * e) m f := by
    have e1 : tA 0 + 18 + 8 * 0 + 4 * e = 20 + 8 * 0 + 4 * e := by show 2 + 18 + 8 * 0 + 4 * e = _; omega
    rw [e1] at CLe
    exact CLe
  have MH' : MH h k n := by
    rw [show 2 * 0 + k = k by omega] at MHk
    exact MHk
  have ME' : ME h e m f := by
    rw [show 2 * 0 + e = e by omega] at MEe
    exact MEe
  -- the code's way
  have cod : K_reach h (nI k) (nI e) x3 = if iz x3 0 (m + 1) = true then ((K_follow h (8 + 6 * k) (20 + 8 * 0 + 4 * e) x3).bind fun (r8, h9) => if r8 = x3 then ((K_reach_j67 57 h9)) else ((K_reach_j67 0 h9))) else some (0, h) := by
    unfold K_reach K_reach_j44
    rw [eI, sb, eL, sb, if_neg (by omega), if_neg (by omega), if_pos CL'.1, CL'.2.1]
    have e0 : (0 : Int32).toInt = 0 := rfl
    by_cases h3 : iz x3 0 (m + 1) = true
    · rw [if_pos h3]
      rw [iz_iff] at h3
      rw [if_neg (by rw [i_lt, e0]; omega), if_pos (by rw [i_le, nI_toInt (by omega)]; omega)]
    · rw [if_neg h3]
      rw [iz_iff] at h3
      by_cases h4 : x3 < 0
      · rw [if_pos h4]
      · rw [if_neg h4]
        rw [i_lt, e0] at h4
        rw [if_neg (by rw [i_le, nI_toInt (by omega)]; omega)]
  -- the model's way, up to the deeds
  have mod2 : ∀ h', (∀ c i, toldC c → h'.1 c i = h.1 c i) → ∃ h6, M_layState h' (nI k) (nI e) x3 = (if iz x3 0 (m + 1) = true then ((M_play h6 x3).bind fun (r11, h12) => if r11 = x3 then ((M_layState_j42 (1 : Int32) h12)) else ((M_layState_j41 h12))) else some (nI 0, h6)) ∧ MX h6 n ∧ ME h6 e m f ∧ h6.1 251 26 = nI e ∧ Fr plm h' h6 := by
    intro h' hf
    have hfo := ohf h' hf
    have MHh : MH (wr h' 251 26 (nI e)) k n := by
      obtain ⟨m0, m1, mT, mG⟩ := MH'
      have o : ∀ i, (wr h' 251 26 (nI e)).1 257 i = h.1 257 i := fun i => hfo 257 i (by show (2 ≤ 257 ∧ 257 ≤ 45) ∨ (125 ≤ 257 ∧ 257 ≤ 250) ∨ (252 ≤ 257 ∧ 257 ≤ 260) ∨ 257 = 280; omega)
      refine ⟨by rw [o, m0], by rw [o, m1], ?_, ?_⟩
      · intro t ht
        rw [o, o, o]
        exact mT t ht
      · intro g hg
        rw [o, o]
        exact mG g hg
    obtain ⟨⟨r1, r2⟩, q1, q2, q3, q4⟩ := (q_hand (cls_fr h7 hfo) (nI k)).2 k n hk MHh
    dsimp only at q2 q3 q4
    have o2 : ∀ c i, ¬ (c = 251 ∧ 23 ≤ i ∧ i ≤ 25) → r2.1 c i = (wr h' 251 26 (nI e)).1 c i := fun c i hc => q4 c i hc
    have ME2 : ME r2 e m f := by
      obtain ⟨a1, a2, a3, a4⟩ := ME'
      have o : ∀ i, r2.1 258 i = h.1 258 i := fun i => by
        rw [o2 258 i (by omega)]
        exact hfo 258 i (by show (2 ≤ 258 ∧ 258 ≤ 45) ∨ (125 ≤ 258 ∧ 258 ≤ 250) ∨ (252 ≤ 258 ∧ 258 ≤ 260) ∨ 258 = 280; omega)
      refine ⟨a1, a2, by rw [o, a3], ?_⟩
      intro i hi
      rw [o, o, o]
      exact a4 i hi
    have e26 : r2.1 251 26 = nI e := by rw [o2 251 26 (by omega), wr_at]
    refine ⟨r2, ?_, q3, ME2, e26, fr_tr (w26 h') (fr_mo q4 ?_)⟩
    · rw [mod h' hf, if_pos hx2, q1, sb]
      show (if r1 = 0 then M_layState_j41 r2 else _) = _
      rw [q2, if_neg (show ¬ nI 1 = (0 : Int32) from ne_nI (b := 0) (by omega) (by omega) (by omega)), q_deeds ME2 e26, sb, show (0 : Int32) = nI 0 from rfl, q_in x3 (by omega) (by omega), sb, bI_ite, j41, show m + 1 - 0 = m + 1 by omega]
    · rintro c i ⟨h1, h2, h3⟩
      exact Or.inl ⟨h1, by omega⟩
  by_cases hx3 : iz x3 0 (m + 1) = true
  case neg =>
    left
    constructor
    · rw [cod, if_neg hx3]
      exact ok_mk ⟨rfl, fr_rfl⟩
    · intro h' hf
      obtain ⟨h6, a1, a2, a3, a4, a5⟩ := mod2 h' hf
      rw [a1, if_neg hx3]
      exact ok_mk ⟨rfl, a5⟩
  obtain ⟨l, hl, hl2, rfl⟩ := iz_0 hx3
  rw [if_pos hx3] at cod
  have ple := pl_le n f l 0 s0
  have hfol := q_follow (by omega) CH' (by omega) CL' hw D (show l ≤ m by omega)
  by_cases hpl : (pl n f l 0 s0).1 = l
  · right
    refine ⟨n, (pl n f l 0 s0).2, hw, wS_pl hw l 0 s0 (wS_0 n) (fun i h1 h2 => D i (by omega)), ?_, ?_⟩
    · rw [cod]
      refine okb hfol ?_
      rintro ⟨r1, r2⟩ ⟨g1, g2, g3, g4⟩
      show Okk (if r1 = nI l then K_reach_j67 57 r2 else K_reach_j67 0 r2) _
      dsimp only at g1
      rw [g1, hpl, if_pos rfl]
      exact ok_mk ⟨rfl, g2, g3, g4⟩
    · intro h' hf
      obtain ⟨h6, a1, a2, a3, a4, a5⟩ := mod2 h' hf
      rw [a1, if_pos hx3]
      refine okb (q_play a2 hw a3 a4 D (show l ≤ m by omega)) ?_
      rintro ⟨r1, r2⟩ ⟨g1, g2, g3⟩
      show Okk (if r1 = nI l then M_layState_j42 (1 : Int32) r2 else M_layState_j41 r2) _
      dsimp only at g1
      rw [g1, hpl, if_pos rfl, j42]
      refine ok_mk ⟨rfl, mx_st a2 g3, g2, fr_tr a5 (fr_mo g3 (fun c i hc => Or.inr hc)), l, rfl, ?_⟩
      intro h2 hh2
      have o6 : ∀ c i, toldC c ∨ (c = 251 ∧ 23 ≤ i ∧ i ≤ 26) → h2.1 c i = h6.1 c i := by
        intro c i hc
        rw [hh2 c i hc]
        have g3' : ∀ c i, ¬ ((c = 251 ∧ 38 ≤ i ∧ i ≤ 40) ∨ (263 ≤ c ∧ c ≤ 273)) → r2.1 c i = h6.1 c i := fun c i hc => g3 c i hc
        refine g3' c i ?_
        rcases hc with hc | hc
        · have := told_m hc
          omega
        · omega
      have X2 : MX h2 n := mx_fr a2 (fun c i hc => o6 c i (by
        rcases hc with hc | hc
        · exact Or.inr (by omega)
        · exact Or.inl (by show (2 ≤ c ∧ c ≤ 45) ∨ (125 ≤ c ∧ c ≤ 250) ∨ (252 ≤ c ∧ c ≤ 260) ∨ c = 280; omega)))
      have E2 : ME h2 e m f := by
        obtain ⟨b1, b2, b3, b4⟩ := a3
        have o : ∀ i, h2.1 258 i = h6.1 258 i := fun i => o6 258 i (Or.inl (by show (2 ≤ 258 ∧ 258 ≤ 45) ∨ (125 ≤ 258 ∧ 258 ≤ 250) ∨ (252 ≤ 258 ∧ 258 ≤ 260) ∨ 258 = 280; omega))
        refine ⟨b1, b2, by rw [o, b3], ?_⟩
        intro i hi
        rw [o, o, o]
        exact b4 i hi
      refine okw (q_play X2 hw E2 (by rw [o6 251 26 (Or.inr (by omega)), a4]) D (show l ≤ m by omega)) ?_
      rintro ⟨p1, p2⟩ ⟨y1, y2, y3⟩
      exact ⟨y2, y3⟩
  · left
    have hne : ¬ nI (pl n f l 0 s0).1 = nI l := ne_nI (by omega) (by omega) hpl
    constructor
    · rw [cod]
      refine okb hfol ?_
      rintro ⟨r1, r2⟩ ⟨g1, g2, g3, g4⟩
      show Okk (if r1 = nI l then K_reach_j67 57 r2 else K_reach_j67 0 r2) _
      dsimp only at g1
      rw [g1, if_neg hne]
      exact ok_mk ⟨rfl, g4⟩
    · intro h' hf
      obtain ⟨h6, a1, a2, a3, a4, a5⟩ := mod2 h' hf
      rw [a1, if_pos hx3]
      refine okb (q_play a2 hw a3 a4 D (show l ≤ m by omega)) ?_
      rintro ⟨r1, r2⟩ ⟨g1, g2, g3⟩
      show Okk (if r1 = nI l then M_layState_j42 (1 : Int32) r2 else M_layState_j41 r2) _
      dsimp only at g1
      rw [g1, if_neg hne, j41]
      exact ok_mk ⟨rfl, fr_tr a5 (fr_mo g3 (fun c i hc => Or.inr hc))⟩
