/-! ===== L3: of the first heap, all that is told is one on both sides ===== -/
theorem h0_e : ∀ r, r < 4 → lkH H0T (tA r + 2) = [] := by decide +kernel
theorem h0_m : lkH H0T 252 = [] := by decide +kernel
theorem h0_r : ∀ r, r < 4 → hp0.1 (tA r + 1) 1 = nI 0 ∧ hp0.1 253 r = nI 0 ∧ hp0.1 (tA r) 4 = hp0.1 254 r ∧ (r = 0 → hp0.1 (tA r) 5 = hp0.1 255 r) := by decide +kernel
theorem h0_c : ∀ r, r < 4 → ∀ s, s < 4 → hp0.1 (tA r + 5) s = nI 0 ∧ hp0.1 256 (4 * r + s) = nI 0 := by decide +kernel
theorem h0_l : ∀ r, r < 4 → ∀ s, s < 3 → ∀ k, k < 2 → hp0.1 (tA r + 18 + 8 * s + 4 * k) 3 = nI 0 := by decide +kernel
theorem h0_i : ∀ k, k < 3 → hp0.1 45 k = bI false ∧ hp0.1 280 k = bI false := by decide +kernel
theorem inv0 : Inv hp0 := by
  refine ⟨fun r hr => ?_, fun k hk => ⟨false, (h0_i k hk).1, (h0_i k hk).2, fun e => by cases e⟩⟩
  obtain ⟨a1, a2, a3, a4⟩ := h0_r r hr
  refine ⟨0, fun _ => 0, Nat.zero_le _, a1, a2, fun i _ => ?_, a3, a4, fun s hs => ⟨Nat.zero_le _, (h0_c r hr s hs).1, (h0_c r hr s hs).2⟩, fun k hk => absurd hk (Nat.not_lt_zero _), fun k hk => absurd hk (Nat.not_lt_zero _), fun k hk => absurd hk (Nat.not_lt_zero _), fun k hk => absurd hk (Nat.not_lt_zero _), fun s hs k hk => ⟨0, Nat.zero_le _, h0_l r hr s hs k hk⟩⟩
  show lkp (lkH H0T (tA r + 2)) i = lkp (lkH H0T 252) (600 * r + i) &&& nI 255
  rw [h0_e r hr, h0_m]
  show (0 : Int32) = 0 &&& nI 255
  decide
