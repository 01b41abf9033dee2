/-! ===== L3: images of the model ===== -/
theorem q_row {h : Hp} {c n N r r' : Nat} (hk : kd c = 20) (hl : ln c = N) (hN : N < 2 ^ 20) (h1 : n * r + n ≤ N) (h2 : n * r' + n ≤ N) (hne : n * r + n ≤ n * r' ∨ n * r' + n ≤ n * r) : Okk (M_copyRow h c (nI n) (nI r) (nI r')) (fun h' => (∀ i, i < n → h'.1 c (n * r' + i) = h.1 c (n * r + i)) ∧ Fr (fun d i => d = c ∧ n * r' ≤ i ∧ i < n * r' + n) h h') := by
  unfold M_copyRow M_copyRow_l3
  refine lp_for _ n (fun k s => s.1 = nI k ∧ (∀ i, i < k → s.2.1 c (n * r' + i) = h.1 c (n * r + i)) ∧ Fr (fun d i => d = c ∧ n * r' ≤ i ∧ i < n * r' + n) h s.2) _ ?_ ?_ 0 _ (by omega) ⟨rfl, fun i hi => absurd hi (by omega), fr_rfl⟩
  · rintro k ⟨s1, g⟩ hk2 ⟨e1, e2, e3⟩
    dsimp only at e1 e2 e3
    subst e1
    have o : ∀ d i, ¬ (d = c ∧ n * r' ≤ i ∧ i < n * r' + n) → g.1 d i = h.1 d i := e3
    unfold M_copyRow_b3
    dsimp only
    rw [if_neg (show ¬ nI n ≤ nI k from fun c => by rw [i_le, nI_toInt (by omega), nI_toInt (by omega)] at c; omega), show nI n * nI r + nI k = nI (n * r + k) by rw [pk_mul, nI_add], show nI n * nI r' + nI k = nI (n * r' + k) by rw [pk_mul, nI_add], hl, if_pos ⟨hk, nI_in (by omega) (by omega)⟩, if_pos ⟨hk, nI_in (by omega) (by omega)⟩, bnd_eq, bnd_eq, nI_clamp (by omega), nI_clamp (by omega)]
    refine ok_mk ⟨nI_add _ 1, ?_, ?_⟩
    · intro i hi
      dsimp only
      rw [wr_i]
      by_cases c1 : i = k
      · subst c1
        rw [if_pos ⟨rfl, rfl⟩, o _ _ (by omega)]
      · rw [if_neg (by omega), e2 i (by omega)]
    · exact fr_tr e3 (fr_wr ⟨rfl, by omega, by omega⟩)
  · rintro ⟨s1, g⟩ ⟨e1, e2, e3⟩
    dsimp only at e1 e2 e3
    subst e1
    unfold M_copyRow_b3 M_copyRow_j31
    dsimp only
    rw [if_pos (show nI n ≤ nI n by rw [i_le]; omega)]
    exact ok_mk ⟨e2, e3⟩
/-- the model's cells of row r -/
def rowM (r : Nat) : Nat → Nat → Prop := fun c i => (c = 252 ∧ 600 * r ≤ i ∧ i < 600 * r + 600) ∨ (253 ≤ c ∧ c ≤ 255 ∧ i = r) ∨ (c = 256 ∧ 4 * r ≤ i ∧ i < 4 * r + 4) ∨ (c = 257 ∧ 66 * r ≤ i ∧ i < 66 * r + 66) ∨ (c = 258 ∧ 242 * r ≤ i ∧ i < 242 * r + 242) ∨ (c = 259 ∧ 62 * r ≤ i ∧ i < 62 * r + 62) ∨ (c = 260 ∧ 16 * r ≤ i ∧ i < 16 * r + 16)
def CyM (h h' : Hp) (r r' : Nat) : Prop := (∀ i, i < 600 → h'.1 252 (600 * r' + i) &&& nI 255 = h.1 252 (600 * r + i) &&& nI 255) ∧ (h'.1 253 r' = h.1 253 r ∧ h'.1 254 r' = h.1 254 r ∧ h'.1 255 r' = h.1 255 r) ∧ (∀ s, s < 4 → h'.1 256 (4 * r' + s) = h.1 256 (4 * r + s)) ∧ ∀ i, (i < 66 → h'.1 257 (66 * r' + i) = h.1 257 (66 * r + i)) ∧ (i < 242 → h'.1 258 (242 * r' + i) = h.1 258 (242 * r + i)) ∧ (i < 62 → h'.1 259 (62 * r' + i) = h.1 259 (62 * r + i)) ∧ (i < 16 → h'.1 260 (16 * r' + i) = h.1 260 (16 * r + i))
theorem lnK : (kd 253 = 20 ∧ kd 254 = 20 ∧ kd 255 = 20 ∧ kd 256 = 20 ∧ kd 257 = 20 ∧ kd 258 = 20 ∧ kd 259 = 20 ∧ kd 260 = 20) ∧ ln 252 = 2400 ∧ ln 253 = 4 ∧ ln 254 = 4 ∧ ln 255 = 4 ∧ ln 256 = 16 ∧ ln 257 = 264 ∧ ln 258 = 968 ∧ ln 259 = 248 ∧ ln 260 = 64 := by decide +kernel
theorem q_mcopy {h : Hp} {r r' : Nat} (hr : r < 4) (hr' : r' < 4) (hne : r ≠ r') : Okk (M_copyAll h (nI r) (nI r')) (fun h' => CyM h h' r r' ∧ Fr (rowM r') h h') := by
  obtain ⟨⟨k3, k4, k5, k6, k7, k8, k9, k0⟩, l2, l3, l4, l5, l6, l7, l8, l9, l0⟩ := lnK
  have dj : r < r' ∨ r' < r := by omega
  unfold M_copyAll M_copyAll_l2
  refine lp_for _ 600 (fun k s => s.1 = nI k ∧ (∀ i, i < k → s.2.1 252 (600 * r' + i) &&& nI 255 = h.1 252 (600 * r + i) &&& nI 255) ∧ Fr (fun d i => d = 252 ∧ 600 * r' ≤ i ∧ i < 600 * r' + 600) h s.2) _ ?_ ?_ 0 _ (by omega) ⟨rfl, fun i hi => absurd hi (by omega), fr_rfl⟩
  · rintro k ⟨s1, g⟩ hk2 ⟨e1, e2, e3⟩
    dsimp only at e1 e2 e3
    subst e1
    have o : ∀ d i, ¬ (d = 252 ∧ 600 * r' ≤ i ∧ i < 600 * r' + 600) → g.1 d i = h.1 d i := e3
    unfold M_copyAll_b2
    dsimp only
    rw [if_neg (show ¬ (600 : Int32) ≤ nI k from fun c => by have c2 : nI 600 ≤ nI k := c; rw [i_le, nI_toInt (by omega), nI_toInt (by omega)] at c2; omega), show (600 : Int32) * nI r + nI k = nI (600 * r + k) by rw [show (600 : Int32) * nI r = nI (600 * r) from pk_mul 600 r, nI_add], show (600 : Int32) * nI r' + nI k = nI (600 * r' + k) by rw [show (600 : Int32) * nI r' = nI (600 * r') from pk_mul 600 r', nI_add], l2, if_pos (nI_in (by omega) (by omega)), if_pos (nI_in (by omega) (by omega)), bnd_eq, bnd_eq, nI_clamp (by omega), nI_clamp (by omega)]
    refine ok_mk ⟨nI_add _ 1, ?_, ?_⟩
    · intro i hi
      dsimp only
      rw [wr_i]
      by_cases c1 : i = k
      · subst c1
        rw [if_pos ⟨rfl, rfl⟩, by_and, o _ _ (by omega)]
      · rw [if_neg (by omega), e2 i (by omega)]
    · exact fr_tr e3 (fr_wr ⟨rfl, by omega, by omega⟩)
  · rintro ⟨s1, g⟩ ⟨e1, e2, e3⟩
    dsimp only at e1 e2 e3
    subst e1
    have o : ∀ d i, ¬ (d = 252 ∧ 600 * r' ≤ i ∧ i < 600 * r' + 600) → g.1 d i = h.1 d i := e3
    unfold M_copyAll_b2 M_copyAll_j39
    dsimp only
    rw [if_pos (show (600 : Int32) ≤ nI 600 by decide +kernel)]
    refine okmr ?_
    refine okb (q_row (c := 253) (n := 1) (r := r) (r' := r') k3 l3 (by omega) (by omega) (by omega) (by omega)) ?_
    rintro g1 ⟨a1, b1⟩
    refine okb (q_row (c := 254) (n := 1) (r := r) (r' := r') k4 l4 (by omega) (by omega) (by omega) (by omega)) ?_
    rintro g2 ⟨a2, b2⟩
    refine okb (q_row (c := 255) (n := 1) (r := r) (r' := r') k5 l5 (by omega) (by omega) (by omega) (by omega)) ?_
    rintro g3 ⟨a3, b3⟩
    refine okb (q_row (c := 256) (n := 4) (r := r) (r' := r') k6 l6 (by omega) (by omega) (by omega) (by omega)) ?_
    rintro g4 ⟨a4, b4⟩
    refine okb (q_row (c := 257) (n := 66) (r := r) (r' := r') k7 l7 (by omega) (by omega) (by omega) (by omega)) ?_
    rintro g5 ⟨a5, b5⟩
    refine okb (q_row (c := 258) (n := 242) (r := r) (r' := r') k8 l8 (by omega) (by omega) (by omega) (by omega)) ?_
    rintro g6 ⟨a6, b6⟩
    refine okb (q_row (c := 259) (n := 62) (r := r) (r' := r') k9 l9 (by omega) (by omega) (by omega) (by omega)) ?_
    rintro g7 ⟨a7, b7⟩
    refine okb (q_row (c := 260) (n := 16) (r := r) (r' := r') k0 l0 (by omega) (by omega) (by omega) (by omega)) ?_
    rintro g8 ⟨a8, b8⟩
    have o1 : ∀ d i, d ≠ 253 → g1.1 d i = g.1 d i := fun d i c => b1 d i (by omega)
    have o2 : ∀ d i, d ≠ 254 → g2.1 d i = g1.1 d i := fun d i c => b2 d i (by omega)
    have o3 : ∀ d i, d ≠ 255 → g3.1 d i = g2.1 d i := fun d i c => b3 d i (by omega)
    have o4 : ∀ d i, d ≠ 256 → g4.1 d i = g3.1 d i := fun d i c => b4 d i (by omega)
    have o5 : ∀ d i, d ≠ 257 → g5.1 d i = g4.1 d i := fun d i c => b5 d i (by omega)
    have o6 : ∀ d i, d ≠ 258 → g6.1 d i = g5.1 d i := fun d i c => b6 d i (by omega)
    have o7 : ∀ d i, d ≠ 259 → g7.1 d i = g6.1 d i := fun d i c => b7 d i (by omega)
    have o8 : ∀ d i, d ≠ 260 → g8.1 d i = g7.1 d i := fun d i c => b8 d i (by omega)
    have oo : ∀ d i, d ≠ 252 → g.1 d i = h.1 d i := fun d i c => o d i (by omega)
    have a1' := a1 0 (by omega)
    have a2' := a2 0 (by omega)
    have a3' := a3 0 (by omega)
    rw [show 1 * r' + 0 = r' by omega, show 1 * r + 0 = r by omega] at a1' a2' a3'
    refine ok_mk ⟨⟨?_, ⟨?_, ?_, ?_⟩, ?_, ?_⟩, ?_⟩
    · intro i hi
      simp (disch := omega) only [o8, o7, o6, o5, o4, o3, o2, o1]
      exact e2 i hi
    · simp (disch := omega) only [o8, o7, o6, o5, o4, o3, o2, a1', oo]
    · simp (disch := omega) only [o8, o7, o6, o5, o4, o3, a2', o1, oo]
    · simp (disch := omega) only [o8, o7, o6, o5, o4, a3', o2, o1, oo]
    · intro s hs
      simp (disch := omega) only [o8, o7, o6, o5, a4, o3, o2, o1, oo]
    · intro i
      refine ⟨fun hi => ?_, fun hi => ?_, fun hi => ?_, fun hi => ?_⟩
      · simp (disch := omega) only [o8, o7, o6, a5, o4, o3, o2, o1, oo]
      · simp (disch := omega) only [o8, o7, a6, o5, o4, o3, o2, o1, oo]
      · simp (disch := omega) only [o8, a7, o6, o5, o4, o3, o2, o1, oo]
      · simp (disch := omega) only [a8, o7, o6, o5, o4, o3, o2, o1, oo]
    · intro c i hc
      have hc' : ¬ ((c = 252 ∧ 600 * r' ≤ i ∧ i < 600 * r' + 600) ∨ (253 ≤ c ∧ c ≤ 255 ∧ i = r') ∨ (c = 256 ∧ 4 * r' ≤ i ∧ i < 4 * r' + 4) ∨ (c = 257 ∧ 66 * r' ≤ i ∧ i < 66 * r' + 66) ∨ (c = 258 ∧ 242 * r' ≤ i ∧ i < 242 * r' + 242) ∨ (c = 259 ∧ 62 * r' ≤ i ∧ i < 62 * r' + 62) ∨ (c = 260 ∧ 16 * r' ≤ i ∧ i < 16 * r' + 16)) := hc
      rw [b8 c i (by omega), b7 c i (by omega), b6 c i (by omega), b5 c i (by omega), b4 c i (by omega), b3 c i (by omega), b2 c i (by omega), b1 c i (by omega), o c i (by omega)]
/-- both have copied -/
theorem cp_both {h h1 h2 h3 : Hp} {r r' : Nat} (hr : r < 4) (hr' : r' < 4) (hne : r ≠ r') (I : ∀ q, q < 4 → Rt h q) (hz : r' = 0 → h.1 (tA r) 5 = h.1 255 r) (K : CyK h h1 r r') (F1 : Fr (rowF r') h h1) (T : ∀ c i, 2 ≤ c → c ≠ 45 → c ≠ 251 → c ≠ 280 → h2.1 c i = h1.1 c i) (M : CyM h2 h3 r r') (F3 : Fr (rowM r') h2 h3) : ∀ q, q < 4 → Rt h3 q := by
  have o1 : ∀ c i, ¬ (tA r' ≤ c ∧ c < tA r' + 42) → h1.1 c i = h.1 c i := F1
  have o3 : ∀ c i, ¬ ((c = 252 ∧ 600 * r' ≤ i ∧ i < 600 * r' + 600) ∨ (253 ≤ c ∧ c ≤ 255 ∧ i = r') ∨ (c = 256 ∧ 4 * r' ≤ i ∧ i < 4 * r' + 4) ∨ (c = 257 ∧ 66 * r' ≤ i ∧ i < 66 * r' + 66) ∨ (c = 258 ∧ 242 * r' ≤ i ∧ i < 242 * r' + 242) ∨ (c = 259 ∧ 62 * r' ≤ i ∧ i < 62 * r' + 62) ∨ (c = 260 ∧ 16 * r' ≤ i ∧ i < 16 * r' + 16)) → h3.1 c i = h2.1 c i := F3
  have ea' := tA_le hr'
  -- code's cells of row r' at the end
  have kc : ∀ c i, tA r' ≤ c → c < tA r' + 42 → h3.1 c i = h1.1 c i := fun c i a b => by rw [o3 c i (by omega), T c i (by omega) (by omega) (by omega) (by omega)]
  have mc : ∀ c i, 252 ≤ c → c ≤ 260 → h2.1 c i = h.1 c i := fun c i a b => by rw [T c i (by omega) (by omega) (by omega) (by omega), o1 c i (by omega)]
  intro q hq
  by_cases e : q = r'
  · subst e
    obtain ⟨a1, a2, ⟨a3, a4⟩, a5, a6, a7⟩ := K
    obtain ⟨b1, ⟨b2, b3, b4⟩, b5, b6⟩ := M
    refine Rt_cp hr hq (I r hr) hz (by rw [kc _ _ (by omega) (by omega), a1]) (fun i hi => ⟨by rw [kc _ _ (by omega) (by omega), a2 i hi], by rw [b1 i hi, mc _ _ (by omega) (by omega)]⟩) ⟨by rw [b2, mc _ _ (by omega) (by omega)], by rw [b3, mc _ _ (by omega) (by omega)], by rw [b4, mc _ _ (by omega) (by omega)]⟩ ⟨by rw [kc _ _ (by omega) (by omega), a3], by rw [kc _ _ (by omega) (by omega), a4]⟩ (fun s hs => ⟨by rw [kc _ _ (by omega) (by omega), a5 s hs], by rw [b5 s hs, mc _ _ (by omega) (by omega)]⟩) ?_ ?_ ?_
    · intro k hk j i hj x1 x2 x3
      rw [kc _ _ (by omega) (by omega)]
      exact a6 k hk j i hj x1 x2 x3
    · intro s hs k hk m hm em
      obtain ⟨c1, c2⟩ := a7 s hs k hk m hm em
      refine ⟨by rw [kc _ _ (by omega) (by omega), c1], ?_⟩
      intro i hi j h1 h2
      rw [kc _ _ (by omega) (by omega), c2 i hi j h1 h2]
    · intro i
      obtain ⟨c1, c2, c3, c4⟩ := b6 i
      exact ⟨fun hi => by rw [c1 hi, mc _ _ (by omega) (by omega)], fun hi => by rw [c2 hi, mc _ _ (by omega) (by omega)], fun hi => by rw [c3 hi, mc _ _ (by omega) (by omega)], fun hi => by rw [c4 hi, mc _ _ (by omega) (by omega)]⟩
  · have dj := tA_dj hq hr' e
    have ea := tA_le hq
    refine Rt_fr hq (I q hq) (fun c i hc => ?_)
    have hc' : (tA q ≤ c ∧ c < tA q + 42) ∨ (c = 252 ∧ 600 * q ≤ i ∧ i < 600 * q + 600) ∨ (253 ≤ c ∧ c ≤ 255 ∧ i = q) ∨ (c = 256 ∧ 4 * q ≤ i ∧ i < 4 * q + 4) ∨ (c = 257 ∧ 66 * q ≤ i ∧ i < 66 * q + 66) ∨ (c = 258 ∧ 242 * q ≤ i ∧ i < 242 * q + 242) ∨ (c = 259 ∧ 62 * q ≤ i ∧ i < 62 * q + 62) ∨ (c = 260 ∧ 16 * q ≤ i ∧ i < 16 * q + 16) := hc
    rw [o3 c i (by omega), T c i (by omega) (by omega) (by omega) (by omega), o1 c i (by omega)]
theorem el44 : ln 44 = 3 ∧ ln 45 = 3 ∧ ln 280 = 3 ∧ ∀ k, k < 3 → el 44 k = tA (k + 1) ∧ kd (tA (k + 1)) = 9 := by decide +kernel
theorem xl_of {h : Hp} (I : Inv h) {r : Nat} (hr : r < 4) : ∀ s, s < 3 → ∀ k, k < 2 → XL h r s k := (Rt_x.mp (I.1 r hr)).2.2.2
theorem c3 (x : Int32) : (iz x 0 3 = true ↔ ¬ x < 0 ∧ x < Int32.ofNat 3) := by
  have e0 : (0 : Int32).toInt = 0 := rfl
  have e3 : (Int32.ofNat 3).toInt = 3 := rfl
  rw [iz_iff, i_lt, i_lt, e0, e3]
  omega
theorem t_image {h : Hp} (I : Inv h) (x1 : Int32) : Sm (K_image h x1) (fun h1 => M_image h1 x1) := by
  obtain ⟨l1, l2, l3, EL⟩ := el44
  have em : ∀ h1 : Hp, M_image h1 x1 = if iz x1 0 3 = true then ((M_copyAll (wr h1 251 0 0) (0 : Int32) (x1 + (1 : Int32))).bind fun h4 => if inb x1 (ln 280) then (bnd (wr h4 280 (Int32.toNatClampNeg x1) (1 : Int32)) fun h6 => some ((1 : Int32), h6)) else none) else some (nI 0, wr h1 251 0 0) := by
    intro h1
    unfold M_image
    rw [bnd_eq, show M_in x1 (0 : Int32) (2 : Int32) = some (bI (iz x1 0 3)) from q_in x1 (a := 0) (b := 2) (by omega) (by omega), sb, bI_it0]
    rfl
  have ek : K_image h x1 = if iz x1 0 3 = true then (if inb x1 (ln 44) then (if kd (el 44 (Int32.toNatClampNeg x1)) = 9 then ((D_copyFrom h (el 44 (Int32.toNatClampNeg x1)) 2).bind fun h5 => if inb x1 (ln 45) then (bnd (wr h5 45 (Int32.toNatClampNeg x1) (1 : Int32)) fun h7 => some ((1 : Int32), h7)) else none) else none) else none) else some (nI 0, h) := by
    unfold K_image K_image_j13
    rw [l1]
    have := c3 x1
    by_cases c1 : x1 < 0
    · rw [if_pos c1, if_neg (fun e => (this.mp e).1 c1)]; rfl
    · rw [if_neg c1]
      by_cases c2 : x1 < Int32.ofNat 3
      · rw [if_pos c2, if_pos (this.mpr ⟨c1, c2⟩)]
      · rw [if_neg c2, if_neg (fun e => c2 (this.mp e).2)]; rfl
  unfold Sm
  rw [ek]
  by_cases b : iz x1 0 3 = true
  case neg =>
    rw [if_neg b]
    refine ok_mk ?_
    dsimp only
    rw [em, if_neg b]
    exact ok_mk ⟨rfl, inv_fr I w251⟩
  obtain ⟨k, hk, hk2, rfl⟩ := iz_0 b
  obtain ⟨e1, e2⟩ := EL k hk
  rw [if_pos b, l1, if_pos (nI_in hk (by omega))]
  simp only [nI_clamp hk2, e1, e2, if_true, l2]
  refine okb (q_dcopy (r := 0) (r' := k + 1) (by omega) (by omega) (by omega) (xl_of I (by omega))) ?_
  rintro g1 ⟨CK, F1⟩
  rw [if_pos (nI_in hk (by omega)), bnd_eq]
  refine ok_mk ?_
  dsimp only
  rw [em, if_pos b, l3, show nI k + (1 : Int32) = nI (k + 1) from nI_add _ _]
  refine okb (q_mcopy (r := 0) (r' := k + 1) (by omega) (by omega) (by omega)) ?_
  rintro g3 ⟨CM, F3⟩
  rw [if_pos (nI_in hk (by omega)), bnd_eq, nI_clamp hk2]
  have o1 : ∀ c i, ¬ (tA (k + 1) ≤ c ∧ c < tA (k + 1) + 42) → g1.1 c i = h.1 c i := F1
  have o3 : ∀ c i, c < 252 ∨ 260 < c → g3.1 c i = (wr (wr g1 45 k 1) 251 0 0).1 c i := fun c i hc => F3 c i (by
    rintro (h1 | h1 | h1 | h1 | h1 | h1 | h1) <;> omega)
  have ea := tA_le (r := k + 1) (by omega)
  have R := cp_both (r := 0) (r' := k + 1) (by omega) (by omega) (by omega) I.1 (fun z => absurd z (by omega)) CK F1 (h2 := wr (wr g1 45 k 1) 251 0 0) (fun c i a1 a2 a3 a4 => by rw [wr_c _ _ _ _ a3, wr_c _ _ _ _ a2]) CM F3
  refine ok_mk ⟨rfl, ?_, ?_⟩
  · intro q hq
    refine Rt_fr hq (R q hq) (fun c i hc => ?_)
    have hc' : (tA q ≤ c ∧ c < tA q + 42) ∨ (c = 252 ∧ 600 * q ≤ i ∧ i < 600 * q + 600) ∨ (253 ≤ c ∧ c ≤ 255 ∧ i = q) ∨ (c = 256 ∧ 4 * q ≤ i ∧ i < 4 * q + 4) ∨ (c = 257 ∧ 66 * q ≤ i ∧ i < 66 * q + 66) ∨ (c = 258 ∧ 242 * q ≤ i ∧ i < 242 * q + 242) ∨ (c = 259 ∧ 62 * q ≤ i ∧ i < 62 * q + 62) ∨ (c = 260 ∧ 16 * q ≤ i ∧ i < 16 * q + 16) := hc
    have ea := tA_le hq
    exact wr_c _ _ _ _ (by omega)
  · intro j hj
    obtain ⟨v, v1, v2, v3⟩ := I.2 j hj
    have ej := tA_le (r := j + 1) (by omega)
    by_cases c : j = k
    · subst c
      have z0 : h.1 (tA 0) 5 = h.1 255 0 := (Rt_x.mp (I.1 0 (by omega))).2.1.2 rfl
      refine ⟨true, ?_, wr_at _ _ _ _, fun _ => ?_⟩
      · dsimp only
        rw [wr_c _ _ _ _ (by omega), o3 _ _ (by omega), wr_c _ _ _ _ (by omega), wr_at]
        rfl
      · dsimp only
        rw [wr_c _ _ _ _ (by omega), wr_c _ _ _ _ (by omega), o3 _ _ (by omega), wr_c _ _ _ _ (by omega), wr_c _ _ _ _ (by omega), CK.2.2.1.2, CM.2.1.2.2, wr_c _ _ _ _ (by omega), wr_c _ _ _ _ (by omega), o1 255 0 (by omega), z0]
    · refine ⟨v, ?_, ?_, fun ev => ?_⟩
      · dsimp only
        rw [wr_c _ _ _ _ (by omega), o3 _ _ (by omega), wr_c _ _ _ _ (by omega), wr_p _ _ _ _ c, o1 _ _ (by omega), v1]
      · dsimp only
        rw [wr_p _ _ _ _ c, o3 _ _ (by omega), wr_c _ _ _ _ (by omega), wr_c _ _ _ _ (by omega), o1 _ _ (by omega), v2]
      · dsimp only
        have q3 : g3.1 255 (j + 1) = (wr (wr g1 45 k 1) 251 0 0).1 255 (j + 1) := F3 255 (j + 1) (by
          rintro (h1 | h1 | h1 | h1 | h1 | h1 | h1) <;> omega)
        rw [wr_c _ _ _ _ (by omega), wr_c _ _ _ _ (by omega), o3 _ _ (by omega), q3, wr_c _ _ _ _ (by omega), wr_c _ _ _ _ (by omega), wr_c _ _ _ _ (by omega), wr_c _ _ _ _ (by omega), o1 _ _ (by omega), o1 255 _ (by omega), v3 ev]
theorem t_again {h : Hp} (I : Inv h) (x1 : Int32) : Sm (K_again h x1) (fun h1 => M_again h1 x1) := by
  obtain ⟨l1, l2, l3, EL⟩ := el44
  have em : ∀ h1 : Hp, M_again h1 x1 = if iz x1 0 3 = true then (if inb x1 (ln 280) then (if ((wr h1 251 0 0).1 280 (Int32.toNatClampNeg x1)) = 0 then some (nI 0, wr h1 251 0 0) else ((M_copyAll (wr h1 251 0 0) (x1 + (1 : Int32)) (0 : Int32)).bind fun h6 => some ((1 : Int32), h6))) else none) else some (nI 0, wr h1 251 0 0) := by
    intro h1
    unfold M_again M_again_j23
    rw [bnd_eq, show M_in x1 (0 : Int32) (2 : Int32) = some (bI (iz x1 0 3)) from q_in x1 (a := 0) (b := 2) (by omega) (by omega), sb, bI_it0]
    rfl
  have ek : K_again h x1 = if iz x1 0 3 = true then (if inb x1 (ln 45) then (if (h.1 45 (Int32.toNatClampNeg x1)) = 0 then some (nI 0, h) else (if inb x1 (ln 44) then ((D_copyFrom h 2 (el 44 (Int32.toNatClampNeg x1))).bind fun h6 => some ((1 : Int32), h6)) else none)) else none) else some (nI 0, h) := by
    unfold K_again K_again_j22
    rw [l1]
    have := c3 x1
    by_cases c1 : x1 < 0
    · rw [if_pos c1, if_neg (fun e => (this.mp e).1 c1)]; rfl
    · rw [if_neg c1]
      by_cases c2 : Int32.ofNat 3 ≤ x1
      · have : ¬ iz x1 0 3 = true := fun e => by
          have c4 := (this.mp e).2
          rw [i_lt] at c4
          rw [i_le] at c2
          omega
        rw [if_pos c2, if_neg this]; rfl
      · have : iz x1 0 3 = true := this.mpr ⟨c1, by rw [i_le] at c2; rw [i_lt]; omega⟩
        rw [if_neg c2, if_pos this]; rfl
  unfold Sm
  rw [ek]
  by_cases b : iz x1 0 3 = true
  case neg =>
    rw [if_neg b]
    refine ok_mk ?_
    dsimp only
    rw [em, if_neg b]
    exact ok_mk ⟨rfl, inv_fr I w251⟩
  obtain ⟨k, hk, hk2, rfl⟩ := iz_0 b
  obtain ⟨e1, e2⟩ := EL k hk
  obtain ⟨v, v1, v2, v3⟩ := I.2 k hk
  rw [if_pos b, l2, if_pos (nI_in hk (by omega))]
  simp only [nI_clamp hk2, l1, v1, e1]
  have v20 : ∀ h1 : Hp, h1.1 280 k = bI v → (wr h1 251 0 0).1 280 k = bI v := fun h1 e => by rw [wr_c _ _ _ _ (by omega), e]
  by_cases cv : v = true
  case neg =>
    rw [eq_false_of_ne_true cv, if_pos (show bI false = 0 from rfl)]
    refine ok_mk ?_
    dsimp only
    rw [em, if_pos b, l3, if_pos (nI_in hk (by omega)), nI_clamp hk2, v20 h v2, eq_false_of_ne_true cv, if_pos (show bI false = 0 from rfl)]
    exact ok_mk ⟨rfl, inv_fr I w251⟩
  subst cv
  rw [if_neg bt_0, if_pos (nI_in hk (by omega))]
  refine okb (q_dcopy (r := k + 1) (r' := 0) (by omega) (by omega) (by omega) (xl_of I (by omega))) ?_
  rintro g1 ⟨CK, F1⟩
  have e0 : tA 0 = 2 := rfl
  have o1 : ∀ c i, ¬ (2 ≤ c ∧ c < 2 + 42) → g1.1 c i = h.1 c i := F1
  refine ok_mk ?_
  dsimp only
  rw [em, if_pos b, l3, if_pos (nI_in hk (by omega)), nI_clamp hk2, v20 g1 (by rw [o1 _ _ (by omega), v2]), if_neg bt_0, show nI k + (1 : Int32) = nI (k + 1) from nI_add _ _]
  refine okb (q_mcopy (r := k + 1) (r' := 0) (by omega) (by omega) (by omega)) ?_
  rintro g3 ⟨CM, F3⟩
  have o3 : ∀ c i, c < 252 ∨ 260 < c → g3.1 c i = (wr g1 251 0 0).1 c i := fun c i hc => F3 c i (by
    rintro (h1 | h1 | h1 | h1 | h1 | h1 | h1) <;> omega)
  have R := cp_both (r := k + 1) (r' := 0) (by omega) (by omega) (by omega) I.1 (fun _ => v3 rfl) CK F1 (h2 := wr g1 251 0 0) (fun c i a1 a2 a3 a4 => by rw [wr_c _ _ _ _ a3]) CM F3
  refine ok_mk ⟨rfl, R, ?_⟩
  intro j hj
  obtain ⟨w, w1, w2, w3⟩ := I.2 j hj
  have ej := tA_le (r := j + 1) (by omega)
  refine ⟨w, ?_, ?_, fun ew => ?_⟩
  · dsimp only
    rw [o3 _ _ (by omega), wr_c _ _ _ _ (by omega), o1 _ _ (by omega), w1]
  · dsimp only
    rw [o3 _ _ (by omega), wr_c _ _ _ _ (by omega), o1 _ _ (by omega), w2]
  · dsimp only
    have q3 : g3.1 255 (j + 1) = (wr g1 251 0 0).1 255 (j + 1) := F3 255 (j + 1) (by
      rintro (h1 | h1 | h1 | h1 | h1 | h1 | h1) <;> omega)
    rw [o3 _ _ (by omega), q3, wr_c _ _ _ _ (by omega), wr_c _ _ _ _ (by omega), o1 _ _ (by omega), o1 255 _ (by omega), w3 ew]
