/-! ===== L3: the code follows an evening ===== -/
/-- lines that the code holds -/
def CL (h : Hp) (a m : Nat) (f : Nat → Pst) : Prop := kd a = 2 ∧ h.1 a 3 = nI m ∧ m ≤ ln (a + 1) ∧ ∀ i, i < m → h.1 (a + 1) i = (f i).1 ∧ h.1 (a + 2) i = (f i).2.1 ∧ h.1 (a + 3) i = (f i).2.2
theorem li_kd {a : Nat} (h : kd a = 2) : kd (a + 1) = 20 ∧ kd (a + 2) = 20 ∧ kd (a + 3) = 20 ∧ ln (a + 1) ≤ 40 ∧ ln (a + 2) = ln (a + 1) ∧ ln (a + 3) = ln (a + 1) := by
  rcases Nat.lt_or_ge a 281 with h1 | h1
  · exact (by decide +kernel : ∀ a, a < 281 → kd a = 2 → kd (a + 1) = 20 ∧ kd (a + 2) = 20 ∧ kd (a + 3) = 20 ∧ ln (a + 1) ≤ 40 ∧ ln (a + 2) = ln (a + 1) ∧ ln (a + 3) = ln (a + 1)) a h1 h
  · rw [kd_hi h1] at h
    omega
theorem q_lhas {h : Hp} {a m : Nat} {f : Nat → Pst} (C : CL h a m f) (x : Int32) : L_has h a x = some (bI (iz x 0 m)) := by
  obtain ⟨hk, h3, hm, hR⟩ := C
  obtain ⟨k1, k2, k3, l1, l2, l3⟩ := li_kd hk
  unfold L_has L_has_j16 L_has_j17
  rw [if_pos hk, h3]
  simp (disch := omega) only [KK, K1, K2, NN, bnd_eq, sb, smr, bI_ite, if_pos, if_neg, if_true, if_false, or_true, true_or, true_and, and_true, g01, rg x, b_ti]
theorem q_lget {h : Hp} {a m : Nat} {f : Nat → Pst} (C : CL h a m f) {k : Nat} (hm : k < m) : L_kindOf h a (nI k) = some (f k).1 ∧ L_firstOf h a (nI k) = some (f k).2.1 ∧ L_secondOf h a (nI k) = some (f k).2.2 := by
  have e := q_lhas C (nI k)
  obtain ⟨hk, h3, hm2, hR⟩ := C
  obtain ⟨k1, k2, k3, l1, l2, l3⟩ := li_kd hk
  rw [iz_nI 0 m (by omega), decide_eq_true (by omega)] at e
  obtain ⟨r1, r2, r3⟩ := hR k hm
  unfold L_kindOf L_kindOf_j18 L_firstOf L_firstOf_j18 L_secondOf L_secondOf_j18
  simp (disch := omega) only [KK, K1, K2, NN, bnd_eq, sb, smr, bI_ite, if_pos, if_neg, if_true, if_false, or_true, true_or, true_and, and_true, g01, e, r1, r2, r3]
/-- a deed that can be told -/
def wD (d : Pst) : Prop := (d.1 = nI 0 ∧ ∃ t, t < 5 ∧ d.2.1 = nI t ∧ lo 8 d.2.2 ∧ d.2.2 ≠ nI 0) ∨ (d.1 = nI 1 ∧ ∃ g w, g < 8 ∧ w < 10 ∧ d.2.1 = nI g ∧ d.2.2 = nI w) ∨ d.1 = nI 2 ∨ (d.1 = nI 3 ∧ ∃ t, t < 5 ∧ d.2.1 = nI t) ∨ (d.1 = nI 4 ∧ ∃ t u, t < 5 ∧ u < 5 ∧ t ≠ u ∧ d.2.1 = nI t ∧ d.2.2 = nI u) ∨ (d.1 = nI 5 ∧ ∃ t u, t < 5 ∧ u < 5 ∧ t ≠ u ∧ d.2.1 = nI t ∧ d.2.2 = nI u)
def okD (n : Inn) (s : St) (d : Pst) : Bool := if d.1 = nI 0 then okSit n s d.2.1.toNatClampNeg d.2.2 else if d.1 = nI 1 then okSay n s d.2.1.toNatClampNeg else if d.1 = nI 2 then true else if d.1 = nI 3 then okScr n s d.2.1.toNatClampNeg else if d.1 = nI 4 then okJoi n s d.2.1.toNatClampNeg d.2.2.toNatClampNeg else okSpl n s d.2.1.toNatClampNeg d.2.2.toNatClampNeg
def doD (n : Inn) (s : St) (d : Pst) : St := if d.1 = nI 0 then dSit n s d.2.1.toNatClampNeg d.2.2 else if d.1 = nI 1 then dSay s d.2.1.toNatClampNeg d.2.2.toNatClampNeg else if d.1 = nI 2 then dNig n s else if d.1 = nI 3 then dScr s d.2.1.toNatClampNeg else if d.1 = nI 4 then dJoi n s d.2.1.toNatClampNeg d.2.2.toNatClampNeg else dSpl n s d.2.1.toNatClampNeg d.2.2.toNatClampNeg
theorem gd_bI {b : Bool} {h : Hp} : (if bI b = 0 ∨ bI b = 1 then some (bI b, h) else none) = some (bI b, h) := by cases b <;> rfl
theorem ne_nI {a b : Nat} (ha : a < 2 ^ 31) (hb : b < 2 ^ 31) (h : a ≠ b) : ¬ nI a = nI b := fun e => h ((nI_eq ha hb).mp e)
theorem q_follows {h : Hp} {n : Inn} {s : St} {a m k : Nat} {f : Nat → Pst} (X : CX h n) (hw : wI n) (C : CS h s) (W : wS n s) (L : CL h a m f) (hk : k < m) (D : wD (f k)) : Okk (S_follows h a (nI k)) (fun r => r.1 = bI (okD n s (f k)) ∧ CS r.2 (if okD n s (f k) = true then doD n s (f k) else s) ∧ Fr pst h r.2) := by
  obtain ⟨e1, e2, e3⟩ := q_lget L hk
  unfold S_follows
  rw [if_pos L.1, e2, sb, e3, sb, e1, sb]
  have fin : ∀ {o : Option (Int32 × Hp)} {b : Bool} {s' : St}, Okk o (fun r => r.1 = bI b ∧ CS r.2 (if b = true then s' else s) ∧ Fr pst h r.2) → Okk (o.bind fun (r6, h7) => if r6 = 0 ∨ r6 = 1 then (some (r6, h7)) else none) (fun r => r.1 = bI b ∧ CS r.2 (if b = true then s' else s) ∧ Fr pst h r.2) := by
    intro o b s' hO
    refine okb hO ?_
    rintro ⟨r1, r2⟩ ⟨rfl, g2, g3⟩
    show Okk (if bI b = 0 ∨ bI b = 1 then some (bI b, r2) else none) _
    rw [gd_bI]
    exact ok_mk ⟨rfl, g2, g3⟩
  unfold okD doD
  rcases D with ⟨d1, t, ht, d2, d3, d4⟩ | ⟨d1, g, w, hg, hw10, d2, d3⟩ | d1 | ⟨d1, t, ht, d2⟩ | ⟨d1, t, u, ht, hu, htu, d2, d3⟩ | ⟨d1, t, u, ht, hu, htu, d2, d3⟩
  · rw [d1, d2, nI_clamp (by omega), if_pos (show nI 0 = (0 : Int32) from rfl), if_pos (show nI 0 = nI 0 from rfl), if_pos (show nI 0 = nI 0 from rfl)]
    exact fin (q_sitDown X hw C W ht d3 d4)
  · rw [d1, d2, d3, nI_clamp (show g < 2 ^ 31 by omega), nI_clamp (show w < 2 ^ 31 by omega)]
    simp only [if_neg (show ¬ nI 1 = (0 : Int32) from ne_nI (b := 0) (by omega) (by omega) (by omega)), if_neg (show ¬ nI 1 = nI 0 from ne_nI (by omega) (by omega) (by omega)), if_pos (show nI 1 = (1 : Int32) from rfl), if_pos (show nI 1 = nI 1 from rfl)]
    exact fin (q_speak X hw C hg hw10)
  · rw [d1]
    simp only [if_neg (show ¬ nI 2 = (0 : Int32) from ne_nI (b := 0) (by omega) (by omega) (by omega)), if_neg (show ¬ nI 2 = nI 0 from ne_nI (by omega) (by omega) (by omega)), if_neg (show ¬ nI 2 = (1 : Int32) from ne_nI (b := 1) (by omega) (by omega) (by omega)), if_neg (show ¬ nI 2 = nI 1 from ne_nI (by omega) (by omega) (by omega)), if_pos (show nI 2 = (2 : Int32) from rfl), if_pos (show nI 2 = nI 2 from rfl)]
    refine okb (q_endNight X hw C W) ?_
    rintro h1 ⟨C1, F1⟩
    exact ok_mk ⟨rfl, C1, F1⟩
  · rw [d1, d2, nI_clamp (by omega)]
    simp only [if_neg (show ¬ nI 3 = (0 : Int32) from ne_nI (b := 0) (by omega) (by omega) (by omega)), if_neg (show ¬ nI 3 = nI 0 from ne_nI (by omega) (by omega) (by omega)), if_neg (show ¬ nI 3 = (1 : Int32) from ne_nI (b := 1) (by omega) (by omega) (by omega)), if_neg (show ¬ nI 3 = nI 1 from ne_nI (by omega) (by omega) (by omega)), if_neg (show ¬ nI 3 = (2 : Int32) from ne_nI (b := 2) (by omega) (by omega) (by omega)), if_neg (show ¬ nI 3 = nI 2 from ne_nI (by omega) (by omega) (by omega)), if_pos (show nI 3 = (3 : Int32) from rfl), if_pos (show nI 3 = nI 3 from rfl)]
    exact fin (q_scrub X hw C W ht)
  · rw [d1, d2, d3, nI_clamp (show t < 2 ^ 31 by omega), nI_clamp (show u < 2 ^ 31 by omega)]
    simp only [if_neg (show ¬ nI 4 = (0 : Int32) from ne_nI (b := 0) (by omega) (by omega) (by omega)), if_neg (show ¬ nI 4 = nI 0 from ne_nI (by omega) (by omega) (by omega)), if_neg (show ¬ nI 4 = (1 : Int32) from ne_nI (b := 1) (by omega) (by omega) (by omega)), if_neg (show ¬ nI 4 = nI 1 from ne_nI (by omega) (by omega) (by omega)), if_neg (show ¬ nI 4 = (2 : Int32) from ne_nI (b := 2) (by omega) (by omega) (by omega)), if_neg (show ¬ nI 4 = nI 2 from ne_nI (by omega) (by omega) (by omega)), if_neg (show ¬ nI 4 = (3 : Int32) from ne_nI (b := 3) (by omega) (by omega) (by omega)), if_neg (show ¬ nI 4 = nI 3 from ne_nI (by omega) (by omega) (by omega)), if_pos (show nI 4 = (4 : Int32) from rfl), if_pos (show nI 4 = nI 4 from rfl)]
    exact fin (q_join X hw C W ht hu htu)
  · rw [d1, d2, d3, nI_clamp (show t < 2 ^ 31 by omega), nI_clamp (show u < 2 ^ 31 by omega)]
    simp only [if_neg (show ¬ nI 5 = (0 : Int32) from ne_nI (b := 0) (by omega) (by omega) (by omega)), if_neg (show ¬ nI 5 = nI 0 from ne_nI (by omega) (by omega) (by omega)), if_neg (show ¬ nI 5 = (1 : Int32) from ne_nI (b := 1) (by omega) (by omega) (by omega)), if_neg (show ¬ nI 5 = nI 1 from ne_nI (by omega) (by omega) (by omega)), if_neg (show ¬ nI 5 = (2 : Int32) from ne_nI (b := 2) (by omega) (by omega) (by omega)), if_neg (show ¬ nI 5 = nI 2 from ne_nI (by omega) (by omega) (by omega)), if_neg (show ¬ nI 5 = (3 : Int32) from ne_nI (b := 3) (by omega) (by omega) (by omega)), if_neg (show ¬ nI 5 = nI 3 from ne_nI (by omega) (by omega) (by omega)), if_neg (show ¬ nI 5 = (4 : Int32) from ne_nI (b := 4) (by omega) (by omega) (by omega)), if_neg (show ¬ nI 5 = nI 4 from ne_nI (by omega) (by omega) (by omega)), if_pos (show nI 5 = (5 : Int32) from rfl)]
    exact fin (q_split X hw C W ht hu htu)
/-! the pure evening -/
def s0 : St := sMk (fun _ => bCl) (fun _ => nI 0) (fun _ => nI 0) (fun _ => nI 0) (fun _ => nI 0) (nI 0) (nI 0) (nI 0)
def pl (n : Inn) (f : Nat → Pst) : Nat → Nat → St → Nat × St
  | 0, k, s => (k, s)
  | m + 1, k, s => if okD n s (f k) = true then pl n f m (k + 1) (doD n s (f k)) else (k, s)
theorem pl_s (n : Inn) (f : Nat → Pst) (m k : Nat) (s : St) : pl n f (m + 1) k s = if okD n s (f k) = true then pl n f m (k + 1) (doD n s (f k)) else (k, s) := rfl
theorem pl_le (n : Inn) (f : Nat → Pst) : ∀ m k s, (pl n f m k s).1 ≤ k + m
  | 0, k, s => Nat.le_refl _
  | m + 1, k, s => by
    have := pl_le n f m (k + 1) (doD n s (f k))
    rw [pl_s]
    split
    · omega
    · show k ≤ _
      omega
theorem wB_cl (m k : Nat) : wB m k bCl := ⟨Nat.zero_le _, Or.inr rfl, lo_0 m, lo_0 10, fun _ => rfl, fun i hi => absurd hi (Nat.not_lt_zero i)⟩
theorem wS_0 (n : Inn) : wS n s0 := by
  refine ⟨fun t ht => ⟨wB_cl _ _, fun _ => rfl⟩, fun g hg => ⟨lo_0 10, lo_0 _, b_0 g⟩⟩
theorem q_begin {h : Hp} {n : Inn} {a : Nat} (ha : a < 50) (H : CH h a n) : Okk (S_begin h a) (fun h' => CX h' n ∧ CS h' s0 ∧ Fr (fun c i => (c = 57 ∧ 6 ≤ i ∧ i ≤ 9) ∨ (59 ≤ c ∧ c ≤ 62) ∨ (70 ≤ c ∧ c < 90)) h h') := by
  obtain ⟨l0, l1, l2, l3, l4, l5⟩ := ln_st
  have hk := H.1
  have k59 : kd 59 = 20 ∧ kd 60 = 20 ∧ kd 61 = 20 ∧ kd 62 = 20 := by decide +kernel
  obtain ⟨k1, k2, k3, k4⟩ := k59
  unfold S_begin
  rw [if_pos hk]
  simp only [bnd_eq]
  rw [q_fill _ _ k1 (by omega), sb, q_fill _ _ k2 (by omega), sb, q_fill _ _ k3 (by omega), sb, q_fill _ _ k4 (by omega), sb]
  generalize hm : fil (fil (fil (fil (wr (wr (wr (wr h 57 6 (Int32.ofNat a)) 57 7 0) 57 8 0) 57 9 0) 59 0) 60 0) 61 0) 62 0 = m
  have mo : ∀ c i, c ≠ 57 → c < 59 ∨ 62 < c → m.1 c i = h.1 c i := by
    intro c i h1 h2
    rw [← hm, fil_c i (by omega), fil_c i (by omega), fil_c i (by omega), fil_c i (by omega), wr_c _ _ _ _ h1, wr_c _ _ _ _ h1, wr_c _ _ _ _ h1, wr_c _ _ _ _ h1]
  have m57 : ∀ i, m.1 57 i = (wr (wr (wr (wr h 57 6 (Int32.ofNat a)) 57 7 0) 57 8 0) 57 9 0).1 57 i := by
    intro i
    rw [← hm, fil_c i (by omega), fil_c i (by omega), fil_c i (by omega), fil_c i (by omega)]
  have m6 : m.1 57 6 = nI a := by rw [m57, wr_p _ _ _ _ (by omega), wr_p _ _ _ _ (by omega), wr_p _ _ _ _ (by omega), wr_at]; rfl
  have m7 : m.1 57 7 = nI 0 := by rw [m57, wr_p _ _ _ _ (by omega), wr_p _ _ _ _ (by omega), wr_at]; rfl
  have m8 : m.1 57 8 = nI 0 := by rw [m57, wr_p _ _ _ _ (by omega), wr_at]; rfl
  have m9 : m.1 57 9 = nI 0 := by rw [m57, wr_at]; rfl
  have mq : ∀ i, i < 6 ∨ 9 < i → m.1 57 i = h.1 57 i := by
    intro i hi
    rw [m57, wr_p _ _ _ _ (by omega), wr_p _ _ _ _ (by omega), wr_p _ _ _ _ (by omega), wr_p _ _ _ _ (by omega)]
  have mg : ∀ g, g < 8 → m.1 59 g = nI 0 ∧ m.1 60 g = nI 0 ∧ m.1 61 g = nI 0 := by
    intro g hg
    rw [← hm]
    refine ⟨?_, ?_, ?_⟩
    · rw [fil_c g (by omega), fil_c g (by omega), fil_c g (by omega), fil_at (by omega)]; rfl
    · rw [fil_c g (by omega), fil_c g (by omega), fil_at (by omega)]; rfl
    · rw [fil_c g (by omega), fil_at (by omega)]; rfl
  have md : ∀ i, i < 64 → m.1 62 i = nI 0 := by
    intro i hi
    rw [← hm, fil_at (by omega)]; rfl
  unfold S_begin_l54
  refine lp_for _ 5 (fun k q => q.1 = nI k ∧ Fr (fun c _ => 70 ≤ c ∧ c < 90) m q.2 ∧ ∀ t, t < k → CB q.2 (70 + 4 * t) bCl) _ ?_ ?_ 0 _ (by omega) ?_
  · rintro k ⟨q1, q2⟩ hk5 ⟨rfl, hF, hB⟩
    dsimp only at hF hB ⊢
    obtain ⟨e1, e2⟩ := el_st k hk5
    unfold S_begin_b54
    rw [l0, show Int32.ofNat 5 = nI 5 from rfl]
    simp (disch := omega) only [KK, K1, K2, NN, bnd_eq, sb, smr, bI_ite, if_pos, if_neg, if_true, if_false, or_true, true_or, true_and, and_true, g01, e1, e2]
    refine okb (q_clear e2) ?_
    rintro h1 ⟨C1, F1⟩
    refine ok_mk ⟨rfl, fr_tr hF (fr_mo F1 ?_), ?_⟩
    · intro c i hc
      have hc' : 70 + 4 * k ≤ c ∧ c < 70 + 4 * k + 4 := hc
      show 70 ≤ c ∧ c < 90
      omega
    · intro t ht
      by_cases e : t = k
      · subst e
        exact C1
      · exact cb_fr (hB t (by omega)) (fun c i h1 h2 => pb_fr F1 i (by omega))
  · rintro ⟨q1, q2⟩ ⟨rfl, hF, hB⟩
    dsimp only at hF hB ⊢
    have ff : ∀ c i, c < 70 → q2.1 c i = m.1 c i := fun c i hc => hF c i (by show ¬ (70 ≤ c ∧ c < 90); omega)
    unfold S_begin_b54 S_begin_j78
    rw [l0, show Int32.ofNat 5 = nI 5 from rfl]
    simp (disch := omega) only [KK, K1, K2, NN, bnd_eq, sb, smr, bI_ite, if_pos, if_neg, if_true, if_false, or_true, true_or, true_and, and_true, g01]
    have FF : Fr (fun c i => (c = 57 ∧ 6 ≤ i ∧ i ≤ 9) ∨ (59 ≤ c ∧ c ≤ 62) ∨ (70 ≤ c ∧ c < 90)) h q2 := by
      intro c i hc
      have hc' : ¬ ((c = 57 ∧ 6 ≤ i ∧ i ≤ 9) ∨ (59 ≤ c ∧ c ≤ 62) ∨ (70 ≤ c ∧ c < 90)) := hc
      rw [hF c i (by show ¬ (70 ≤ c ∧ c < 90); omega)]
      by_cases h57 : c = 57
      · subst h57
        exact mq i (by omega)
      · exact mo c i h57 (by omega)
    refine ok_mk ⟨⟨a, ha, by rw [ff 57 6 (by omega), m6], ?_⟩, ⟨hB, ?_, ?_, ?_, ?_, ?_⟩, FF⟩
    · obtain ⟨hk, h5, h6', hT, hG⟩ := H
      have gg : ∀ c i, c < 57 → q2.1 c i = h.1 c i := fun c i hc => FF c i (by show ¬ ((c = 57 ∧ 6 ≤ i ∧ i ≤ 9) ∨ (59 ≤ c ∧ c ≤ 62) ∨ (70 ≤ c ∧ c < 90)); omega)
      refine ⟨hk, by rw [gg a 5 (by omega), h5], by rw [gg a 6 (by omega), h6'], ?_, ?_⟩
      · intro t ht
        obtain ⟨e1, e2, e3⟩ := hT t ht
        exact ⟨by rw [gg _ t (by omega), e1], by rw [gg _ t (by omega), e2], by rw [gg _ t (by omega), e3]⟩
      · intro g hg
        obtain ⟨e1, e2⟩ := hG g hg
        exact ⟨by rw [gg _ g (by omega), e1], by rw [gg _ g (by omega), e2]⟩
    · intro g hg
      obtain ⟨g1, g2, g3⟩ := mg g hg
      exact ⟨by rw [ff 59 g (by omega), g1]; rfl, by rw [ff 60 g (by omega), g2]; rfl, by rw [ff 61 g (by omega), g3]; rfl⟩
    · intro i hi
      rw [ff 62 i (by omega), md i hi]; rfl
    · rw [ff 57 7 (by omega), m7]; rfl
    · rw [ff 57 8 (by omega), m8]; rfl
    · rw [ff 57 9 (by omega), m9]; rfl
  · refine ⟨rfl, fr_rfl, ?_⟩
    intro t ht
    exact absurd ht (Nat.not_lt_zero t)
