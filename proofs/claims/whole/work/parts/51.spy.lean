/-! ===== L3: the spy: the code ===== -/
def spd (T N r i : Nat) : Nat := r / T ^ (N - 1 - i) % T
def spv (T N r : Nat) : Nat → Nat → Nat
  | 0, _ => 0
  | i + 1, t => spv T N r i t + (if spd T N r i = t then 1 else 0)
def spw (Z : Nat → Nat → Int32) (T N r : Nat) : Nat → Int32
  | 0 => nI 0
  | i + 1 => spw Z T N r i ||| Z (spd T N r i) (spv T N r i (spd T N r i))
def spf (Z : Nat → Nat → Int32) (T : Nat) (x : Int32) (N r : Nat) : Bool := decide (x &&& (spw Z T N r N ^^^ jN 1) = nI 0)
def Zw (n : Inn) (s : St) (t j : Nat) : Int32 := bV (zT n s t j)
theorem spv_le (T N r : Nat) : ∀ i t, spv T N r i t ≤ i
  | 0, _ => Nat.le_refl 0
  | i + 1, t => by
    have := spv_le T N r i t
    show spv T N r i t + (if spd T N r i = t then 1 else 0) ≤ i + 1
    split <;> omega
/-- the first of all rows that are found; none is found -/
def FF (fd : Nat → Nat → Bool) (T N r : Nat) : Prop := N < 5 ∧ r < T ^ N ∧ fd N r = true ∧ (∀ r', r' < r → fd N r' = false) ∧ ∀ N', N' < N → ∀ r', r' < T ^ N' → fd N' r' = false
def NoF (fd : Nat → Nat → Bool) (T : Nat) : Prop := ∀ N, N < 5 → ∀ r, r < T ^ N → fd N r = false
theorem FF_u {fd : Nat → Nat → Bool} {T N r N' r' : Nat} (a : FF fd T N r) (b : FF fd T N' r') : N = N' ∧ r = r' := by
  obtain ⟨a1, a2, a3, a4, a5⟩ := a
  obtain ⟨b1, b2, b3, b4, b5⟩ := b
  rcases Nat.lt_trichotomy N N' with c | c | c
  · have := b5 N c r a2
    rw [a3] at this
    exact absurd this.symm Bool.false_ne_true
  · subst c
    rcases Nat.lt_trichotomy r r' with d | d | d
    · have := b4 r d
      rw [a3] at this
      exact absurd this.symm Bool.false_ne_true
    · exact ⟨rfl, d⟩
    · have := a4 r' d
      rw [b3] at this
      exact absurd this.symm Bool.false_ne_true
  · have := a5 N' c r' b2
    rw [b3] at this
    exact absurd this.symm Bool.false_ne_true
theorem FF_n {fd : Nat → Nat → Bool} {T N r : Nat} (a : FF fd T N r) (b : NoF fd T) : False := by
  have := b N a.1 r a.2.1
  rw [a.2.2.1] at this
  exact Bool.false_ne_true this.symm
theorem pw_le {T N : Nat} (hT : T ≤ 5) (hN : N ≤ 5) : T ^ N ≤ 3125 := by
  have a : T ^ N ≤ 5 ^ N := Nat.pow_le_pow_left hT N
  have b : 5 ^ N ≤ 5 ^ 5 := Nat.pow_le_pow_right (by omega) hN
  have c : (5 : Nat) ^ 5 = 3125 := by decide
  omega
def pS : Nat → Nat → Prop := fun c _ => c = 96 ∨ c = 97
theorem ln9 : ln 95 = 20 ∧ ln 96 = 5 ∧ ln 97 = 4 ∧ kd 95 = 20 ∧ kd 96 = 20 ∧ kd 97 = 20 := by decide +kernel
theorem q_won {h : Hp} {Z : Nat → Nat → Int32} {T N r : Nat} (h1 : 1 ≤ T) (hT : T ≤ 5) (hN : N ≤ 4) (hr : r < T ^ N) (hZ : ∀ t v, t < T → v < 4 → h.1 95 (4 * t + v) = Z t v) : Okk (N_wordsOn h (nI r) (nI N) (nI T)) (fun q => q.1 = spw Z T N r N ∧ (∀ i, i < N → q.2.1 97 i = nI (spd T N r i)) ∧ Fr pS h q.2) := by
  obtain ⟨l5, l6, l7, k5, k6, k7⟩ := ln9
  have hp := pw_le hT (show N ≤ 5 by omega)
  have mN : mn (nI N) (4 : Int32) - (1 : Int32) = (if 0 < N then nI (N - 1 - 0) else jN 1) := (by decide +kernel : ∀ N, N < 5 → mn (nI N) (4 : Int32) - (1 : Int32) = (if 0 < N then nI (N - 1 - 0) else jN 1)) N (by omega)
  unfold N_wordsOn
  rw [if_pos (show (1 : Int32) ≤ nI T by show nI 1 ≤ nI T; rw [i_le, nI_toInt (by omega), nI_toInt (by omega)]; omega), bnd_eq, mN]
  unfold N_wordsOn_l19
  refine lp_for _ N (fun k q => q.1 = nI (r / T ^ k) ∧ q.2.1 = (if k < N then nI (N - 1 - k) else jN 1) ∧ (∀ i, i < N → N - 1 - i < k → q.2.2.1 97 i = nI (spd T N r i)) ∧ Fr pS h q.2.2) _ ?_ ?_ 0 _ (by omega) ⟨by rw [Nat.pow_zero, Nat.div_one], rfl, fun i _ c => absurd c (by omega), fr_rfl⟩
  · rintro k ⟨q1, q2, q3⟩ hk ⟨e1, e2, e3, e4⟩
    dsimp only at e1 e2 e3 e4
    rw [if_pos hk] at e2
    subst e1 e2
    have hd : r / T ^ k ≤ r := Nat.div_le_self _ _
    unfold N_wordsOn_b19
    dsimp only
    have hz : ¬ nI T = 0 := ne_nI (b := 0) (by omega) (by omega) (by omega)
    rw [if_neg (show ¬ nI (N - 1 - k) < 0 from fun c => by rw [i_lt, nI_toInt (by omega)] at c; have : (0 : Int32).toInt = 0 := rfl; omega), if_pos hz, l7, if_pos (nI_in (by omega) (by omega)), bnd_eq, if_pos hz, bnd_eq, bnd_eq, nI_clamp (by omega), show rm (nI (r / T ^ k)) (nI T) = nI (r / T ^ k % T) from pk_rem (by omega) (by omega) (by omega), pk_div (by omega) (by omega) (by omega)]
    refine ok_mk ⟨?_, ?_, ?_, fr_tr e4 (fr_wr (Or.inr rfl))⟩
    · show nI (r / T ^ k / T) = nI (r / T ^ (k + 1))
      rw [Nat.div_div_eq_div_mul, Nat.pow_succ]
    · show nI (N - 1 - k) + (-1 : Int32) = _
      exact (by decide +kernel : ∀ N, N < 5 → ∀ k, k < N → nI (N - 1 - k) + (-1 : Int32) = (if k + 1 < N then nI (N - 1 - (k + 1)) else jN 1)) N (by omega) k hk
    · intro i hi hik
      dsimp only
      rw [wr_i]
      by_cases c : i = N - 1 - k
      · rw [if_pos ⟨rfl, c⟩]
        unfold spd
        rw [show N - 1 - i = k by omega]
      · rw [if_neg (fun e => c e.2), e3 i hi (by omega)]
  · rintro ⟨q1, q2, q3⟩ ⟨e1, e2, e3, e4⟩
    dsimp only at e1 e2 e3 e4
    rw [if_neg (by omega)] at e2
    subst e1 e2
    unfold N_wordsOn_b19 N_wordsOn_j47
    dsimp only
    rw [if_pos (show jN 1 < 0 by decide +kernel)]
    refine okmr ?_
    rw [q_fill _ _ k6 (by omega), sb]
    unfold N_wordsOn_l61
    have o : ∀ c i, ¬ (c = 96 ∨ c = 97) → q3.1 c i = h.1 c i := e4
    have dlt : ∀ i, spd T N r i < T := fun i => Nat.mod_lt _ (by omega)
    refine lp_for _ N (fun i q => q.1 = spw Z T N r i ∧ q.2.1 = nI i ∧ (∀ t, t < T → q.2.2.1 96 t = nI (spv T N r i t)) ∧ Fr (fun c _ => c = 96) q3 q.2.2) _ ?_ ?_ 0 _ (by omega) ⟨rfl, rfl, fun t ht => fil_at (by omega), fun c i hc => fil_c i hc⟩
    · rintro i ⟨p1, p2, p3⟩ hi ⟨a1, a2, a3, a4⟩
      dsimp only at a1 a2 a3 a4
      subst a1 a2
      have o2 : ∀ c i, ¬ c = 96 → p3.1 c i = q3.1 c i := a4
      have hd := dlt i
      have hv := spv_le T N r i (spd T N r i)
      have e7 : p3.1 97 i = nI (spd T N r i) := by rw [o2 _ _ (by omega), e3 i hi (by omega)]
      have e6 := a3 (spd T N r i) hd
      unfold N_wordsOn_b61 N_wordsOn_j136
      dsimp only
      rw [if_neg (show ¬ nI N ≤ nI i from fun c => by rw [i_le, nI_toInt (by omega), nI_toInt (by omega)] at c; omega), if_neg (show ¬ (4 : Int32) ≤ nI i from fun c => by have c2 : nI 4 ≤ nI i := c; rw [i_le, nI_toInt (by omega), nI_toInt (by omega)] at c2; omega), l7, if_pos (nI_in (by omega) (by omega)), bnd_eq, nI_clamp (show i < 2 ^ 31 by omega), e7, show K_isOf (nI (spd T N r i)) (0 : Int32) (5 : Int32) = some (bI (iz (nI (spd T N r i)) 0 5)) from q_isOf _ (a := 0) (n := 5) (by omega) (by omega), sb, iz_nI 0 5 (by omega), decide_eq_true (show 0 ≤ spd T N r i ∧ spd T N r i < 0 + 5 by omega), if_neg bt_0, l6, if_pos (nI_in (show spd T N r i < 5 by omega) (by omega))]
      have ec : p3.1 96 (nI (spd T N r i)).toNatClampNeg = nI (spv T N r i (spd T N r i)) := by rw [nI_clamp (by omega), e6]
      rw [if_neg (show ¬ (4 : Int32) ≤ p3.1 96 (nI (spd T N r i)).toNatClampNeg from fun c => by rw [ec] at c; have c2 : nI 4 ≤ nI (spv T N r i (spd T N r i)) := c; rw [i_le, nI_toInt (by omega), nI_toInt (by omega)] at c2; omega), if_pos (nI_in (show spd T N r i < 5 by omega) (by omega))]
      have ei : (4 : Int32) * nI (spd T N r i) + p3.1 96 (nI (spd T N r i)).toNatClampNeg = nI (4 * spd T N r i + spv T N r i (spd T N r i)) := by rw [ec, show (4 : Int32) * nI (spd T N r i) = nI (4 * spd T N r i) from pk_mul 4 _, nI_add]
      rw [ei, l5, if_pos (nI_in (by omega) (by omega)), bnd_eq, if_pos (nI_in (show spd T N r i < 5 by omega) (by omega)), if_pos (nI_in (show spd T N r i < 5 by omega) (by omega)), bnd_eq, bnd_eq, nI_clamp (show 4 * spd T N r i + spv T N r i (spd T N r i) < 2 ^ 31 by omega), o2 95 _ (by omega), o 95 _ (by omega), hZ _ _ hd (by omega), nI_clamp (show spd T N r i < 2 ^ 31 by omega), e6]
      refine ok_mk ⟨rfl, nI_add _ _, ?_, fr_tr a4 (fr_wr rfl)⟩
      intro t ht
      dsimp only
      rw [wr_i]
      by_cases c : t = spd T N r i
      · subst c
        rw [if_pos ⟨rfl, rfl⟩]
        show nI _ + nI 1 = nI (spv T N r i (spd T N r i) + (if spd T N r i = spd T N r i then 1 else 0))
        rw [if_pos rfl, nI_add]
      · rw [if_neg (fun e => c e.2), a3 t ht]
        show _ = nI (spv T N r i t + (if spd T N r i = t then 1 else 0))
        rw [if_neg (fun e => c e.symm)]; rfl
    · rintro ⟨p1, p2, p3⟩ ⟨a1, a2, a3, a4⟩
      dsimp only at a1 a2 a3 a4
      subst a1 a2
      have o2 : ∀ c i, ¬ c = 96 → p3.1 c i = q3.1 c i := a4
      unfold N_wordsOn_b61 N_wordsOn_j142
      dsimp only
      rw [if_pos (show nI N ≤ nI N by rw [i_le]; omega)]
      exact okmr (ok_mk ⟨rfl, fun i hi => by rw [o2 _ _ (by omega), e3 i hi (by omega)], fr_tr e4 (fr_mo a4 (fun c i hc => Or.inl hc))⟩)
def pY : Nat → Nat → Prop := fun c _ => 91 ≤ c ∧ c ≤ 97
theorem pY_cx {h h' : Hp} {n : Inn} (X : CX h n) (F : Fr pY h h') : CX h' n := cx_fr X (fun c i hc => F c i (by show ¬ (91 ≤ c ∧ c ≤ 97); omega))
theorem pY_cs {h h' : Hp} {s : St} (C : CS h s) (F : Fr pY h h') : CS h' s := by
  have o : ∀ c i, ¬ (91 ≤ c ∧ c ≤ 97) → h'.1 c i = h.1 c i := F
  obtain ⟨c1, c2, c3, c4, c5, c6⟩ := C
  refine ⟨?_, ?_, ?_, by rw [o _ _ (by omega), c4], by rw [o _ _ (by omega), c5], by rw [o _ _ (by omega), c6]⟩
  · intro t ht
    obtain ⟨d1, d2, d3, d4, d5⟩ := c1 t ht
    refine ⟨by rw [o _ _ (by omega), d1], by rw [o _ _ (by omega), d2], by rw [o _ _ (by omega), d3], by rw [o _ _ (by omega), d4], ?_⟩
    intro i hi
    rw [o _ _ (by omega), o _ _ (by omega), o _ _ (by omega)]
    exact d5 i hi
  · intro g hg
    rw [o _ _ (by omega), o _ _ (by omega), o _ _ (by omega)]
    exact c2 g hg
  · intro i hi
    rw [o _ _ (by omega)]
    exact c3 i hi
theorem tl_pY {h h' : Hp} (F : Fr pY h h') : Tl h h' := tl_fr F (fun c i hc => by
  have hc' : 91 ≤ c ∧ c ≤ 97 := hc
  omega)
theorem pb_pY {h h' : Hp} (F : Fr (pb 91) h h') : Fr pY h h' := fr_mo F (fun c i hc => by
  have hc' : 91 ≤ c ∧ c < 91 + 4 := hc
  show 91 ≤ c ∧ c ≤ 97
  omega)
theorem q_echo {h : Hp} {n : Inn} {s : St} (X : CX h n) (hw : wI n) (C : CS h s) (W : wS n s) {x2 x3 : Int32} {t : Nat} (ht : t < nT n) {Q : ((Int32 × Hp) ⊕ (Int32 × Hp)) → Prop} (hQ : ∀ g, (∀ v, v < 4 → g.1 95 (4 * t + v) = Zw n s t v) → (∀ i, i < 4 * t → g.1 95 i = h.1 95 i) → Fr pY h g → Q (.inl (nI (t + 1), g))) : Okk ((N_tryFrom h 57 (nI t)).bind fun h21 => (N_spyOut_l33 57 x2 x3 (nI t) (0 : Int32) h21)) Q := by
  have hT5 := hw.1
  have hk6 := kp_le hw t
  obtain ⟨l5, l6, l7, k5, k6, k7⟩ := ln9
  refine okb (q_try X hw C W ht) ?_
  rintro g0 ⟨B0, F0⟩
  unfold N_spyOut_l33
  refine lp_for _ 4 (fun v q => q.1 = nI v ∧ CB q.2 91 (zT n s t v) ∧ (∀ j, j < v → q.2.1 95 (4 * t + j) = Zw n s t j) ∧ (∀ i, i < 4 * t → q.2.1 95 i = h.1 95 i) ∧ Fr pY h q.2) _ ?_ ?_ 0 _ (by omega) ⟨rfl, B0, fun j hj => absurd hj (by omega), fun i hi => pb_fr F0 i (by omega), pb_pY F0⟩
  · rintro v ⟨q1, q2⟩ hv ⟨e1, e2, e3, e4, e5⟩
    dsimp only at e1 e2 e3 e4 e5
    subst e1
    obtain ⟨g1, g2⟩ := gB_zT W (show t < 5 by omega) v
    have ew := (q_bturn k91 e2 (by omega) g2).2
    unfold N_spyOut_b33
    dsimp only
    rw [if_neg (show ¬ (4 : Int32) ≤ nI v from fun c => by have c2 : nI 4 ≤ nI v := c; rw [i_le, nI_toInt (by omega), nI_toInt (by omega)] at c2; omega), ew, sb, show (4 : Int32) * nI t + nI v = nI (4 * t + v) by rw [show (4 : Int32) * nI t = nI (4 * t) from pk_mul 4 t, nI_add], l5, if_pos (nI_in (by omega) (by omega)), bnd_eq, if_pos rfl, nI_clamp (show 4 * t + v < 2 ^ 31 by omega)]
    have F1 : Fr pY h (wr q2 95 (4 * t + v) (bV (zT n s t v))) := fr_tr e5 (fr_wr ⟨by omega, by omega⟩)
    obtain ⟨a, ha, h6, H, hk, h5, hg⟩ := cx_g (pY_cx X F1)
    rw [h6, nI_clamp (show a < 2 ^ 31 by omega), if_pos hk, q_keepsOf H hw (by omega), sb]
    have B1 : CB (wr q2 95 (4 * t + v) (bV (zT n s t v))) 91 (zT n s t v) := by
      obtain ⟨d1, d2, d3, d4, d5⟩ := e2
      refine ⟨by rw [wr_c _ _ _ _ (by omega), d1], by rw [wr_c _ _ _ _ (by omega), d2], by rw [wr_c _ _ _ _ (by omega), d3], by rw [wr_c _ _ _ _ (by omega), d4], ?_⟩
      intro i hi
      rw [wr_c _ _ _ _ (by omega), wr_c _ _ _ _ (by omega), wr_c _ _ _ _ (by omega)]
      exact d5 i hi
    refine okb (q_quietly (pY_cx X F1) hw (pY_cs C F1) W (show t < 5 by omega) B1) ?_
    rintro g3 ⟨B3, F3⟩
    have o3 : ∀ i, g3.1 95 i = (wr q2 95 (4 * t + v) (bV (zT n s t v))).1 95 i := fun i => pb_fr F3 i (by omega)
    rw [bnd_eq]
    refine ok_mk ⟨nI_add _ _, B3, ?_, ?_, fr_tr F1 (pb_pY F3)⟩
    · intro j hj
      dsimp only
      rw [o3, wr_i]
      by_cases c : j = v
      · subst c
        rw [if_pos ⟨rfl, rfl⟩]; rfl
      · rw [if_neg (by omega), e3 j (by omega)]
    · intro i hi
      dsimp only
      rw [o3, wr_p _ _ _ _ (by omega), e4 i hi]
  · rintro ⟨q1, q2⟩ ⟨e1, e2, e3, e4, e5⟩
    dsimp only at e1 e2 e3 e4 e5
    subst e1
    unfold N_spyOut_b33 N_spyOut_j91
    dsimp only
    rw [if_pos (show (4 : Int32) ≤ nI 4 by decide +kernel), bnd_eq, show nI t + (1 : Int32) = nI (t + 1) from nI_add _ _]
    exact okmr (ok_mk (hQ q2 e3 e4 e5))
/-- what the spy is answered -/
def spyA (fd : Nat → Nat → Bool) (T : Nat) (v : Int32) (h : Hp) : Prop := (NoF fd T ∧ v = jN 1) ∨ ∃ N r, FF fd T N r ∧ v = nI N ∧ ∀ i, i < N → h.1 97 i = nI (spd T N r i)
theorem q_search {h : Hp} {Z : Nat → Nat → Int32} {T : Nat} {x : Int32} (hT : T ≤ 5) (hZ : ∀ t v, t < T → v < 4 → h.1 95 (4 * t + v) = Z t v) : Okk (N_spyOut_j97 57 x (nI T) h) (fun q => spyA (spf Z T x) T q.1 q.2 ∧ Fr pS h q.2) := by
  unfold N_spyOut_j97 N_spyOut_l103
  refine lp_for _ 5 (fun N q => q.1 = nI (T ^ N) ∧ q.2.1 = nI N ∧ (∀ N', N' < N → ∀ r', r' < T ^ N' → spf Z T x N' r' = false) ∧ Fr pS h q.2.2) _ ?_ ?_ 0 _ (by omega) ⟨rfl, rfl, fun N' c => absurd c (by omega), fr_rfl⟩
  · rintro N ⟨q1, q2, q3⟩ hN ⟨e1, e2, e3, e4⟩
    dsimp only at e1 e2 e3 e4
    subst e1 e2
    have hp := pw_le hT (show N ≤ 5 by omega)
    unfold N_spyOut_b103
    dsimp only
    rw [if_neg (show ¬ (4 : Int32) < nI N from fun c => by have c2 : nI 4 < nI N := c; rw [i_lt, nI_toInt (by omega), nI_toInt (by omega)] at c2; omega)]
    unfold N_spyOut_l112
    refine lp_for _ (T ^ N) (fun r q => q.1 = nI r ∧ (∀ r', r' < r → spf Z T x N r' = false) ∧ Fr pS h q.2) _ ?_ ?_ 0 _ (Nat.zero_le _) ⟨rfl, fun r' c => absurd c (by omega), e4⟩
    · rintro r ⟨p1, p2⟩ hr ⟨a1, a2, a3⟩
      dsimp only at a1 a2 a3
      subst a1
      have o : ∀ c i, ¬ (c = 96 ∨ c = 97) → p2.1 c i = h.1 c i := a3
      unfold N_spyOut_b112 N_spyOut_j135
      dsimp only
      rw [if_neg (show ¬ nI (T ^ N) ≤ nI r from fun c => by rw [i_le, nI_toInt (by omega), nI_toInt (by omega)] at c; omega)]
      have got : Okk (N_wordsOn p2 (nI r) (nI N) (nI T)) (fun q => q.1 = spw Z T N r N ∧ (∀ i, i < N → q.2.1 97 i = nI (spd T N r i)) ∧ Fr pS p2 q.2) := by
        by_cases c : 1 ≤ T
        · exact q_won c hT (by omega) hr (fun t v ht hv => by rw [o 95 _ (by omega), hZ t v ht hv])
        · have hT0 : T = 0 := by omega
          have hN0 : N = 0 := by
            rcases Nat.eq_zero_or_pos N with c2 | c2
            · exact c2
            · rw [hT0, Nat.zero_pow c2] at hr
              omega
          subst hT0 hN0
          unfold N_wordsOn
          rw [if_neg (show ¬ (1 : Int32) ≤ nI 0 by decide +kernel)]
          exact ok_mk ⟨rfl, fun i hi => absurd hi (by omega), fr_rfl⟩
      refine okb got ?_
      rintro ⟨w, g⟩ ⟨b1, b2, b3⟩
      dsimp only at b1 b2 b3
      subst b1
      dsimp only
      by_cases c : x &&& (spw Z T N r N ^^^ jN 1) = nI 0
      · rw [if_pos (show x &&& (spw Z T N r N ^^^ (-1 : Int32)) = 0 from c)]
        refine okmr (okmr (ok_mk ⟨Or.inr ⟨N, r, ⟨by omega, hr, decide_eq_true c, a2, e3⟩, rfl, b2⟩, fr_tr a3 b3⟩))
      · rw [if_neg (show ¬ x &&& (spw Z T N r N ^^^ (-1 : Int32)) = 0 from c), bnd_eq]
        refine ok_mk ⟨nI_add _ _, ?_, fr_tr a3 b3⟩
        intro r' hr'
        by_cases c2 : r' = r
        · subst c2
          exact decide_eq_false c
        · exact a2 r' (by omega)
    · rintro ⟨p1, p2⟩ ⟨a1, a2, a3⟩
      dsimp only at a1 a2 a3
      subst a1
      unfold N_spyOut_b112 N_spyOut_j144
      dsimp only
      rw [if_pos (show nI (T ^ N) ≤ nI (T ^ N) by rw [i_le]; omega), bnd_eq, bnd_eq]
      refine okmr (ok_mk ⟨?_, nI_add _ _, ?_, a3⟩)
      · show nI (T ^ N) * nI T = nI (T ^ (N + 1))
        rw [pk_mul, Nat.pow_succ]
      · intro N' hN'
        by_cases c2 : N' = N
        · subst c2
          exact a2
        · exact e3 N' (by omega)
  · rintro ⟨q1, q2, q3⟩ ⟨e1, e2, e3, e4⟩
    dsimp only at e1 e2 e3 e4
    subst e1 e2
    unfold N_spyOut_b103 N_spyOut_j156
    dsimp only
    rw [if_pos (show (4 : Int32) < nI 5 by decide +kernel)]
    exact okmr (ok_mk ⟨Or.inl ⟨e3, rfl⟩, e4⟩)
theorem q_spyOut {h : Hp} {n : Inn} {s : St} (X : CX h n) (hw : wI n) (C : CS h s) (W : wS n s) (x : Int32) : Okk (N_spyOut h 57 x) (fun q => spyA (spf (Zw n s) (nT n) x) (nT n) q.1 q.2 ∧ Fr pY h q.2) := by
  have hT5 := hw.1
  obtain ⟨a, ha, h6, H, hk, h5, hg⟩ := cx_g X
  unfold N_spyOut
  rw [if_pos rfl, h6, nI_clamp (show a < 2 ^ 31 by omega), if_pos hk, h5, bnd_eq]
  unfold N_spyOut_l11
  have fin : ∀ g, (∀ t v, t < nT n → v < 4 → g.1 95 (4 * t + v) = Zw n s t v) → Fr pY h g → Okk (N_spyOut_j97 57 x (nI (nT n)) g) (fun q => spyA (spf (Zw n s) (nT n) x) (nT n) q.1 q.2 ∧ Fr pY h q.2) := by
    intro g h1 h2
    refine okw (q_search hT5 h1) ?_
    rintro q ⟨a1, a2⟩
    refine ⟨a1, fr_tr h2 (fr_mo a2 ?_)⟩
    intro c i hc
    have hc' : c = 96 ∨ c = 97 := hc
    show 91 ≤ c ∧ c ≤ 97
    omega
  refine lp_for _ (nT n) (fun t q => q.1 = nI t ∧ (∀ t' v, t' < t → v < 4 → q.2.1 95 (4 * t' + v) = Zw n s t' v) ∧ Fr pY h q.2) _ ?_ ?_ 0 _ (by omega) ⟨rfl, fun t' v c => absurd c (by omega), fr_rfl⟩
  · rintro t ⟨q1, q2⟩ ht ⟨e1, e2, e3⟩
    dsimp only at e1 e2 e3
    subst e1
    unfold N_spyOut_b11
    dsimp only
    rw [if_neg (show ¬ nI (nT n) ≤ nI t from fun c => by rw [i_le, nI_toInt (by omega), nI_toInt (by omega)] at c; omega), if_neg (show ¬ (5 : Int32) ≤ nI t from fun c => by have c2 : nI 5 ≤ nI t := c; rw [i_le, nI_toInt (by omega), nI_toInt (by omega)] at c2; omega)]
    refine q_echo (pY_cx X e3) hw (pY_cs C e3) W ht ?_
    intro g b1 b2 b3
    refine ⟨rfl, ?_, fr_tr e3 b3⟩
    intro t' v ht' hv
    dsimp only
    by_cases c : t' = t
    · subst c
      exact b1 v hv
    · rw [b2 _ (by omega), e2 t' v (by omega) hv]
  · rintro ⟨q1, q2⟩ ⟨e1, e2, e3⟩
    dsimp only at e1 e2 e3
    subst e1
    unfold N_spyOut_b11
    dsimp only
    rw [if_pos (show nI (nT n) ≤ nI (nT n) by rw [i_le]; omega)]
    exact okmr (fin q2 e2 e3)
