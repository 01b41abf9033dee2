/-! ===== L3: seatings: the code ===== -/
theorem ln99 : ln 100 = 6 ∧ ln 101 = 6 ∧ ln 102 = 6 ∧ ln 103 = 5 ∧ ln 104 = 5 ∧ ln 105 = 6 ∧ ln 106 = 6 ∧ kd 100 = 20 ∧ kd 101 = 20 ∧ kd 102 = 20 ∧ kd 103 = 20 ∧ kd 104 = 20 ∧ kd 105 = 20 ∧ kd 106 = 20 := by decide +kernel
def pSe : Nat → Nat → Prop := fun c _ => 99 ≤ c ∧ c ≤ 106
theorem se_o {h h' : Hp} (F : Fr pSe h h') : ∀ c i, ¬ (99 ≤ c ∧ c ≤ 106) → h'.1 c i = h.1 c i := F
theorem cs_se {h h' : Hp} {n : Inn} {s : St} (F : Fr pSe h h') (X : CX h n) (C : CS h s) : CX h' n ∧ CS h' s := by
  have o := se_o F
  refine ⟨cx_fr X (fun c i hc => o c i (by omega)), ?_⟩
  obtain ⟨c1, c2, c3, c4, c5, c6⟩ := C
  refine ⟨fun t ht => cb_fr (c1 t ht) (fun c i h1 h2 => o c i (by omega)), fun g hg => ?_, fun i hi => ?_, ?_, ?_, ?_⟩
  · rw [o _ _ (by omega), o _ _ (by omega), o _ _ (by omega)]
    exact c2 g hg
  · rw [o _ _ (by omega)]
    exact c3 i hi
  · rw [o _ _ (by omega), c4]
  · rw [o _ _ (by omega), c5]
  · rw [o _ _ (by omega), c6]
def ArS (n : Inn) (s : St) (f : Nat → Pst) (j : Nat) (h : Hp) : Prop := ∀ g, g < 6 → h.1 100 g = al n s f g j ∧ h.1 101 g = ap f 2 g j ∧ h.1 102 g = ap f 3 g j
theorem q_isHere {h : Hp} {n : Inn} {a : Nat} (hw : wI n) (hG : nG n ≤ 6) (ha : a < 50) (e7 : h.1 99 7 = nI a) (H : CH h a n) {g : Nat} (hg : g < 10) : G_isHere h (nI g) = some (bI (decide (g < nG n))) := by
  unfold G_isHere G_isHere_j21 G_isHere_j22
  rw [e7, nI_clamp (show a < 2 ^ 31 by omega), if_pos H.1, q_hasGuest H hw, sb, iz_nI 0 _ (by omega), bI_it0]
  by_cases c : g < nG n
  · rw [if_pos (decide_eq_true (show 0 ≤ g ∧ g < 0 + nG n by omega)), if_neg (show ¬ (6 : Int32) ≤ nI g from fun e => by rw [i_le, nI_toInt (by omega)] at e; have : (6 : Int32).toInt = 6 := rfl; omega), decide_eq_true c]
    exact if_pos (Or.inr rfl)
  · rw [if_neg (show ¬ decide (0 ≤ g ∧ g < 0 + nG n) = true by rw [decide_eq_true_eq]; omega), decide_eq_false c]
    exact if_pos (Or.inl rfl)
theorem q_tw {h : Hp} {n : Inn} {s : St} (X : CX h n) (hw : wI n) (C : CS h s) (W : wS n s) {x : Nat} (hx : x < 31) (b : Bool) : G_tablesWith h 57 (nI x) (bI b) = some (tw n s x b) := by
  have hT := hw.1
  apply ok_to
  unfold G_tablesWith G_tablesWith_l5
  refine lp_for _ 5 (fun t q => q = (oT (fun t => if t < nT n ∧ bt (bV (sB s t)) x = b then sh (nI 1) (nI t) else nI 0) t, nI t)) _ ?_ ?_ 0 _ (by omega) rfl
  · rintro t q ht rfl
    unfold G_tablesWith_b5 G_tablesWith_j49
    dsimp only
    rw [if_neg (show ¬ (5 : Int32) ≤ nI t from fun e => by rw [i_le, nI_toInt (by omega)] at e; have : (5 : Int32).toInt = 5 := rfl; omega), if_pos rfl, q_benchAt X hw (nI t), iz_nI 0 _ (by omega), sb, bnd_eq, show nI t + (1 : Int32) = nI (t + 1) from nI_add _ _, oT_s]
    by_cases c1 : t < nT n
    · have hb := wB_u (W.1 t ht).1 (by have := kp_le hw t; omega)
      have hbt := q_bturn (el_st t ht).2 (C.1 t ht) hb.1 (W.1 t ht).1.2.1
      rw [if_pos (decide_eq_true (show 0 ≤ t ∧ t < 0 + nT n by omega)), nI_clamp (show t < 2 ^ 31 by omega), if_neg (show ¬ 70 + 4 * t = 0 by omega), if_pos (el_st t ht).2, hbt.2, sb, q_isIn _ hx, sb]
      by_cases c2 : bt (bV (sB s t)) x = b
      · rw [if_pos (show bI (bt (bV (sB s t)) x) = bI b by rw [c2]), if_pos (show t < nT n ∧ bt (bV (sB s t)) x = b from ⟨c1, c2⟩)]
        exact ok_mk rfl
      · rw [if_neg (show ¬ bI (bt (bV (sB s t)) x) = bI b from fun e => c2 (by rw [bI_ne] at e; exact e)), if_neg (show ¬ (t < nT n ∧ bt (bV (sB s t)) x = b) from fun e => c2 e.2), or_z]
        exact ok_mk rfl
    · rw [if_neg (show ¬ decide (0 ≤ t ∧ t < 0 + nT n) = true by rw [decide_eq_true_eq]; omega), if_pos rfl, if_neg (show ¬ (t < nT n ∧ bt (bV (sB s t)) x = b) from fun e => c1 e.1), or_z]
      exact ok_mk rfl
  · rintro q rfl
    unfold G_tablesWith_b5 G_tablesWith_j55
    dsimp only
    rw [if_pos (show (5 : Int32) ≤ nI 5 from of_eq_true (by decide +kernel))]
    exact okmr (ok_mk rfl)
def pW3 : Nat → Nat → Prop := fun c _ => 100 ≤ c ∧ c ≤ 102
theorem q_tkW {h : Hp} {n : Inn} {s : St} {f : Nat → Pst} {a j : Nat} (X : CX h n) (hw : wI n) (C : CS h s) (W : wS n s) (hG : nG n ≤ 6) (ha : a < 50) (e7 : h.1 99 7 = nI a) (H : CH h a n) (D : wW (f j)) : Okk (G_takeWish h 57 (f j).1 (f j).2.1 (f j).2.2) (fun r => r.1 = bI (hrW n f j) ∧ (hrW n f j = true → ArS n s f j h → ArS n s f (j + 1) r.2) ∧ Fr pW3 h r.2) := by
  obtain ⟨w1, w2, w3, w4, w5, w6, w7⟩ := wW_n D
  obtain ⟨l0, l1, l2, l3, l4, l5, l6, k0, k1, k2, k3, k4, k5, k6⟩ := ln99
  have i1 := q_isHere hw hG ha e7 H (g := wg f j) (by omega)
  have i2 := q_isHere hw hG ha e7 H (g := wx f j) (by omega)
  have hl : ∀ K, wk f j = K → ∀ g, ap f K g (j + 1) = if wg f j = g then ap f K g j ||| sh (nI 1) (nI (wx f j)) else if wx f j = g then ap f K g j ||| sh (nI 1) (nI (wg f j)) else ap f K g j := fun K hK g => by rw [ap_s, if_pos hK]
  have hl' : ∀ K, wk f j ≠ K → ∀ g, ap f K g (j + 1) = ap f K g j := fun K hK g => by rw [ap_s, if_neg hK]
  rw [w1, w2, w3]
  unfold G_takeWish hrW
  rw [i1, sb, bI_it0]
  by_cases c1 : wg f j < nG n
  case neg =>
    rw [decide_eq_false c1, if_neg (by decide), Bool.false_and]
    exact ok_mk ⟨rfl, fun c => absurd c (by decide), fr_rfl⟩
  rw [decide_eq_true c1, if_pos rfl, Bool.true_and]
  by_cases c2 : wk f j < 2
  · -- a word
    rw [decide_eq_true c2, Bool.true_or]
    have hj : G_takeWish_j19 57 (nI (wk f j)) (nI (wg f j)) (nI (wx f j)) h = some ((1 : Int32), wr h 100 (wg f j) (h.1 100 (wg f j) &&& tw n s (wx f j) (decide (wk f j = 0)))) := by
      unfold G_takeWish_j19 G_takeWish_j38
      rw [l0, if_pos (nI_in (show wg f j < 6 by omega) (by omega))]
      simp only [nI_clamp (show wg f j < 2 ^ 31 by omega), if_pos (nI_in (show wg f j < 6 by omega) (show 6 < 2 ^ 31 by omega))]
      by_cases c3 : wk f j = 0
      · rw [c3, if_pos (show nI 0 = 0 from rfl), decide_eq_true rfl, show G_tablesWith h 57 (nI (wx f j)) (1 : Int32) = some (tw n s (wx f j) true) from q_tw X hw C W (by omega) true, sb, bnd_eq]
      · rw [if_neg (show ¬ nI (wk f j) = 0 from ne_nI (b := 0) (by omega) (by omega) c3), decide_eq_false c3, show G_tablesWith h 57 (nI (wx f j)) (0 : Int32) = some (tw n s (wx f j) false) from q_tw X hw C W (by omega) false, sb, bnd_eq]
    have e : (if nI (wk f j) = 0 then G_takeWish_j19 57 (nI (wk f j)) (nI (wg f j)) (nI (wx f j)) h else if nI (wk f j) = (1 : Int32) then G_takeWish_j19 57 (nI (wk f j)) (nI (wg f j)) (nI (wx f j)) h else (G_isHere h (nI (wx f j))).bind fun r16 => if r16 = 0 then (some ((0 : Int32), h)) else (if nI (wk f j) = (2 : Int32) then ((G_takeWish_j72 57 (nI (wg f j)) (nI (wx f j)) 101 h)) else ((G_takeWish_j72 57 (nI (wg f j)) (nI (wx f j)) 102 h)))) = G_takeWish_j19 57 (nI (wk f j)) (nI (wg f j)) (nI (wx f j)) h := by
      by_cases c3 : wk f j = 0
      · rw [if_pos (show nI (wk f j) = 0 by rw [c3]; rfl)]
      · rw [if_neg (show ¬ nI (wk f j) = 0 from ne_nI (b := 0) (by omega) (by omega) c3), if_pos (show nI (wk f j) = (1 : Int32) by rw [show wk f j = 1 by omega]; rfl)]
    rw [e, hj]
    refine ok_mk ⟨rfl, fun _ A g hg => ?_, fr_wr (show 100 ≤ 100 ∧ 100 ≤ 102 by omega)⟩
    obtain ⟨a1, a2, a3⟩ := A g hg
    dsimp only
    refine ⟨?_, ?_, ?_⟩
    · rw [al_s]
      by_cases c3 : wg f j = g
      · subst c3
        rw [wr_at, if_pos ⟨c2, rfl⟩, a1]
      · rw [wr_p _ _ _ _ (fun e => c3 e.symm), if_neg (fun e => c3 e.2), a1]
    · rw [wr_c _ _ _ _ (by omega), hl' 2 (by omega) g, a2]
    · rw [wr_c _ _ _ _ (by omega), hl' 3 (by omega) g, a3]
  · rw [decide_eq_false c2, Bool.false_or]
    rw [if_neg c2] at w6
    rw [if_neg (show ¬ nI (wk f j) = 0 from ne_nI (b := 0) (by omega) (by omega) (by omega)), if_neg (show ¬ nI (wk f j) = (1 : Int32) from ne_nI (b := 1) (by omega) (by omega) (by omega)), i2, sb, bI_it0]
    by_cases c3 : wx f j < nG n
    case neg =>
      rw [decide_eq_false c3, if_neg (by decide)]
      exact ok_mk ⟨rfl, fun c => absurd c (by decide), fr_rfl⟩
    rw [decide_eq_true c3, if_pos rfl]
    have hne := w6.2
    have hj : ∀ c, (c = 101 ∨ c = 102) → G_takeWish_j72 57 (nI (wg f j)) (nI (wx f j)) c h = some ((1 : Int32), wr (wr h c (wg f j) (h.1 c (wg f j) ||| sh (nI 1) (nI (wx f j)))) c (wx f j) (h.1 c (wx f j) ||| sh (nI 1) (nI (wg f j)))) := by
      intro c hc
      have hk : kd c = 20 ∧ ln c = 6 := by
        rcases hc with rfl | rfl
        · exact ⟨k1, l1⟩
        · exact ⟨k2, l2⟩
      unfold G_takeWish_j72
      rw [hk.2, if_pos ⟨hk.1, nI_in (show wg f j < 6 by omega) (by omega)⟩, if_pos ⟨hk.1, nI_in (show wg f j < 6 by omega) (by omega)⟩, bnd_eq, if_pos ⟨hk.1, nI_in (show wx f j < 6 by omega) (by omega)⟩, if_pos ⟨hk.1, nI_in (show wx f j < 6 by omega) (by omega)⟩, bnd_eq, nI_clamp (show wg f j < 2 ^ 31 by omega), nI_clamp (show wx f j < 2 ^ 31 by omega), wr_p _ _ _ _ (fun e => hne e.symm)]
      rfl
    have up : ∀ c K, wk f j = K → (∀ g, g < 6 → h.1 c g = ap f K g j) → ∀ g, g < 6 → (wr (wr h c (wg f j) (h.1 c (wg f j) ||| sh (nI 1) (nI (wx f j)))) c (wx f j) (h.1 c (wx f j) ||| sh (nI 1) (nI (wg f j)))).1 c g = ap f K g (j + 1) := by
      intro c K hK A g hg
      rw [hl K hK g]
      by_cases d1 : wg f j = g
      · subst d1
        rw [wr_p _ _ _ _ hne, wr_at, if_pos rfl, A _ hg]
      · by_cases d2 : wx f j = g
        · subst d2
          rw [wr_at, if_neg d1, if_pos rfl, A _ hg]
        · rw [wr_p _ _ _ _ (fun e => d2 e.symm), wr_p _ _ _ _ (fun e => d1 e.symm), if_neg d1, if_neg d2, A g hg]
    have ot : ∀ c c' (u v : Int32) (g : Nat), c' ≠ c → (wr (wr h c (wg f j) u) c (wx f j) v).1 c' g = h.1 c' g := fun c c' u v g hc => by rw [wr_c _ _ _ _ hc, wr_c _ _ _ _ hc]
    have ea : ∀ g, al n s f g (j + 1) = al n s f g j := fun g => by rw [al_s, if_neg (fun e => c2 e.1)]
    by_cases c4 : wk f j = 2
    · rw [if_pos (show nI (wk f j) = (2 : Int32) by rw [c4]; rfl), hj 101 (Or.inl rfl)]
      refine ok_mk ⟨rfl, fun _ A g hg => ?_, fr_tr (fr_wr (show 100 ≤ 101 ∧ 101 ≤ 102 by omega)) (fr_wr (show 100 ≤ 101 ∧ 101 ≤ 102 by omega))⟩
      dsimp only
      refine ⟨?_, up 101 2 c4 (fun g hg => (A g hg).2.1) g hg, ?_⟩
      · rw [ot 101 100 _ _ _ (by omega), ea, (A g hg).1]
      · rw [ot 101 102 _ _ _ (by omega), hl' 3 (by omega) g, (A g hg).2.2]
    · rw [if_neg (show ¬ nI (wk f j) = (2 : Int32) from ne_nI (b := 2) (by omega) (by omega) c4), hj 102 (Or.inr rfl)]
      refine ok_mk ⟨rfl, fun _ A g hg => ?_, fr_tr (fr_wr (show 100 ≤ 102 ∧ 102 ≤ 102 by omega)) (fr_wr (show 100 ≤ 102 ∧ 102 ≤ 102 by omega))⟩
      dsimp only
      refine ⟨?_, ?_, up 102 3 (by omega) (fun g hg => (A g hg).2.2) g hg⟩
      · rw [ot 102 100 _ _ _ (by omega), ea, (A g hg).1]
      · rw [ot 102 101 _ _ _ (by omega), hl' 2 (by omega) g, (A g hg).2.1]
def pSd : Nat → Nat → Prop := fun c i => (c = 99 ∧ 8 ≤ i) ∨ (104 ≤ c ∧ c ≤ 106)
theorem sd_o {h h' : Hp} (F : Fr pSd h h') : ∀ c i, ¬ ((c = 99 ∧ 8 ≤ i) ∨ (104 ≤ c ∧ c ≤ 106)) → h'.1 c i = h.1 c i := F
theorem sd_se {h h' : Hp} (F : Fr pSd h h') : Fr pSe h h' := fr_mo F (fun c i hc => by
  have hc' : (c = 99 ∧ 8 ≤ i) ∨ (104 ≤ c ∧ c ≤ 106) := hc
  show 99 ≤ c ∧ c ≤ 106
  omega)
def SpS (n : Inn) (s : St) (f : Nat → Pst) (m a : Nat) (h : Hp) : Prop := a < 50 ∧ h.1 99 7 = nI a ∧ CH h a n ∧ ArS n s f m h ∧ ∀ t, t < nT n → h.1 103 t = bG (sB s t)
theorem sp_fr {n : Inn} {s : St} {f : Nat → Pst} {m a : Nat} {h h' : Hp} (hw : wI n) (H : SpS n s f m a h) (F : Fr pSd h h') : SpS n s f m a h' := by
  obtain ⟨ha, h1, h2, h3, h4⟩ := H
  have o := sd_o F
  refine ⟨ha, by rw [o _ _ (by omega), h1], chf hw h2 (fun c i hc1 hc2 => o c i (by omega)), fun g hg => ?_, fun t ht => by rw [o _ _ (by omega), h4 t ht]⟩
  rw [o _ _ (by omega), o _ _ (by omega), o _ _ (by omega)]
  exact h3 g hg
theorem q_maySit {h : Hp} {n : Inn} {s : St} {f : Nat → Pst} {m a g t : Nat} {p : Nat → Nat} (hw : wI n) (hG : nG n ≤ 6) (H : SpS n s f m a h) (hg : g < nG n) (ht : t < nT n) (e4 : h.1 104 t = dS p t g) (hp : p g = t) : G_maySit h (nI g) (nI t) = some (bI (stO n s f m p g)) := by
  obtain ⟨ha, e7, HC, A, -⟩ := H
  obtain ⟨a1, a2, a3⟩ := A g (by omega)
  have hT := hw.1
  have hS := (hw.2.2.2.1 t ht).2.1
  obtain ⟨l0, l1, l2, l3, l4, l5, l6, k0, k1, k2, k3, k4, k5, k6⟩ := ln99
  have hb := q_bits (lo_mo (dS_lo p t (k := g) (by omega)) (show g ≤ 10 by omega))
  have hp10 := pc_le (dS p t g)
  unfold G_maySit G_maySit_j32 G_maySit_j94 G_maySit_j95 stO
  rw [hp]
  rw [show K_isOf (nI g) (0 : Int32) (6 : Int32) = some (bI (iz (nI g) 0 6)) from q_isOf _ (a := 0) (n := 6) (by omega) (by omega), sb, iz_nI 0 6 (by omega), decide_eq_true (show 0 ≤ g ∧ g < 0 + 6 by omega), if_neg bt_0, show K_isOf (nI t) (0 : Int32) (5 : Int32) = some (bI (iz (nI t) 0 5)) from q_isOf _ (a := 0) (n := 5) (by omega) (by omega), sb, iz_nI 0 5 (by omega), decide_eq_true (show 0 ≤ t ∧ t < 0 + 5 by omega), if_neg bt_0, l0, if_pos (nI_in (show g < 6 by omega) (by omega))]
  simp only [nI_clamp (show g < 2 ^ 31 by omega)]
  rw [a1, q_isIn _ (show t < 31 by omega), sb, bI_it0]
  cases c1 : bt (al n s f g m) t
  case false => rw [if_neg (by decide), Bool.false_and]; rfl
  rw [if_pos rfl, Bool.true_and, l4, if_pos (nI_in (show t < 5 by omega) (by omega)), bnd_eq, bnd_eq]
  simp only [nI_clamp (show t < 2 ^ 31 by omega), e7, nI_clamp (show a < 2 ^ 31 by omega)]
  rw [e4, hb, sb, if_pos HC.1, q_seatsOf HC hw ht, sb]
  by_cases c2 : pc (dS p t g) < nS n t
  case neg =>
    rw [if_pos (show nI (nS n t) ≤ nI (pc (dS p t g)) by rw [i_le, nI_toInt (by omega), nI_toInt (by omega)]; omega), decide_eq_false c2, Bool.false_and]
    exact if_pos (Or.inl trivial)
  rw [if_neg (show ¬ nI (nS n t) ≤ nI (pc (dS p t g)) from fun e => by rw [i_le, nI_toInt (by omega), nI_toInt (by omega)] at e; omega), decide_eq_true c2, Bool.true_and, l1, if_pos (nI_in (show g < 6 by omega) (by omega)), a2]
  by_cases c3 : ap f 2 g m &&& dS p t g = nI 0
  case neg =>
    rw [if_neg (show ¬ ap f 2 g m &&& dS p t g = 0 from c3), decide_eq_false c3, Bool.false_and]
    exact if_pos (Or.inl trivial)
  rw [if_pos (show ap f 2 g m &&& dS p t g = 0 from c3), decide_eq_true c3, Bool.true_and, l2, if_pos (nI_in (show g < 6 by omega) (by omega)), a3]
  by_cases c4 : (ap f 3 g m &&& (sh (nI 1) (nI g) - nI 1)) &&& (dS p t g ^^^ jN 1) = nI 0
  · rw [if_pos (show (ap f 3 g m &&& (sh (1 : Int32) (nI g) - (1 : Int32))) &&& (dS p t g ^^^ (-1 : Int32)) = 0 from c4), decide_eq_true c4]
    exact if_pos (Or.inr trivial)
  · rw [if_neg (show ¬ (ap f 3 g m &&& (sh (1 : Int32) (nI g) - (1 : Int32))) &&& (dS p t g ^^^ (-1 : Int32)) = 0 from c4), decide_eq_false c4]
    exact if_pos (Or.inl trivial)
/-- the best so far, as the code keeps it -/
def cSS (n : Inn) (h : Hp) (q : Nat × Nat × Nat × Nat) : Prop := h.1 99 8 = nI q.1 ∧ (0 < q.1 → h.1 99 9 = nI q.2.2.1 ∧ h.1 99 10 = nI q.2.2.2 ∧ ∀ i, i < nG n → h.1 106 i = nI (spd (nT n) (nG n) q.2.1 i))
theorem q_weigh {h : Hp} {n : Inn} {fi : Nat → Bool} {hm pd : Nat → Nat} {r : Nat} (hG : nG n ≤ 6) (S : cSS n h (sS fi hm pd r)) (hb : ∀ r, hm r ≤ 200) (hc : ∀ r, pd r ≤ 1000) (hr : r ≤ 15625) (ok : fi r = true) (h5 : ∀ i, i < nG n → h.1 105 i = nI (spd (nT n) (nG n) r i)) : Okk (G_weigh h (nI (hm r)) (nI (pd r))) (fun h' => cSS n h' (sS fi hm pd (r + 1)) ∧ Fr (fun c i => (c = 99 ∧ 8 ≤ i) ∨ c = 106) h h') := by
  obtain ⟨s1, s2, s3, s4, s5⟩ := sS_in (fi := fi) (hm := hm) (pd := pd) hb r (fun i _ => hc i)
  have hbr := hb r
  have hcr := hc r
  rw [sS_s, if_pos ok]
  generalize sS fi hm pd r = q at *
  obtain ⟨e8, e9⟩ := S
  have n0 : (0 : Int32) = nI 0 := rfl
  have keep : ¬ (q.1 = 0 ∨ hm r < q.2.2.1 ∨ (hm r = q.2.2.1 ∧ pd r < q.2.2.2)) → Okk (G_weigh_j56 h) (fun h' => cSS n h' (if q.1 = 0 ∨ hm r < q.2.2.1 ∨ (hm r = q.2.2.1 ∧ pd r < q.2.2.2) then (q.1 + 1, r, hm r, pd r) else (q.1 + 1, q.2)) ∧ Fr (fun c i => (c = 99 ∧ 8 ≤ i) ∨ c = 106) h h') := by
    intro c
    rw [if_neg c]
    obtain ⟨a1, a2, a3⟩ := e9 (by omega)
    unfold G_weigh_j56
    rw [bnd_eq, e8]
    refine ok_mk ⟨⟨?_, fun _ => ⟨?_, ?_, fun i hi => ?_⟩⟩, fr_wr (Or.inl ⟨rfl, by omega⟩)⟩
    · rw [wr_at]
      exact nI_add _ _
    · rw [wr_p _ _ _ _ (by omega), a1]
    · rw [wr_p _ _ _ _ (by omega), a2]
    · rw [wr_c _ _ _ _ (by omega), a3 i hi]
  have take : (q.1 = 0 ∨ hm r < q.2.2.1 ∨ (hm r = q.2.2.1 ∧ pd r < q.2.2.2)) → Okk (G_weigh_j31 (nI (hm r)) (nI (pd r)) h) (fun h' => cSS n h' (if q.1 = 0 ∨ hm r < q.2.2.1 ∨ (hm r = q.2.2.1 ∧ pd r < q.2.2.2) then (q.1 + 1, r, hm r, pd r) else (q.1 + 1, q.2)) ∧ Fr (fun c i => (c = 99 ∧ 8 ≤ i) ∨ c = 106) h h') := by
    intro c
    rw [if_pos c]
    have e : G_weigh_j31 (nI (hm r)) (nI (pd r)) h = some (wr (cpy (wr (wr h 99 9 (nI (hm r))) 99 10 (nI (pd r))) 105 0 106 0 6) 99 8 ((cpy (wr (wr h 99 9 (nI (hm r))) 99 10 (nI (pd r))) 105 0 106 0 6).1 99 8 + (1 : Int32))) := rfl
    have o : ∀ c i, ¬ (c = 106 ∧ 0 ≤ i ∧ i < 0 + 6) → (cpy (wr (wr h 99 9 (nI (hm r))) 99 10 (nI (pd r))) 105 0 106 0 6).1 c i = (wr (wr h 99 9 (nI (hm r))) 99 10 (nI (pd r))).1 c i := fun c i hc => if_neg hc
    rw [e]
    refine ok_mk ⟨⟨?_, fun _ => ⟨?_, ?_, fun i hi => ?_⟩⟩, ?_⟩
    · rw [wr_at, o _ _ (by omega), wr_p _ _ _ _ (by omega), wr_p _ _ _ _ (by omega), e8]
      exact nI_add _ _
    · rw [wr_p _ _ _ _ (by omega), o _ _ (by omega), wr_p _ _ _ _ (by omega), wr_at]
    · rw [wr_p _ _ _ _ (by omega), o _ _ (by omega), wr_at]
    · have e1 : (cpy (wr (wr h 99 9 (nI (hm r))) 99 10 (nI (pd r))) 105 0 106 0 6).1 106 i = (wr (wr h 99 9 (nI (hm r))) 99 10 (nI (pd r))).1 105 (0 + (i - 0)) := if_pos ⟨rfl, by omega, by omega⟩
      rw [wr_c _ _ _ _ (by omega), e1, wr_c _ _ _ _ (by omega), wr_c _ _ _ _ (by omega), show 0 + (i - 0) = i by omega, h5 i hi]
    · intro c i hc
      have hc' : ¬ ((c = 99 ∧ 8 ≤ i) ∨ c = 106) := hc
      rw [wr_i, if_neg (by omega), o _ _ (by omega), wr_i, if_neg (by omega), wr_i, if_neg (by omega)]
  unfold G_weigh
  rw [e8]
  by_cases c1 : q.1 = 0
  · rw [if_pos (show nI q.1 = 0 by rw [c1]; rfl)]
    exact take (Or.inl c1)
  rw [if_neg (show ¬ nI q.1 = 0 from ne_nI (b := 0) (by omega) (by omega) c1)]
  obtain ⟨a1, a2, a3⟩ := e9 (by omega)
  rw [a1, a2]
  by_cases c2 : hm r < q.2.2.1
  · rw [if_pos ((nI_ltI (by omega) (by omega)).mpr c2)]
    exact take (Or.inr (Or.inl c2))
  rw [if_neg (fun e => c2 ((nI_ltI (by omega) (by omega)).mp e))]
  by_cases c3 : hm r = q.2.2.1
  · rw [if_pos (show nI (hm r) = nI q.2.2.1 by rw [c3])]
    by_cases c4 : pd r < q.2.2.2
    · rw [if_neg (show ¬ nI q.2.2.2 ≤ nI (pd r) from fun e => by rw [i_le, nI_toInt (by omega), nI_toInt (by omega)] at e; omega)]
      exact take (Or.inr (Or.inr ⟨c3, c4⟩))
    · rw [if_pos (show nI q.2.2.2 ≤ nI (pd r) by rw [i_le, nI_toInt (by omega), nI_toInt (by omega)]; omega)]
      exact keep (by omega)
  · rw [if_neg (fun e => c3 ((nI_eq (by omega) (by omega)).mp e))]
    exact keep (by omega)
