/-! ===== L3: texts: tokens of the model ===== -/
def MTx (X : Tx) (h : Hp) : Prop := h.1 251 11 = nI X.2 ∧ ∀ i, i < X.2 → h.1 252 i &&& nI 255 = nI (X.1 i)
theorem q_see {X : Tx} {h : Hp} (hX : okX X) (T : MTx X h) {i : Nat} (hi : i < 2 ^ 31) (h10 : h.1 251 10 = nI i) : M_see h = some (if i < X.2 then nI (X.1 i) else jN 1) := by
  have hl := hX.1
  have l2 : ln 252 = 2400 := lnm.1
  unfold M_see M_see_j28
  rw [h10, T.1, l2]
  by_cases c : i < X.2
  · rw [if_neg (show ¬ nI X.2 ≤ nI i from fun e => by rw [i_le, nI_toInt (by omega), nI_toInt (by omega)] at e; omega), if_pos (nI_in (show i < 2400 by omega) (by omega)), if_pos c, nI_clamp hi]
    exact congrArg some (T.2 i c)
  · rw [if_pos (show nI X.2 ≤ nI i by rw [i_le, nI_toInt (by omega), nI_toInt (by omega)]; omega), if_neg c]
    rfl
theorem q_mL : ∀ c, c < 256 → M_in (nI c) (97 : Int32) (122 : Int32) = some (bI (cL c)) := by decide +kernel
theorem q_mD : ∀ c, c < 256 → M_in (nI c) (48 : Int32) (57 : Int32) = some (bI (cD c)) := by decide +kernel
theorem q_mL1 : M_in (jN 1) (97 : Int32) (122 : Int32) = some (nI 0) := by decide +kernel
theorem q_mD1 : M_in (jN 1) (48 : Int32) (57 : Int32) = some (nI 0) := by decide +kernel
def mK (k : Nat) : Nat := if k = 0 then 0 else if k = 1 then 2 else if k = 2 then 3 else if k = 3 then 4 else 1
def wFd (b : Nat → Nat) (s : Nat) : Nat → Int64
  | 0 => 0
  | k + 1 => (wFd b s k <<< (Int32.toInt64 (8 : Int32) &&& 63)) ||| Int32.toInt64 (nI (b (s + k)))
def tW (X : Tx) (p : Nat) : Int64 := if tE X p - tS X p ≤ 8 then wFd X.1 (tS X p) (tE X p - tS X p) else 0
def MT (X : Tx) (h : Hp) (p : Nat) : Prop := h.1 251 10 = nI (tE X p) ∧ h.1 251 12 = nI (tS X p) ∧ h.1 251 13 = nI (mK (tK X p)) ∧ (tK X p = 2 → h.1 251 14 = nI (tV X p)) ∧ (tK X p = 1 → h.2 = tW X p)
def pMk : Nat → Nat → Prop := fun c i => c = 251 ∧ 10 ≤ i ∧ i ≤ 14 ∧ i ≠ 11
theorem pmk_o {h h' : Hp} (F : Fr pMk h h') : ∀ c i, ¬ (c = 251 ∧ 10 ≤ i ∧ i ≤ 14 ∧ i ≠ 11) → h'.1 c i = h.1 c i := F
theorem pmk_w {h : Hp} {i : Nat} {v : Int32} (hi : 10 ≤ i ∧ i ≤ 14 ∧ i ≠ 11) : Fr pMk h (wr h 251 i v) := fr_wr ⟨rfl, hi⟩
theorem pmk_l {h : Hp} {v : Int64} : Fr pMk h (wL h v) := fun _ _ _ => rfl
theorem mtx_fr {X : Tx} {h h' : Hp} (T : MTx X h) (o : ∀ c i, (c = 251 ∧ i = 11) ∨ c = 252 → h'.1 c i = h.1 c i) : MTx X h' := ⟨by rw [o _ _ (by omega), T.1], fun i hi => by rw [o _ _ (by omega), T.2 i hi]⟩
theorem mtx_k {X : Tx} {h h' : Hp} (T : MTx X h) (F : Fr pMk h h') : MTx X h' := mtx_fr T (fun c i hc => pmk_o F c i (by omega))
theorem vFd_lo {b : Nat → Nat} {s k : Nat} (h : cD (b (s + k)) = true) : ((10 : Int32) * nI (vFd b s k) + nI (b (s + k))) - (48 : Int32) = nI (vFd b s (k + 1)) := by
  have h1 := cD_n h
  show _ = nI (10 * vFd b s k + (b (s + k) - 48))
  rw [show (10 : Int32) * nI (vFd b s k) = nI (10 * vFd b s k) from pk_mul 10 _, nI_add]
  exact (pk_sub (b := 48) (by omega)).trans (by rw [show 10 * vFd b s k + b (s + k) - 48 = 10 * vFd b s k + (b (s + k) - 48) by omega])
theorem q_mj31 {X : Tx} {h z : Hp} (hX : okX X) (T : MTx X h) {p : Nat} (hp : p ≤ X.2) (F : Fr pMk h z) (h6 : z.1 251 10 = nI (tS X p)) : Okk (M_token_j31 z) (fun h' => MT X h' p ∧ Fr pMk h h') := by
  have hl := hX.1
  have hb := hX.2
  have hs := tS_b X hp
  have F1 : Fr pMk h (wr z 251 12 (nI (tS X p))) := fr_tr F (pmk_w (by omega))
  have T3 := mtx_k T F1
  have e10 : (wr z 251 12 (nI (tS X p))).1 251 10 = nI (tS X p) := by rw [wr_p _ _ _ _ (by omega), h6]
  unfold M_token_j31 M_token_j266 M_token_j263
  rw [h6, bnd_eq, q_see hX T3 (show tS X p < 2 ^ 31 by omega) e10, sb, bnd_eq]
  have F2 : Fr pMk h (wL (wr z 251 12 (nI (tS X p))) 0) := fr_tr F1 pmk_l
  have e12 : (wL (wr z 251 12 (nI (tS X p))) 0).1 251 12 = nI (tS X p) := wr_at z 251 12 (nI (tS X p))
  have e10' : (wL (wr z 251 12 (nI (tS X p))) 0).1 251 10 = nI (tS X p) := e10
  have eL : (wL (wr z 251 12 (nI (tS X p))) 0).2 = 0 := rfl
  generalize wL (wr z 251 12 (nI (tS X p))) 0 = y at *
  by_cases c : tS X p < X.2
  case neg =>
    have ek : tK X p = 0 := if_pos (by omega)
    have ee : tE X p = tS X p := if_pos (by omega)
    rw [if_neg c, if_neg (show ¬ 0 ≤ jN 1 by decide +kernel), bnd_eq]
    refine ok_mk ⟨⟨?_, ?_, ?_, fun e => absurd (ek.symm.trans e) (by decide), fun e => absurd (ek.symm.trans e) (by decide)⟩, fr_tr F2 (pmk_w (by omega))⟩
    · rw [wr_p _ _ _ _ (by omega), e10', ee]
    · rw [wr_p _ _ _ _ (by omega), e12]
    · rw [wr_at, ek]; rfl
  have eK : tK X p = if cL (X.1 (tS X p)) = true then 1 else if cD (X.1 (tS X p)) = true then (if tE X p - tS X p ≤ 2 then 2 else 4) else if X.1 (tS X p) = 59 then 3 else 4 := if_neg (by omega)
  have eE : tE X p = if cL (X.1 (tS X p)) = true then rnX cL X.1 X.2 (tS X p) else if cD (X.1 (tS X p)) = true then rnX cD X.1 X.2 (tS X p) else tS X p + 1 := if_neg (by omega)
  have hE := tE_b X hp
  rw [if_pos c, if_pos (show 0 ≤ nI (X.1 (tS X p)) from nI_pos' (by have := hb (tS X p); omega)), q_mL _ (hb _), sb, bI_it0]
  by_cases c1 : cL (X.1 (tS X p)) = true
  · rw [if_pos c1] at eK eE ⊢
    unfold M_token_l74
    refine lp_ms _ (fun z => X.2 - (z.2.1 251 10).toNatClampNeg) (fun z => ∃ i, tS X p + i ≤ X.2 ∧ z.1 = nI i ∧ z.2.1 251 10 = nI (tS X p + i) ∧ tE X p = rnX cL X.1 X.2 (tS X p + i) ∧ z.2.2 = wFd X.1 (tS X p) i ∧ z.2.1 251 12 = nI (tS X p) ∧ Fr pMk h z.2) _ ?_ _ ⟨0, by omega, rfl, e10', eE, eL, e12, F2⟩
    rintro ⟨x2, w⟩ ⟨i, i2, i3, i4, i5, i6, i7, Fw⟩
    dsimp only at i3 i4 i5 i6 i7 Fw
    subst i3
    have Tw := mtx_k T Fw
    have fin : tE X p = tS X p + i → Okk ((M_token_j121 (nI i) w).map Sum.inr) (Sum.elim (fun z : Int32 × Hp => (∃ i, tS X p + i ≤ X.2 ∧ z.1 = nI i ∧ z.2.1 251 10 = nI (tS X p + i) ∧ tE X p = rnX cL X.1 X.2 (tS X p + i) ∧ z.2.2 = wFd X.1 (tS X p) i ∧ z.2.1 251 12 = nI (tS X p) ∧ Fr pMk h z.2) ∧ X.2 - (z.2.1 251 10).toNatClampNeg < X.2 - (w.1 251 10).toNatClampNeg) (fun h' => MT X h' p ∧ Fr pMk h h')) := fun e => by
      refine okmr ?_
      unfold M_token_j121 M_token_j136 M_token_j266
      have ed : tE X p - tS X p = i := by omega
      by_cases d : i ≤ 8
      · rw [if_pos (show nI i ≤ (8 : Int32) from (nI_leI (b := 8) (by omega) (by omega)).mpr d), bnd_eq, bnd_eq]
        refine ok_mk ⟨⟨?_, ?_, ?_, fun e => absurd (eK.symm.trans e) (by decide), fun _ => ?_⟩, fr_tr Fw (fr_tr pmk_l (pmk_w (by omega)))⟩
        · rw [wr_p _ _ _ _ (by omega), e]; exact i4
        · rw [wr_p _ _ _ _ (by omega)]; exact i7
        · rw [wr_at, eK]; rfl
        · unfold tW
          rw [ed, if_pos d]
          exact i6
      · rw [if_neg (show ¬ nI i ≤ (8 : Int32) from fun e => d ((nI_leI (b := 8) (by omega) (by omega)).mp e)), bnd_eq, bnd_eq]
        refine ok_mk ⟨⟨?_, ?_, ?_, fun e => absurd (eK.symm.trans e) (by decide), fun _ => ?_⟩, fr_tr Fw (fr_tr pmk_l (pmk_w (by omega)))⟩
        · rw [wr_p _ _ _ _ (by omega), e]; exact i4
        · rw [wr_p _ _ _ _ (by omega)]; exact i7
        · rw [wr_at, eK]; rfl
        · unfold tW
          rw [ed, if_neg d]
          rfl
    unfold M_token_b74
    dsimp only
    rw [q_see hX Tw (show tS X p + i < 2 ^ 31 by omega) i4, sb]
    by_cases d : tS X p + i < X.2
    case neg =>
      rw [if_neg d, q_mL1, sb, if_pos (show nI 0 = 0 from rfl)]
      exact fin (by rw [i5, rn_ge (by omega)])
    rw [if_pos d, q_mL _ (hb _), sb, bI_it0]
    by_cases d2 : cL (X.1 (tS X p + i)) = true
    · rw [if_pos d2, sb, bnd_eq, bnd_eq, bnd_eq, i6, show nI i + (1 : Int32) = nI (i + 1) from nI_add _ _]
      have eq10 : (wL w ((wFd X.1 (tS X p) i <<< (Int32.toInt64 (8 : Int32) &&& 63)) ||| Int32.toInt64 (nI (X.1 (tS X p + i))))).1 251 10 = nI (tS X p + i) := i4
      rw [eq10, show nI (tS X p + i) + (1 : Int32) = nI (tS X p + (i + 1)) from nI_add _ _]
      refine ok_mk ⟨⟨i + 1, by omega, rfl, wr_at _ _ _ _, by rw [i5, rn_y (by omega) d2]; rfl, rfl, ?_, fr_tr Fw (fr_tr pmk_l (pmk_w (by omega)))⟩, ?_⟩
      · dsimp only
        rw [wr_p _ _ _ _ (by omega)]
        exact i7
      · dsimp only
        rw [wr_at, i4, nI_clamp (show tS X p + (i + 1) < 2 ^ 31 by omega), nI_clamp (show tS X p + i < 2 ^ 31 by omega)]
        omega
    · rw [if_neg d2]
      exact fin (by rw [i5, rn_n (eq_false_of_ne_true d2)])
  rw [if_neg c1] at eK eE ⊢
  rw [q_mD _ (hb _), sb, bI_it0]
  by_cases c2 : cD (X.1 (tS X p)) = true
  · rw [if_pos c2] at eK eE ⊢
    have hk1 : tK X p ≠ 1 := by
      rw [eK]
      by_cases d : tE X p - tS X p ≤ 2
      · rw [if_pos d]; decide
      · rw [if_neg d]; decide
    rw [bnd_eq]
    unfold M_token_l163
    refine lp_ms _ (fun z => X.2 - (z.2.1 251 10).toNatClampNeg) (fun z => ∃ i, tS X p + i ≤ X.2 ∧ z.1 = nI i ∧ z.2.1 251 10 = nI (tS X p + i) ∧ tE X p = rnX cD X.1 X.2 (tS X p + i) ∧ z.2.1 251 14 = nI (vFd X.1 (tS X p) (min i 2)) ∧ z.2.1 251 12 = nI (tS X p) ∧ Fr pMk h z.2) _ ?_ _ ⟨0, by omega, rfl, ?_, eE, wr_at _ _ _ _, ?_, fr_tr F2 (pmk_w (by omega))⟩
    · rintro ⟨x2, w⟩ ⟨i, i2, i3, i4, i5, i6, i7, Fw⟩
      dsimp only at i3 i4 i5 i6 i7 Fw
      subst i3
      have Tw := mtx_k T Fw
      have fin : tE X p = tS X p + i → Okk ((M_token_j224 (nI i) w).map Sum.inr) (Sum.elim (fun z : Int32 × Hp => (∃ i, tS X p + i ≤ X.2 ∧ z.1 = nI i ∧ z.2.1 251 10 = nI (tS X p + i) ∧ tE X p = rnX cD X.1 X.2 (tS X p + i) ∧ z.2.1 251 14 = nI (vFd X.1 (tS X p) (min i 2)) ∧ z.2.1 251 12 = nI (tS X p) ∧ Fr pMk h z.2) ∧ X.2 - (z.2.1 251 10).toNatClampNeg < X.2 - (w.1 251 10).toNatClampNeg) (fun h' => MT X h' p ∧ Fr pMk h h')) := fun e => by
        refine okmr ?_
        have ed : tE X p - tS X p = i := by omega
        rw [ed] at eK
        unfold M_token_j224 M_token_j235 M_token_j266
        by_cases d : i ≤ 2
        · rw [if_pos d] at eK
          rw [if_pos (show nI i ≤ (2 : Int32) from (nI_leI (b := 2) (by omega) (by omega)).mpr d), bnd_eq]
          refine ok_mk ⟨⟨?_, ?_, ?_, fun _ => ?_, fun e => absurd e hk1⟩, fr_tr Fw (pmk_w (by omega))⟩
          · rw [wr_p _ _ _ _ (by omega), e]; exact i4
          · rw [wr_p _ _ _ _ (by omega)]; exact i7
          · rw [wr_at, eK]; rfl
          · rw [wr_p _ _ _ _ (by omega), i6]
            unfold tV
            rw [ed, Nat.min_eq_left d]
        · rw [if_neg d] at eK
          rw [if_neg (show ¬ nI i ≤ (2 : Int32) from fun e => d ((nI_leI (b := 2) (by omega) (by omega)).mp e)), bnd_eq]
          refine ok_mk ⟨⟨?_, ?_, ?_, fun e => absurd (eK.symm.trans e) (by decide), fun e => absurd e hk1⟩, fr_tr Fw (pmk_w (by omega))⟩
          · rw [wr_p _ _ _ _ (by omega), e]; exact i4
          · rw [wr_p _ _ _ _ (by omega)]; exact i7
          · rw [wr_at, eK]; rfl
      unfold M_token_b163
      dsimp only
      rw [q_see hX Tw (show tS X p + i < 2 ^ 31 by omega) i4, sb]
      by_cases d : tS X p + i < X.2
      case neg =>
        rw [if_neg d, q_mD1, sb, if_pos (show nI 0 = 0 from rfl)]
        exact fin (by rw [i5, rn_ge (by omega)])
      rw [if_pos d, q_mD _ (hb _), sb, bI_it0]
      by_cases d2 : cD (X.1 (tS X p + i)) = true
      · have step : ∀ v, v = nI (vFd X.1 (tS X p) (min (i + 1) 2)) → Okk (M_token_j205 (nI i) v w) (Sum.elim (fun z : Int32 × Hp => (∃ i, tS X p + i ≤ X.2 ∧ z.1 = nI i ∧ z.2.1 251 10 = nI (tS X p + i) ∧ tE X p = rnX cD X.1 X.2 (tS X p + i) ∧ z.2.1 251 14 = nI (vFd X.1 (tS X p) (min i 2)) ∧ z.2.1 251 12 = nI (tS X p) ∧ Fr pMk h z.2) ∧ X.2 - (z.2.1 251 10).toNatClampNeg < X.2 - (w.1 251 10).toNatClampNeg) (fun h' => MT X h' p ∧ Fr pMk h h')) := fun v hv => by
          unfold M_token_j205
          rw [bnd_eq, bnd_eq, bnd_eq, wr_p _ _ _ _ (show 10 ≠ 14 by omega), i4, show nI i + (1 : Int32) = nI (i + 1) from nI_add _ _, show nI (tS X p + i) + (1 : Int32) = nI (tS X p + (i + 1)) from nI_add _ _]
          refine ok_mk ⟨⟨i + 1, by omega, rfl, wr_at _ _ _ _, by rw [i5, rn_y (by omega) d2]; rfl, ?_, ?_, fr_tr Fw (fr_tr (pmk_w (by omega)) (pmk_w (by omega)))⟩, ?_⟩
          · dsimp only
            rw [wr_p _ _ _ _ (by omega), wr_at, hv]
          · dsimp only
            rw [wr_p _ _ _ _ (by omega), wr_p _ _ _ _ (by omega)]
            exact i7
          · dsimp only
            rw [wr_at, nI_clamp (show tS X p + (i + 1) < 2 ^ 31 by omega), nI_clamp (show tS X p + i < 2 ^ 31 by omega)]
            omega
        rw [if_pos d2]
        by_cases d3 : 2 ≤ i
        · rw [if_pos (show (2 : Int32) ≤ nI i from (nI_leI (a := 2) (by omega) (by omega)).mpr d3), i6]
          exact step _ (by rw [Nat.min_eq_right d3, Nat.min_eq_right (show 2 ≤ i + 1 by omega)])
        · rw [if_neg (show ¬ (2 : Int32) ≤ nI i from fun e => d3 ((nI_leI (a := 2) (by omega) (by omega)).mp e)), sb, i6]
          exact step _ (by rw [Nat.min_eq_left (show i ≤ 2 by omega), Nat.min_eq_left (show i + 1 ≤ 2 by omega)]; exact vFd_lo d2)
      · rw [if_neg d2]
        exact fin (by rw [i5, rn_n (eq_false_of_ne_true d2)])
    · dsimp only
      rw [wr_p _ _ _ _ (by omega), e10']
      rfl
    · dsimp only
      rw [wr_p _ _ _ _ (by omega), e12]
  rw [if_neg c2] at eK eE ⊢
  have e59 : nI (X.1 (tS X p)) = (59 : Int32) ↔ X.1 (tS X p) = 59 := nI_eq (b := 59) (by have := hb (tS X p); omega) (by omega)
  have last : ∀ k, (tK X p = 3 ∨ tK X p = 4) → mK (tK X p) = k → Okk (bnd (wr (wr y 251 10 (nI (tS X p + 1))) 251 13 (nI k)) fun h2 => (some h2 : Option Hp)) (fun h' => MT X h' p ∧ Fr pMk h h') := fun k hk hk2 => by
    rw [bnd_eq]
    refine ok_mk ⟨⟨?_, ?_, by rw [wr_at, hk2], fun e => absurd e (by omega), fun e => absurd e (by omega)⟩, fr_tr F2 (fr_tr (pmk_w (by omega)) (pmk_w (by omega)))⟩
    · rw [wr_p _ _ _ _ (by omega), wr_at, eE]
    · rw [wr_p _ _ _ _ (by omega), wr_p _ _ _ _ (by omega), e12]
  rw [bnd_eq, e10', show nI (tS X p) + (1 : Int32) = nI (tS X p + 1) from nI_add _ _]
  by_cases c3 : X.1 (tS X p) = 59
  · rw [if_pos c3] at eK
    rw [if_pos (e59.mpr c3)]
    exact last 4 (Or.inl eK) (by rw [eK]; rfl)
  · rw [if_neg c3] at eK
    rw [if_neg (fun e => c3 (e59.mp e))]
    exact last 1 (Or.inr eK) (by rw [eK]; rfl)
theorem q_token {X : Tx} {h : Hp} (hX : okX X) (T : MTx X h) {p : Nat} (hp : p ≤ X.2) (h10 : h.1 251 10 = nI p) : Okk (M_token h) (fun h' => MT X h' p ∧ Fr pMk h h') := by
  have hl := hX.1
  have hb := hX.2
  unfold M_token M_token_l0
  refine lp_ms _ (fun z => X.2 - (z.1 251 10).toNatClampNeg) (fun z => ∃ i, p ≤ i ∧ i ≤ X.2 ∧ z.1 251 10 = nI i ∧ tS X p = rnX cB X.1 X.2 i ∧ Fr pMk h z) _ ?_ _ ⟨p, Nat.le_refl _, hp, h10, rfl, fr_rfl⟩
  rintro z ⟨i, i1, i2, i3, i4, F⟩
  have T2 := mtx_k T F
  have e10 : nI (X.1 i) = (10 : Int32) ↔ X.1 i = 10 := nI_eq (b := 10) (by have := hb i; omega) (by omega)
  have e32 : nI (X.1 i) = (32 : Int32) ↔ X.1 i = 32 := nI_eq (b := 32) (by have := hb i; omega) (by omega)
  unfold M_token_b0 M_token_j18
  rw [q_see hX T2 (show i < 2 ^ 31 by omega) i3, sb, sb]
  by_cases c : i < X.2
  case neg =>
    rw [if_neg c, if_neg (show ¬ jN 1 = (10 : Int32) by decide +kernel), if_neg (show ¬ jN 1 = (32 : Int32) by decide +kernel)]
    exact okmr (q_mj31 hX T hp F (by rw [i3, i4, rn_ge (by omega)]))
  rw [if_pos c, i3, show nI i + (1 : Int32) = nI (i + 1) from nI_add _ _, bnd_eq]
  have go : cB (X.1 i) = true → Okk (some (Sum.inl (wr z 251 10 (nI (i + 1)))) : Option (Hp ⊕ Hp)) (Sum.elim (fun s' => (∃ i, p ≤ i ∧ i ≤ X.2 ∧ s'.1 251 10 = nI i ∧ tS X p = rnX cB X.1 X.2 i ∧ Fr pMk h s') ∧ X.2 - (s'.1 251 10).toNatClampNeg < X.2 - (nI i).toNatClampNeg) (fun h' => MT X h' p ∧ Fr pMk h h')) := fun c2 => by
    refine ok_mk ⟨⟨i + 1, by omega, by omega, wr_at _ _ _ _, by rw [i4, rn_y (by omega) c2], fr_tr F (pmk_w (by omega))⟩, ?_⟩
    rw [wr_at, nI_clamp (show i + 1 < 2 ^ 31 by omega), nI_clamp (show i < 2 ^ 31 by omega)]
    omega
  by_cases d1 : X.1 i = 10
  · rw [if_pos (e10.mpr d1)]
    exact go (by rw [d1]; rfl)
  rw [if_neg (fun e => d1 (e10.mp e))]
  by_cases d2 : X.1 i = 32
  · rw [if_pos (e32.mpr d2)]
    exact go (by rw [d2]; rfl)
  rw [if_neg (fun e => d2 (e32.mp e))]
  refine okmr (q_mj31 hX T hp F ?_)
  rw [i3, i4, rn_n]
  unfold cB
  rw [decide_eq_false d1, decide_eq_false d2]
  rfl
