/-! ===== L3: fits ===== -/
def zL (k0 : Nat) : Nat → Bn
  | 0 => bCl
  | k + 1 => bQt (zL k0 k) (nI k) k0
theorem gB_zL (k0 : Nat) : ∀ k, gB k0 (zL k0 k)
  | 0 => ⟨Nat.zero_le _, Or.inr rfl⟩
  | k + 1 => gB_qt _ (gB_zL k0 k)
theorem zL_r (k0 : Nat) : ∀ k i, i < bL (zL k0 k) → ∃ j, j < k ∧ (bR (zL k0 k) i).2.2 = nI j
  | 0, i, hi => absurd hi (Nat.not_lt_zero i)
  | k + 1, i, hi => by
    have hi' : i < bL (zL k0 k) + 1 - (bL (zL k0 k) + 1 - k0) := hi
    show ∃ j, j < k + 1 ∧ (up (bR (zL k0 k)) (bL (zL k0 k)) (nI 0, nI 0, nI k) (i + (bL (zL k0 k) + 1 - k0))).2.2 = nI j
    by_cases e : i + (bL (zL k0 k) + 1 - k0) = bL (zL k0 k)
    · rw [e, up_at]
      exact ⟨k, by omega, rfl⟩
    · rw [up_ne _ _ e]
      obtain ⟨j, hj, h⟩ := zL_r k0 k _ (show i + (bL (zL k0 k) + 1 - k0) < bL (zL k0 k) by omega)
      exact ⟨j, by omega, h⟩
/-- the sitting that comes round -/
def lR (x : Bn) : Int32 := if bU x < bL x then (bR x (bU x)).2.2 else jN 1
theorem lR_in (k0 k : Nat) : lR (zL k0 k) = jN 1 ∨ ∃ j, j < k ∧ lR (zL k0 k) = nI j := by
  unfold lR
  by_cases h : bU (zL k0 k) < bL (zL k0 k)
  · rw [if_pos h]
    exact Or.inr (zL_r k0 k _ h)
  · rw [if_neg h]
    exact Or.inl rfl
def ltS (n : Inn) (su : Nat → Int32) (who sit : Int32) : Bool × (Nat → Int32) := if sit = jN 1 ∨ who = jN 1 then (decide (sit = who), su) else if iz who 0 (nG n) = true then (if su sit.toNatClampNeg = jN 1 then (true, up su sit.toNatClampNeg who) else (decide (su sit.toNatClampNeg = who), su)) else (false, su)
def flS (n : Inn) (k0 : Nat) (f : Nat → Pst) : Nat → Bool × (Nat → Int32)
  | 0 => (true, fun _ => jN 1)
  | k + 1 => ((flS n k0 f k).1 && (ltS n (flS n k0 f k).2 (f k).2.1 (lR (zL k0 k))).1, (ltS n (flS n k0 f k).2 (f k).2.1 (lR (zL k0 k))).2)
theorem ne_jN {a : Nat} (ha : a < 2 ^ 31) : ¬ nI a = jN 1 := by
  intro e
  have := (NJ a 1 (by omega) (by omega)).2.2.2.2.1 ha
  rw [this] at e
  exact e
/-- what is sure: nobody, or a guest -/
theorem fl_in {n : Inn} (hw : wI n) {k0 m : Nat} {f : Nat → Pst} (hm : m ≤ 7) (D : ∀ i, i < m → wG (f i)) : ∀ k, k ≤ m → ∀ i, (flS n k0 f k).2 i = jN 1 ∨ ∃ g, g < nG n ∧ (flS n k0 f k).2 i = nI g
  | 0, _, i => Or.inl rfl
  | k + 1, hk, i => by
    have ih := fl_in hw hm D (k0 := k0) k (by omega)
    show (ltS n (flS n k0 f k).2 (f k).2.1 (lR (zL k0 k))).2 i = jN 1 ∨ ∃ g, g < nG n ∧ (ltS n (flS n k0 f k).2 (f k).2.1 (lR (zL k0 k))).2 i = nI g
    unfold ltS
    by_cases c1 : lR (zL k0 k) = jN 1 ∨ (f k).2.1 = jN 1
    · rw [if_pos c1]
      exact ih i
    · rw [if_neg c1]
      by_cases c2 : iz (f k).2.1 0 (nG n) = true
      · rw [if_pos c2]
        by_cases c3 : (flS n k0 f k).2 (lR (zL k0 k)).toNatClampNeg = jN 1
        · rw [if_pos c3]
          show up (flS n k0 f k).2 (lR (zL k0 k)).toNatClampNeg (f k).2.1 i = jN 1 ∨ ∃ g, g < nG n ∧ up (flS n k0 f k).2 (lR (zL k0 k)).toNatClampNeg (f k).2.1 i = nI g
          by_cases e : i = (lR (zL k0 k)).toNatClampNeg
          · rw [e, up_at]
            obtain ⟨g, hg, -, h⟩ := iz_0 c2
            exact Or.inr ⟨g, hg, h⟩
          · rw [up_ne _ _ e]
            exact ih i
        · rw [if_neg c3]
          exact ih i
      · rw [if_neg c2]
        exact ih i
def pF : Nat → Nat → Prop := fun c i => (c = 90 ∧ 5 ≤ i ∧ i ≤ 9) ∨ (91 ≤ c ∧ c < 95) ∨ c = 98
theorem q_listenTo {h : Hp} {n : Inn} {a : Nat} (H : CH h a n) (hw : wI n) {who sit : Int32} {su : Nat → Int32} (hs : ∀ i, i < 7 → h.1 98 i = su i) (hsit : sit = jN 1 ∨ ∃ j, j < 7 ∧ sit = nI j) : Okk (N_listenTo h a who sit) (fun r => r.1 = bI (ltS n su who sit).1 ∧ (∀ i, i < 7 → r.2.1 98 i = (ltS n su who sit).2 i) ∧ Fr (fun c _ => c = 98) h r.2) := by
  have l98 : ln 98 = 7 := by decide +kernel
  have hk := H.1
  unfold N_listenTo N_listenTo_j10 N_listenTo_j20 N_listenTo_j39 N_listenTo_j66 ltS
  by_cases c1 : sit = jN 1 ∨ who = jN 1
  · rw [if_pos c1]
    have out : Okk (if sit = who then (if (1 : Int32) = 0 ∨ (1 : Int32) = 1 then some ((1 : Int32), h) else none) else (if (0 : Int32) = 0 ∨ (0 : Int32) = 1 then some ((0 : Int32), h) else none)) (fun r : Int32 × Hp => r.1 = bI (decide (sit = who)) ∧ (∀ i, i < 7 → r.2.1 98 i = su i) ∧ Fr (fun c _ => c = 98) h r.2) := by
      rw [if_pos (Or.inr rfl), if_pos (Or.inl rfl)]
      by_cases e : sit = who
      · rw [if_pos e, decide_eq_true e]
        exact ok_mk ⟨rfl, hs, fr_rfl⟩
      · rw [if_neg e, decide_eq_false e]
        exact ok_mk ⟨rfl, hs, fr_rfl⟩
    by_cases c2 : sit = jN 1
    · rw [if_pos (show sit = (-1 : Int32) from c2)]
      exact out
    · rw [if_neg (show ¬ sit = (-1 : Int32) from c2), if_pos (show who = (-1 : Int32) from c1.elim (fun e => absurd e c2) id)]
      exact out
  · rw [if_neg c1, if_neg (show ¬ sit = (-1 : Int32) from fun e => c1 (Or.inl e)), if_neg (show ¬ who = (-1 : Int32) from fun e => c1 (Or.inr e)), if_pos hk, q_hasGuest H hw, sb, bI_it0]
    by_cases c2 : iz who 0 (nG n) = true
    case neg =>
      rw [if_neg c2, if_neg c2]
      exact ok_mk ⟨rfl, hs, fr_rfl⟩
    rw [if_pos c2, if_pos c2]
    obtain ⟨j, hj, rfl⟩ : ∃ j, j < 7 ∧ sit = nI j := hsit.elim (fun e => absurd (Or.inl e) c1) id
    have eo : K_isOf (nI j) (0 : Int32) (7 : Int32) = some (bI true) := by
      rw [show K_isOf (nI j) (0 : Int32) (7 : Int32) = some (bI (iz (nI j) 0 7)) from q_isOf (nI j) (a := 0) (n := 7) (by omega) (by omega), iz_nI 0 7 (by omega), decide_eq_true (by omega)]
    have ein : inb (nI j) (ln 98) := by rw [l98]; exact nI_in (by omega) (by omega)
    rw [eo, sb, if_neg (show ¬ bI true = 0 by decide +kernel), if_pos ein]
    have ecl : (nI j).toNatClampNeg = j := nI_clamp (by omega)
    simp only [ecl, hs j hj]
    by_cases c3 : su j = jN 1
    · rw [if_pos (show su j = (-1 : Int32) from c3), if_pos ein, if_pos c3, bnd_eq]
      refine ok_mk ⟨rfl, ?_, fr_wr rfl⟩
      intro i hi
      show (wr h 98 j who).1 98 i = up su j who i
      by_cases e : i = j
      · subst e
        rw [wr_at, up_at]
      · rw [wr_p _ _ _ _ e, up_ne _ _ e, hs i hi]
    · rw [if_neg (show ¬ su j = (-1 : Int32) from c3), if_pos ein, if_neg c3]
      simp only [or_true, true_or, if_true]
      by_cases c4 : su j = who
      · rw [if_pos c4, decide_eq_true c4]
        exact ok_mk ⟨rfl, hs, fr_rfl⟩
      · rw [if_neg c4, decide_eq_false c4]
        exact ok_mk ⟨rfl, hs, fr_rfl⟩
theorem q_listen {h : Hp} {n : Inn} {a b m t : Nat} {f : Nat → Pst} (H : CH h a n) (ha : a < 50) (hw : wI n) (L : CL h b m f) (hb : b < 50) (hm : m ≤ 7) (ht : t < nT n) : Okk (N_listen h a b (nI t)) (fun h' => h'.1 90 8 = bI (flS n (nK n t) f m).1 ∧ (∀ i, i < 7 → h'.1 98 i = (flS n (nK n t) f m).2 i) ∧ h'.1 90 9 = lR (zL (nK n t) m) ∧ Fr pF h h') := by
  have hT5 := hw.1
  have hK := hw.2.2.2.1 t ht
  have k98 : kd 98 = 20 := by decide +kernel
  have l98 : ln 98 = 7 := by decide +kernel
  unfold N_listen
  rw [bnd_eq, q_fill _ _ k98 (by omega), sb]
  generalize hm0 : fil (wr h 90 8 (1 : Int32)) 98 (-1 : Int32) = m0
  have F0 : Fr pF h m0 := by
    intro c i hc
    have hc' : ¬ ((c = 90 ∧ 5 ≤ i ∧ i ≤ 9) ∨ (91 ≤ c ∧ c < 95) ∨ c = 98) := hc
    rw [← hm0, fil_c i (by omega), wr_i, if_neg (by omega)]
  have m08 : m0.1 90 8 = nI 1 := by rw [← hm0, fil_c 8 (by omega), wr_at]; rfl
  have m098 : ∀ i, i < 7 → m0.1 98 i = jN 1 := by
    intro i hi
    rw [← hm0, fil_at (by omega)]; rfl
  refine okb (q_clear k91) ?_
  rintro h17 ⟨B17, F17⟩
  have p91 : ∀ {h' h'' : Hp}, Fr (pb 91) h' h'' → Fr pF h' h'' := fun F => fr_mo F (fun c i hc => by
    have hc' : 91 ≤ c ∧ c < 91 + 4 := hc
    exact Or.inr (Or.inl (by omega)))
  have oH : ∀ {h' : Hp}, Fr pF h h' → CH h' a n := by
    intro h' F
    have o : ∀ c i, c < 90 → h'.1 c i = h.1 c i := fun c i hc => F c i (by show ¬ ((c = 90 ∧ 5 ≤ i ∧ i ≤ 9) ∨ (91 ≤ c ∧ c < 95) ∨ c = 98); omega)
    obtain ⟨c0, c5, c6, cT, cG⟩ := H
    refine ⟨c0, by rw [o a 5 (by omega), c5], by rw [o a 6 (by omega), c6], ?_, ?_⟩
    · intro t ht
      rw [o _ t (by omega), o _ t (by omega), o _ t (by omega)]
      exact cT t ht
    · intro g hg
      rw [o _ g (by omega), o _ g (by omega)]
      exact cG g hg
  have oL : ∀ {h' : Hp}, Fr pF h h' → CL h' b m f := fun F => cl_fr L hb (fun c i hc => F c i (by show ¬ ((c = 90 ∧ 5 ≤ i ∧ i ≤ 9) ∨ (91 ≤ c ∧ c < 95) ∨ c = 98); omega))
  unfold N_listen_l23
  refine lp_for _ m (fun k q => q.1 = nI k ∧ CB q.2 91 (zL (nK n t) k) ∧ q.2.1 90 8 = bI (flS n (nK n t) f k).1 ∧ (∀ i, i < 7 → q.2.1 98 i = (flS n (nK n t) f k).2 i) ∧ Fr pF h q.2) _ ?_ ?_ 0 _ (by omega) ?_
  · rintro k ⟨q1, q2⟩ hk ⟨e1, hB, h8, h98, hF⟩
    dsimp only at e1 hB h8 h98 hF
    subst e1
    obtain ⟨g1, g2⟩ := gB_zL (nK n t) k
    have Hq := oH hF
    have Lq := oL hF
    have en : B_nightOf q2 91 (q2.1 91 4) = some (lR (zL (nK n t) k)) := by
      have e := (q_bget k91 hB (by omega) (nI (bU (zL (nK n t) k)))).2.2
      rw [hB.2.1, e, iz_nI 0 _ (by omega), nI_clamp (by omega)]
      unfold lR
      by_cases c : bU (zL (nK n t) k) < bL (zL (nK n t) k)
      · rw [decide_eq_true (by omega), if_pos rfl, if_pos c]
      · rw [decide_eq_false (by omega), if_neg (by decide), if_neg c]
    unfold N_listen_b23
    dsimp only
    rw [if_pos Lq.1, Lq.2.1, if_neg (by rw [nI_leI (by omega) (by omega)]; omega), (q_lget Lq hk).2.1, sb, en, sb]
    refine okb (q_listenTo Hq hw h98 ((lR_in (nK n t) k).imp id (fun ⟨j, hj, e⟩ => ⟨j, by omega, e⟩))) ?_
    rintro ⟨r1, r2⟩ ⟨y1, y2, y3⟩
    dsimp only at y1 y2 y3
    subst y1
    have o98 : ∀ c i, c ≠ 98 → r2.1 c i = q2.1 c i := fun c i hc => y3 c i hc
    have G2 : Fr pF h r2 := fr_tr hF (fr_mo y3 (fun c i hc => Or.inr (Or.inr hc)))
    have B2 : CB r2 91 (zL (nK n t) k) := cb_fr hB (fun c i z1 z2 => o98 c i (by omega))
    have rest : ∀ q3 : Hp, Fr pF h q3 → CB q3 91 (zL (nK n t) k) → q3.1 90 8 = bI (flS n (nK n t) f (k + 1)).1 → (∀ i, i < 7 → q3.1 98 i = (flS n (nK n t) f (k + 1)).2 i) → Okk (N_listen_j65 a b (nI t) (nI k) q3) (Sum.elim (fun q => q.1 = nI (k + 1) ∧ CB q.2 91 (zL (nK n t) (k + 1)) ∧ q.2.1 90 8 = bI (flS n (nK n t) f (k + 1)).1 ∧ (∀ i, i < 7 → q.2.1 98 i = (flS n (nK n t) f (k + 1)).2 i) ∧ Fr pF h q.2) (fun h' => h'.1 90 8 = bI (flS n (nK n t) f m).1 ∧ (∀ i, i < 7 → h'.1 98 i = (flS n (nK n t) f m).2 i) ∧ h'.1 90 9 = lR (zL (nK n t) m) ∧ Fr pF h h')) := by
      intro q3 G3 B3 z8 z98
      have H3 := oH G3
      unfold N_listen_j65
      rw [if_pos H3.1, q_keepsOf H3 hw (by omega), sb, kp_at ht]
      refine okb (q_bQt k91 B3 (by omega) (by omega) (nI k) (by omega)) ?_
      rintro h5 ⟨B5, F5⟩
      refine ok_mk ⟨nI_1 k, B5, ?_, ?_, fr_tr G3 (p91 F5)⟩
      · show h5.1 90 8 = _
        rw [pb_fr F5 8 (by omega), z8]
      · intro i hi
        show h5.1 98 i = _
        rw [pb_fr F5 i (by omega), z98 i hi]
    have efl : (flS n (nK n t) f (k + 1)).1 = ((flS n (nK n t) f k).1 && (ltS n (flS n (nK n t) f k).2 (f k).2.1 (lR (zL (nK n t) k))).1) := rfl
    have efl2 : (flS n (nK n t) f (k + 1)).2 = (ltS n (flS n (nK n t) f k).2 (f k).2.1 (lR (zL (nK n t) k))).2 := rfl
    show Okk (if bI _ = 0 then _ else _) _
    rw [bI_it0]
    by_cases c : (ltS n (flS n (nK n t) f k).2 (f k).2.1 (lR (zL (nK n t) k))).1 = true
    · rw [if_pos c]
      refine rest r2 G2 B2 ?_ ?_
      · rw [efl, c, Bool.and_true, o98 90 8 (by omega), h8]
      · rw [efl2]
        exact y2
    · rw [if_neg c, bnd_eq]
      refine rest _ (fr_tr G2 (fr_wr (Or.inl ⟨rfl, by omega, by omega⟩))) (cb_fr B2 (fun c i z1 z2 => wr_c _ _ _ _ (by omega))) ?_ ?_
      · rw [efl, eq_false_of_ne_true c, Bool.and_false, wr_at]
        rfl
      · rw [efl2]
        intro i hi
        rw [wr_c _ _ _ _ (by omega)]
        exact y2 i hi
  · rintro ⟨q1, q2⟩ ⟨e1, hB, h8, h98, hF⟩
    dsimp only at e1 hB h8 h98 hF
    subst e1
    obtain ⟨g1, g2⟩ := gB_zL (nK n t) m
    have Lq := oL hF
    have en : B_nightOf q2 91 (q2.1 91 4) = some (lR (zL (nK n t) m)) := by
      have e := (q_bget k91 hB (by omega) (nI (bU (zL (nK n t) m)))).2.2
      rw [hB.2.1, e, iz_nI 0 _ (by omega), nI_clamp (by omega)]
      unfold lR
      by_cases c : bU (zL (nK n t) m) < bL (zL (nK n t) m)
      · rw [decide_eq_true (by omega), if_pos rfl, if_pos c]
      · rw [decide_eq_false (by omega), if_neg (by decide), if_neg c]
    unfold N_listen_b23 N_listen_j85
    dsimp only
    rw [if_pos Lq.1, Lq.2.1, if_pos (by rw [nI_leI (by omega) (by omega)]; omega), en, sb, bnd_eq]
    refine ok_mk ⟨?_, ?_, wr_at _ _ _ _, fr_tr hF (fr_wr (Or.inl ⟨rfl, by omega, by omega⟩))⟩
    · rw [wr_p _ _ _ _ (by omega), h8]
    · intro i hi
      rw [wr_c _ _ _ _ (by omega), h98 i hi]
  · refine ⟨rfl, B17, ?_, ?_, fr_tr F0 (p91 F17)⟩
    · show h17.1 90 8 = _
      rw [pb_fr F17 8 (by omega), m08]; rfl
    · intro i hi
      show h17.1 98 i = _
      rw [pb_fr F17 i (by omega), m098 i hi]; rfl
/-! the model listens -/
def mvS (n : Inn) (v : Int32) : Int32 := if v = jN 1 then (if nG n = 1 then nI 0 else jN 1) else v
def pG : Nat → Nat → Prop := fun c i => (c = 251 ∧ 52 ≤ i ∧ i ≤ 53) ∨ c = 276 ∨ c = 277
theorem q_rowsH {h : Hp} {k m : Nat} {f : Nat → Pst} (E : MG h k m f) (he : h.1 251 49 = nI k) : M_rowsHeard h = some (nI m) ∧ ∀ i, i < m → M_heardIn h (nI i) = some (f i).2.1 := by
  obtain ⟨hk, hm, h0, hR⟩ := E
  constructor
  · unfold M_rowsHeard
    rw [he]
    simp (disch := omega) only [KK, K1, K2, NN, bnd_eq, sb, smr, bI_ite, if_pos, if_neg, if_true, if_false, or_true, true_or, true_and, and_true, g01, lnm, h0]
  · intro i hi
    unfold M_heardIn
    rw [he]
    simp (disch := omega) only [KK, K1, K2, NN, bnd_eq, sb, smr, bI_ite, if_pos, if_neg, if_true, if_false, or_true, true_or, true_and, and_true, g01, lnm]
    rw [show 8 * k + 1 + i = 8 * k + (1 + i) by omega, hR i hi]
theorem fl_new {n : Inn} {k0 : Nat} {f : Nat → Pst} : ∀ k i, k ≤ 100 → k ≤ i → (flS n k0 f k).2 i = jN 1
  | 0, i, _, _ => rfl
  | k + 1, i, hk, hi => by
    have ih := fl_new (n := n) (k0 := k0) (f := f) k i (by omega) (by omega)
    show (ltS n (flS n k0 f k).2 (f k).2.1 (lR (zL k0 k))).2 i = jN 1
    unfold ltS
    by_cases c1 : lR (zL k0 k) = jN 1 ∨ (f k).2.1 = jN 1
    · rw [if_pos c1]
      exact ih
    · rw [if_neg c1]
      by_cases c2 : iz (f k).2.1 0 (nG n) = true
      · rw [if_pos c2]
        by_cases c3 : (flS n k0 f k).2 (lR (zL k0 k)).toNatClampNeg = jN 1
        · rw [if_pos c3]
          show up (flS n k0 f k).2 (lR (zL k0 k)).toNatClampNeg (f k).2.1 i = jN 1
          rcases lR_in k0 k with e | ⟨j, hj, e⟩
          · exact absurd (Or.inl e) c1
          · rw [e, nI_clamp (by omega), up_ne _ _ (show i ≠ j by omega)]
            exact ih
        · rw [if_neg c3]
          exact ih
      · rw [if_neg c2]
        exact ih
theorem q_l200 {h : Hp} {n : Inn} (X : MX h n) (hw : wI n) {t k : Nat} (ht : t < nT n) (hk : k ≤ 7) (hr : ∀ i, i < bL (zL (nK n t) k) → h.1 277 i = (bR (zL (nK n t) k) i).2.2) : Okk (M_listen_j200 (nI t) (nI (bL (zL (nK n t) k))) (nI (bU (bTn (zL (nK n t) k)))) (nI k) h) (Sum.elim (fun q => q.1 = nI (bL (zL (nK n t) (k + 1))) ∧ q.2.1 = nI (bU (zL (nK n t) (k + 1))) ∧ q.2.2.1 = nI (k + 1) ∧ (∀ i, i < bL (zL (nK n t) (k + 1)) → q.2.2.2.1 277 i = (bR (zL (nK n t) (k + 1)) i).2.2) ∧ Fr (fun c _ => c = 277) h q.2.2.2) (fun _ : Hp => False)) := by
  have hT5 := hw.1
  have hK := hw.2.2.2.1 t ht
  obtain ⟨g1, g2⟩ := gB_zL (nK n t) k
  generalize hz : zL (nK n t) k = z at *
  have e1 : zL (nK n t) (k + 1) = bQt z (nI k) (nK n t) := by
    show bQt (zL (nK n t) k) (nI k) (nK n t) = _
    rw [hz]
  rw [e1]
  have hul : bU (bTn z) ≤ 6 := by
    show (if bU z + 1 < bL z then bU z + 1 else 0) ≤ 6
    split <;> omega
  have X2 : MX (wr h 277 (bL z) (nI k)) n := mx_fr X (fun c i hc => wr_c _ _ _ _ (by omega))
  have row : ∀ i, i < bL z + 1 → (wr h 277 (bL z) (nI k)).1 277 i = (up (bR z) (bL z) (nI 0, nI 0, nI k) i).2.2 := by
    intro i hi
    by_cases e : i = bL z
    · subst e
      rw [wr_at, up_at]
    · rw [wr_p _ _ _ _ e, up_ne _ _ e]
      exact hr i (by omega)
  unfold M_listen_j200 M_listen_j263
  simp (disch := omega) only [KK, K1, K2, NN, bnd_eq, sb, smr, bI_ite, if_pos, if_neg, if_true, if_false, or_true, true_or, true_and, and_true, g01, lnm, (q_ofT X2 hw ht).2.1]
  by_cases c1 : bL z + 1 ≤ nK n t
  · rw [if_pos c1]
    have d0 : bL z + 1 - nK n t = 0 := by omega
    refine ok_mk ⟨?_, ?_, rfl, ?_, fr_wr rfl⟩
    · show nI (bL z + 1) = nI (bL z + 1 - (bL z + 1 - nK n t))
      rw [d0]; rfl
    · show nI (bU (bTn z)) = nI (bU (bTn z) - (bL z + 1 - nK n t))
      rw [d0]; rfl
    · intro i hi
      have hi' : i < bL z + 1 - (bL z + 1 - nK n t) := hi
      show (wr h 277 (bL z) (nI k)).1 277 i = (up (bR z) (bL z) (nI 0, nI 0, nI k) (i + (bL z + 1 - nK n t))).2.2
      rw [d0, Nat.add_zero]
      exact row i (by omega)
  · rw [if_neg c1]
    have d1 : bL z + 1 - nK n t = 1 := by omega
    simp (disch := omega) only [KK, K1, K2, NN, bnd_eq, sb, smr, bI_ite, if_pos, if_neg, if_true, if_false, or_true, true_or, true_and, and_true, g01, q_gs]
    unfold M_listen_l235
    refine lp_for _ (bL z + 1 - 1) (fun i q => q.1 = nI i ∧ Fr (fun c _ => c = 277) h q.2 ∧ ∀ j, j < bL z + 1 → q.2.1 277 j = (up (bR z) (bL z) (nI 0, nI 0, nI k) (if j < i then j + 1 else j)).2.2) _ ?_ ?_ 0 _ (by omega) ?_
    · rintro i ⟨q1, q2⟩ hi ⟨e2, hF, hv⟩
      dsimp only at e2 hF hv
      subst e2
      have hv1 := hv (i + 1) (by omega)
      rw [if_neg (by omega)] at hv1
      unfold M_listen_b235
      simp (disch := omega) only [KK, K1, K2, NN, bnd_eq, sb, smr, bI_ite, if_pos, if_neg, if_true, if_false, or_true, true_or, true_and, and_true, g01, lnm, hv1]
      refine ok_mk ⟨rfl, fr_tr hF (fr_wr rfl), ?_⟩
      intro j hj
      by_cases e : j = i
      · subst e
        rw [if_pos (by omega)]
        simp (disch := omega) only [KK, K1, K2, NN, bnd_eq, sb, smr, bI_ite, if_pos, if_neg, if_true, if_false, or_true, true_or, true_and, and_true, g01, wr_at, wr_c, wr_p, ]
      · simp (disch := omega) only [KK, K1, K2, NN, bnd_eq, sb, smr, bI_ite, if_pos, if_neg, if_true, if_false, or_true, true_or, true_and, and_true, g01, wr_at, wr_c, wr_p, hv j hj]
        by_cases h5 : j < i
        · rw [if_pos h5, if_pos (by omega)]
        · rw [if_neg h5, if_neg (by omega)]
    · rintro ⟨q1, q2⟩ ⟨e2, hF, hv⟩
      dsimp only at e2 hF hv
      subst e2
      unfold M_listen_b235 M_listen_j263
      simp (disch := omega) only [KK, K1, K2, NN, bnd_eq, sb, smr, bI_ite, if_pos, if_neg, if_true, if_false, or_true, true_or, true_and, and_true, g01]
      refine ok_mk ⟨?_, ?_, rfl, ?_, hF⟩
      · show nI (bL z + 1 - 1) = nI (bL z + 1 - (bL z + 1 - nK n t))
        rw [d1]
      · show nI (bU (bTn z) - 1) = nI (bU (bTn z) - (bL z + 1 - nK n t))
        rw [d1]
      · intro i hi
        have hi' : i < bL z + 1 - (bL z + 1 - nK n t) := hi
        show q2.1 277 i = (up (bR z) (bL z) (nI 0, nI 0, nI k) (i + (bL z + 1 - nK n t))).2.2
        rw [d1, hv i (by omega), if_pos (by omega)]
    · refine ⟨rfl, fr_wr rfl, ?_⟩
      intro j hj
      rw [if_neg (by omega)]
      exact row j hj
theorem lR_b {k0 k : Nat} (hk : k ≤ 7) : ∀ i, i < bL (zL k0 k) → ∃ j, j < 7 ∧ (bR (zL k0 k) i).2.2 = nI j := fun i hi => by
  obtain ⟨j, hj, e⟩ := zL_r k0 k i hi
  exact ⟨j, by omega, e⟩
theorem q_mlisten {h : Hp} {n : Inn} {e m t : Nat} {f : Nat → Pst} (X : MX h n) (hw : wI n) (E : MG h e m f) (he : h.1 251 49 = nI e) (D : ∀ i, i < m → wG (f i)) (ht : t < nT n) : Okk (M_listen h (nI t)) (fun h' => h'.1 251 53 = bI (flS n (nK n t) f m).1 ∧ h'.1 251 52 = lR (zL (nK n t) m) ∧ ((flS n (nK n t) f m).1 = true → ∀ i, i ≤ m → h'.1 276 i = mvS n ((flS n (nK n t) f m).2 i)) ∧ Fr pG h h') := by
  have hT5 := hw.1
  have hG := hw.2.2.1
  have hG1 := hw.2.1
  have hK := hw.2.2.2.1 t ht
  have hm7 := E.2.1
  have oG : ∀ {h' : Hp}, Fr pG h h' → ∀ c i, ¬ ((c = 251 ∧ 52 ≤ i ∧ i ≤ 53) ∨ c = 276 ∨ c = 277) → h'.1 c i = h.1 c i := fun F c i hc => F c i hc
  have oX : ∀ {h' : Hp}, Fr pG h h' → MX h' n := fun F => mx_fr X (fun c i hc => oG F c i (by omega))
  have oE : ∀ {h' : Hp}, Fr pG h h' → M_rowsHeard h' = some (nI m) ∧ ∀ i, i < m → M_heardIn h' (nI i) = some (f i).2.1 := by
    intro h' F
    refine q_rowsH (k := e) ?_ (by rw [oG F 251 49 (by omega), he])
    obtain ⟨a1, a2, a3, a4⟩ := E
    exact ⟨a1, a2, by rw [oG F 260 _ (by omega), a3], fun i hi => by rw [oG F 260 _ (by omega), a4 i hi]⟩
  have hin := fl_in hw (k0 := nK n t) hm7 D
  have mv0 : mvS n (jN 1) = (if nG n = 1 then nI 0 else jN 1) := if_pos rfl
  have mvg : ∀ g, g < 2 ^ 31 → mvS n (nI g) = nI g := fun g hg => if_neg (ne_jN hg)
  unfold M_listen M_listen_l12
  rw [bnd_eq]
  refine lp_for _ (m + 1) (fun k q => q.1 = nI (bL (zL (nK n t) k)) ∧ q.2.1 = nI (bU (zL (nK n t) k)) ∧ q.2.2.1 = nI k ∧ (∀ i, i < bL (zL (nK n t) k) → q.2.2.2.1 277 i = (bR (zL (nK n t) k) i).2.2) ∧ q.2.2.2.1 251 53 = bI (flS n (nK n t) f (min k m)).1 ∧ (k = m + 1 → q.2.2.2.1 251 52 = lR (zL (nK n t) m)) ∧ ((flS n (nK n t) f (min k m)).1 = true → ∀ i, i < k → q.2.2.2.1 276 i = mvS n ((flS n (nK n t) f (min k m)).2 i)) ∧ Fr pG h q.2.2.2) _ ?_ ?_ 0 _ (by omega) ?_
  · rintro k ⟨q1, q2, q3, q4⟩ hk ⟨e1, e2, e3, hr, h53, -, hs, hF⟩
    dsimp only at e1 e2 e3 hr h53 hs hF
    subst e1
    subst e2
    subst e3
    rw [show min k m = k by omega] at h53 hs
    obtain ⟨g1, g2⟩ := gB_zL (nK n t) k
    have hf7 := hin k (by omega)
    -- behind the round's first steps
    have step : ∀ q5 : Hp, Fr pG h q5 → (∀ i, i < bL (zL (nK n t) k) → q5.1 277 i = (bR (zL (nK n t) k) i).2.2) → q5.1 251 53 = bI (flS n (nK n t) f k).1 → q5.1 251 52 = lR (zL (nK n t) k) → ((flS n (nK n t) f k).1 = true → ∀ i, i < k + 1 → q5.1 276 i = mvS n ((flS n (nK n t) f k).2 i)) → Okk (M_listen_j72 (nI t) (nI (bL (zL (nK n t) k))) (nI k) (nI (bU (bTn (zL (nK n t) k)))) q5) (Sum.elim (fun q => q.1 = nI (bL (zL (nK n t) (k + 1))) ∧ q.2.1 = nI (bU (zL (nK n t) (k + 1))) ∧ q.2.2.1 = nI (k + 1) ∧ (∀ i, i < bL (zL (nK n t) (k + 1)) → q.2.2.2.1 277 i = (bR (zL (nK n t) (k + 1)) i).2.2) ∧ q.2.2.2.1 251 53 = bI (flS n (nK n t) f (min (k + 1) m)).1 ∧ (k + 1 = m + 1 → q.2.2.2.1 251 52 = lR (zL (nK n t) m)) ∧ ((flS n (nK n t) f (min (k + 1) m)).1 = true → ∀ i, i < k + 1 → q.2.2.2.1 276 i = mvS n ((flS n (nK n t) f (min (k + 1) m)).2 i)) ∧ Fr pG h q.2.2.2) (fun h' => h'.1 251 53 = bI (flS n (nK n t) f m).1 ∧ h'.1 251 52 = lR (zL (nK n t) m) ∧ ((flS n (nK n t) f m).1 = true → ∀ i, i ≤ m → h'.1 276 i = mvS n ((flS n (nK n t) f m).2 i)) ∧ Fr pG h h')) := by
      intro q5 F5 r5 z53 z52 zs
      -- the end of a round
      have fin : ∀ q6 : Hp, Fr pG h q6 → (∀ i, i < bL (zL (nK n t) k) → q6.1 277 i = (bR (zL (nK n t) k) i).2.2) → q6.1 251 53 = bI (flS n (nK n t) f (min (k + 1) m)).1 → q6.1 251 52 = lR (zL (nK n t) k) → ((flS n (nK n t) f (min (k + 1) m)).1 = true → ∀ i, i < k + 1 → q6.1 276 i = mvS n ((flS n (nK n t) f (min (k + 1) m)).2 i)) → Okk (M_listen_j200 (nI t) (nI (bL (zL (nK n t) k))) (nI (bU (bTn (zL (nK n t) k)))) (nI k) q6) (Sum.elim (fun q => q.1 = nI (bL (zL (nK n t) (k + 1))) ∧ q.2.1 = nI (bU (zL (nK n t) (k + 1))) ∧ q.2.2.1 = nI (k + 1) ∧ (∀ i, i < bL (zL (nK n t) (k + 1)) → q.2.2.2.1 277 i = (bR (zL (nK n t) (k + 1)) i).2.2) ∧ q.2.2.2.1 251 53 = bI (flS n (nK n t) f (min (k + 1) m)).1 ∧ (k + 1 = m + 1 → q.2.2.2.1 251 52 = lR (zL (nK n t) m)) ∧ ((flS n (nK n t) f (min (k + 1) m)).1 = true → ∀ i, i < k + 1 → q.2.2.2.1 276 i = mvS n ((flS n (nK n t) f (min (k + 1) m)).2 i)) ∧ Fr pG h q.2.2.2) (fun h' => h'.1 251 53 = bI (flS n (nK n t) f m).1 ∧ h'.1 251 52 = lR (zL (nK n t) m) ∧ ((flS n (nK n t) f m).1 = true → ∀ i, i ≤ m → h'.1 276 i = mvS n ((flS n (nK n t) f m).2 i)) ∧ Fr pG h h')) := by
        intro q6 F6 r6 y53 y52 ys
        refine okw (q_l200 (oX F6) hw ht (show k ≤ 7 by omega) r6) ?_
        intro x hx
        cases x with
        | inr y => exact False.elim hx
        | inl q =>
          obtain ⟨u1, u2, u3, u4, u5⟩ := hx
          have o5 : ∀ c i, c ≠ 277 → q.2.2.2.1 c i = q6.1 c i := fun c i hc => u5 c i hc
          refine ⟨u1, u2, u3, u4, by rw [o5 251 53 (by omega), y53], ?_, ?_, fr_tr F6 (fr_mo u5 (fun c i hc => Or.inr (Or.inr hc)))⟩
          · intro ek
            have : k = m := by omega
            rw [o5 251 52 (by omega), y52, this]
          · intro hb i hi
            rw [o5 276 i (by omega), ys hb i hi]
      obtain ⟨eR, eH⟩ := oE F5
      unfold M_listen_j72
      rw [eR, sb]
      by_cases ckm : m ≤ k
      · have ekm : k = m := by omega
        rw [if_pos (by rw [nI_leI (by omega) (by omega)]; exact ckm)]
        have emin : min (k + 1) m = k := by omega
        exact fin q5 F5 r5 (by rw [emin]; exact z53) z52 (by rw [emin]; exact zs)
      · have emin : min (k + 1) m = k + 1 := by omega
        rw [emin] at fin
        rw [emin]
        rw [if_neg (by rw [nI_leI (by omega) (by omega)]; exact ckm), eH k (by omega), sb, z52]
        have efl : (flS n (nK n t) f (k + 1)).1 = ((flS n (nK n t) f k).1 && (ltS n (flS n (nK n t) f k).2 (f k).2.1 (lR (zL (nK n t) k))).1) := rfl
        have efl2 : (flS n (nK n t) f (k + 1)).2 = (ltS n (flS n (nK n t) f k).2 (f k).2.1 (lR (zL (nK n t) k))).2 := rfl
        generalize hfl : flS n (nK n t) f k = fl at *
        generalize hfl1 : flS n (nK n t) f (k + 1) = fl1 at *
        have w53 : ∀ (b : Bool), Fr pG h (wr q5 251 53 (bI b)) := fun b => fr_tr F5 (fr_wr (Or.inl ⟨rfl, by omega, by omega⟩))
        by_cases c1 : lR (zL (nK n t) k) = jN 1 ∨ (f k).2.1 = jN 1
        · have el : ltS n fl.2 (f k).2.1 (lR (zL (nK n t) k)) = (decide (lR (zL (nK n t) k) = (f k).2.1), fl.2) := if_pos c1
          rw [el] at efl efl2
          have j131 : ∀ b : Bool, fl1.1 = b → Okk (M_listen_j131 (nI t) (nI (bL (zL (nK n t) k))) (nI (bU (bTn (zL (nK n t) k)))) (nI k) (bI b) q5) (Sum.elim (fun q => q.1 = nI (bL (zL (nK n t) (k + 1))) ∧ q.2.1 = nI (bU (zL (nK n t) (k + 1))) ∧ q.2.2.1 = nI (k + 1) ∧ (∀ i, i < bL (zL (nK n t) (k + 1)) → q.2.2.2.1 277 i = (bR (zL (nK n t) (k + 1)) i).2.2) ∧ q.2.2.2.1 251 53 = bI fl1.1 ∧ (k + 1 = m + 1 → q.2.2.2.1 251 52 = lR (zL (nK n t) m)) ∧ (fl1.1 = true → ∀ i, i < k + 1 → q.2.2.2.1 276 i = mvS n (fl1.2 i)) ∧ Fr pG h q.2.2.2) (fun h' => h'.1 251 53 = bI (flS n (nK n t) f m).1 ∧ h'.1 251 52 = lR (zL (nK n t) m) ∧ ((flS n (nK n t) f m).1 = true → ∀ i, i ≤ m → h'.1 276 i = mvS n ((flS n (nK n t) f m).2 i)) ∧ Fr pG h h')) := by
            intro b hb
            unfold M_listen_j131
            rw [if_pos (show bI b = 0 ∨ bI b = 1 by cases b; exact Or.inl rfl; exact Or.inr rfl), bnd_eq]
            refine fin _ (w53 b) ?_ ?_ ?_ ?_
            · intro i hi
              rw [wr_c _ _ _ _ (by omega), r5 i hi]
            · rw [wr_at, hb]
            · rw [wr_p _ _ _ _ (by omega), z52]
            · intro hb2 i hi
              rw [wr_c _ _ _ _ (by omega), efl2]
              refine zs ?_ i hi
              rw [efl] at hb2
              exact (Bool.and_eq_true _ _ ▸ hb2).1
          have j104 : Okk (M_listen_j104 (nI t) (nI (bL (zL (nK n t) k))) (nI (bU (bTn (zL (nK n t) k)))) (nI k) (f k).2.1 q5) (Sum.elim (fun q => q.1 = nI (bL (zL (nK n t) (k + 1))) ∧ q.2.1 = nI (bU (zL (nK n t) (k + 1))) ∧ q.2.2.1 = nI (k + 1) ∧ (∀ i, i < bL (zL (nK n t) (k + 1)) → q.2.2.2.1 277 i = (bR (zL (nK n t) (k + 1)) i).2.2) ∧ q.2.2.2.1 251 53 = bI fl1.1 ∧ (k + 1 = m + 1 → q.2.2.2.1 251 52 = lR (zL (nK n t) m)) ∧ (fl1.1 = true → ∀ i, i < k + 1 → q.2.2.2.1 276 i = mvS n (fl1.2 i)) ∧ Fr pG h q.2.2.2) (fun h' => h'.1 251 53 = bI (flS n (nK n t) f m).1 ∧ h'.1 251 52 = lR (zL (nK n t) m) ∧ ((flS n (nK n t) f m).1 = true → ∀ i, i ≤ m → h'.1 276 i = mvS n ((flS n (nK n t) f m).2 i)) ∧ Fr pG h h')) := by
            unfold M_listen_j104 M_listen_j130
            rw [z53, bI_it0, z52]
            by_cases c0 : fl.1 = true
            · rw [if_pos c0]
              by_cases c2 : lR (zL (nK n t) k) = jN 1
              · rw [if_pos (show lR (zL (nK n t) k) = (-1 : Int32) from c2)]
                by_cases c3 : (f k).2.1 = jN 1
                · rw [if_pos (show (f k).2.1 = (-1 : Int32) from c3)]
                  exact j131 true (by rw [efl, c0, c2, c3, decide_eq_true rfl]; rfl)
                · rw [if_neg (show ¬ (f k).2.1 = (-1 : Int32) from c3)]
                  exact j131 false (by rw [efl, c2, decide_eq_false (fun e => c3 e.symm), Bool.and_false])
              · rw [if_neg (show ¬ lR (zL (nK n t) k) = (-1 : Int32) from c2)]
                have c3 : (f k).2.1 = jN 1 := c1.elim (fun e => absurd e c2) id
                exact j131 false (by rw [efl, c3, decide_eq_false c2, Bool.and_false])
            · rw [if_neg c0]
              exact j131 false (by rw [efl, eq_false_of_ne_true c0, Bool.false_and])
          by_cases c2 : lR (zL (nK n t) k) = jN 1
          · rw [if_pos (show lR (zL (nK n t) k) = (-1 : Int32) from c2)]
            exact j104
          · rw [if_neg (show ¬ lR (zL (nK n t) k) = (-1 : Int32) from c2), if_pos (show (f k).2.1 = (-1 : Int32) from c1.elim (fun e => absurd e c2) id)]
            exact j104
        · have c1a : ¬ lR (zL (nK n t) k) = jN 1 := fun e => c1 (Or.inl e)
          have c1b : ¬ (f k).2.1 = jN 1 := fun e => c1 (Or.inr e)
          obtain ⟨j, hj, elr⟩ := (lR_in (nK n t) k).resolve_left c1a
          rw [if_neg (show ¬ lR (zL (nK n t) k) = (-1 : Int32) from c1a), if_neg (show ¬ (f k).2.1 = (-1 : Int32) from c1b)]
          have ecl : (nI j).toNatClampNeg = j := nI_clamp (by omega)
          have el : ltS n fl.2 (f k).2.1 (lR (zL (nK n t) k)) = (if iz (f k).2.1 0 (nG n) = true then (if fl.2 j = jN 1 then (true, up fl.2 j (f k).2.1) else (decide (fl.2 j = (f k).2.1), fl.2)) else (false, fl.2)) := by
            unfold ltS
            rw [if_neg c1, elr]
            simp only [ecl]
          have ein : inb (nI j) (ln 276) := by rw [show ln 276 = 8 by decide +kernel]; exact nI_in (by omega) (by omega)
          have j186 : ∀ b : Bool, fl1.1 = b → (b = true → fl.1 = true ∧ ∀ i, i < k + 1 → (if i = j then (f k).2.1 else mvS n (fl.2 i)) = mvS n (fl1.2 i)) → Okk (M_listen_j186 (nI t) (nI (bL (zL (nK n t) k))) (nI (bU (bTn (zL (nK n t) k)))) (nI k) (f k).2.1 (bI b) q5) (Sum.elim (fun q => q.1 = nI (bL (zL (nK n t) (k + 1))) ∧ q.2.1 = nI (bU (zL (nK n t) (k + 1))) ∧ q.2.2.1 = nI (k + 1) ∧ (∀ i, i < bL (zL (nK n t) (k + 1)) → q.2.2.2.1 277 i = (bR (zL (nK n t) (k + 1)) i).2.2) ∧ q.2.2.2.1 251 53 = bI fl1.1 ∧ (k + 1 = m + 1 → q.2.2.2.1 251 52 = lR (zL (nK n t) m)) ∧ (fl1.1 = true → ∀ i, i < k + 1 → q.2.2.2.1 276 i = mvS n (fl1.2 i)) ∧ Fr pG h q.2.2.2) (fun h' => h'.1 251 53 = bI (flS n (nK n t) f m).1 ∧ h'.1 251 52 = lR (zL (nK n t) m) ∧ ((flS n (nK n t) f m).1 = true → ∀ i, i ≤ m → h'.1 276 i = mvS n ((flS n (nK n t) f m).2 i)) ∧ Fr pG h h')) := by
            intro b hb hyes
            unfold M_listen_j186
            rw [if_pos (show bI b = 0 ∨ bI b = 1 by cases b; exact Or.inl rfl; exact Or.inr rfl), bnd_eq, wr_p _ _ _ _ (show (52 : Nat) ≠ 53 by omega), z52, elr, if_pos ein, ecl, bnd_eq]
            refine fin _ (fr_tr (w53 b) (fr_wr (Or.inr (Or.inl rfl)))) ?_ ?_ ?_ ?_
            · intro i hi
              rw [wr_c _ _ _ _ (by omega), wr_c _ _ _ _ (by omega), r5 i hi]
            · rw [wr_c _ _ _ _ (by omega), wr_at, hb]
            · rw [wr_c _ _ _ _ (by omega), wr_p _ _ _ _ (by omega), z52, elr]
            · intro hb2 i hi
              rw [hb] at hb2
              obtain ⟨a1, a2⟩ := hyes hb2
              rw [← a2 i hi, wr_i]
              by_cases e : i = j
              · rw [if_pos ⟨rfl, e⟩, if_pos e]
              · rw [if_neg (fun e2 => e e2.2), if_neg e, wr_c _ _ _ _ (by omega), zs a1 i hi]
          unfold M_listen_j181 M_listen_j185
          rw [z53, bI_it0]
          by_cases c0 : fl.1 = true
          case neg =>
            rw [if_neg c0]
            exact j186 false (by rw [efl, eq_false_of_ne_true c0, Bool.false_and]) (fun e => absurd e (by decide))
          rw [if_pos c0, q_isGuest (oX F5) hw, sb, bI_it0]
          by_cases c2 : iz (f k).2.1 0 (nG n) = true
          case neg =>
            rw [if_neg c2]
            rw [if_neg c2] at el
            exact j186 false (by rw [efl, el, Bool.and_false]) (fun e => absurd e (by decide))
          rw [if_pos c2] at el
          obtain ⟨g, hg, hg31, ewho⟩ := iz_0 c2
          rw [if_pos c2, elr, if_pos ein, if_pos ein, ecl, zs c0 j (by omega)]
          rw [ewho] at el j186 efl efl2 ⊢
          by_cases c3 : fl.2 j = jN 1
          · rw [if_pos c3] at el
            rw [el] at efl efl2
            have yes := j186 true (by rw [efl, c0]; rfl) (fun _ => ⟨c0, fun i hi => by
              rw [efl2]
              show _ = mvS n (up fl.2 j (nI g) i)
              by_cases e : i = j
              · rw [if_pos e, e, up_at, mvg g hg31]
              · rw [if_neg e, up_ne _ _ e]⟩)
            rw [c3, mv0]
            by_cases cg : nG n = 1
            · rw [if_pos cg]
              have g0 : g = 0 := by omega
              subst g0
              rw [if_neg (show ¬ nI 0 = (-1 : Int32) from ne_jN (by omega)), if_pos rfl]
              exact yes
            · rw [if_neg cg, if_pos (show jN 1 = (-1 : Int32) from rfl)]
              exact yes
          · rw [if_neg c3] at el
            rw [el] at efl efl2
            obtain ⟨g', hg', eg'⟩ := (hf7 j).resolve_left c3
            rw [eg', mvg g' (by omega), if_neg (show ¬ nI g' = (-1 : Int32) from ne_jN (by omega))]
            by_cases c4 : nI g' = nI g
            · rw [if_pos c4]
              refine j186 true (by rw [efl, c0, eg', decide_eq_true c4]; rfl) (fun _ => ⟨c0, fun i hi => ?_⟩)
              rw [efl2]
              by_cases e : i = j
              · rw [if_pos e, e, eg', mvg g' (by omega), c4]
              · rw [if_neg e]
            · rw [if_neg c4]
              exact j186 false (by rw [efl, eg', decide_eq_false c4, Bool.and_false]) (fun e => absurd e (by decide))
    -- the round's first steps
    unfold M_listen_b12
    dsimp only
    rw [(oE hF).1, sb, if_neg (by rw [nI_ltI (by omega) (by omega)]; omega), (mx_g (oX hF)).2]
    have beg : ∀ v, v = mvS n (jN 1) → Okk (M_listen_j40 (nI t) (nI (bL (zL (nK n t) k))) (nI (bU (zL (nK n t) k))) (nI k) (nI k) v q4) (Sum.elim (fun q => q.1 = nI (bL (zL (nK n t) (k + 1))) ∧ q.2.1 = nI (bU (zL (nK n t) (k + 1))) ∧ q.2.2.1 = nI (k + 1) ∧ (∀ i, i < bL (zL (nK n t) (k + 1)) → q.2.2.2.1 277 i = (bR (zL (nK n t) (k + 1)) i).2.2) ∧ q.2.2.2.1 251 53 = bI (flS n (nK n t) f (min (k + 1) m)).1 ∧ (k + 1 = m + 1 → q.2.2.2.1 251 52 = lR (zL (nK n t) m)) ∧ ((flS n (nK n t) f (min (k + 1) m)).1 = true → ∀ i, i < k + 1 → q.2.2.2.1 276 i = mvS n ((flS n (nK n t) f (min (k + 1) m)).2 i)) ∧ Fr pG h q.2.2.2) (fun h' => h'.1 251 53 = bI (flS n (nK n t) f m).1 ∧ h'.1 251 52 = lR (zL (nK n t) m) ∧ ((flS n (nK n t) f m).1 = true → ∀ i, i ≤ m → h'.1 276 i = mvS n ((flS n (nK n t) f m).2 i)) ∧ Fr pG h h')) := by
      intro v hv
      have ein : inb (nI k) (ln 276) := by rw [show ln 276 = 8 by decide +kernel]; exact nI_in (by omega) (by omega)
      have F6 : Fr pG h (wr q4 276 k v) := fr_tr hF (fr_wr (Or.inr (Or.inl rfl)))
      have F7 : Fr pG h (wr (wr q4 276 k v) 251 52 (lR (zL (nK n t) k))) := fr_tr F6 (fr_wr (Or.inl ⟨rfl, by omega, by omega⟩))
      have j56 : Okk (M_listen_j56 (nI t) (nI (bL (zL (nK n t) k))) (nI (bU (zL (nK n t) k))) (nI k) (lR (zL (nK n t) k)) (wr q4 276 k v)) (Sum.elim (fun q => q.1 = nI (bL (zL (nK n t) (k + 1))) ∧ q.2.1 = nI (bU (zL (nK n t) (k + 1))) ∧ q.2.2.1 = nI (k + 1) ∧ (∀ i, i < bL (zL (nK n t) (k + 1)) → q.2.2.2.1 277 i = (bR (zL (nK n t) (k + 1)) i).2.2) ∧ q.2.2.2.1 251 53 = bI (flS n (nK n t) f (min (k + 1) m)).1 ∧ (k + 1 = m + 1 → q.2.2.2.1 251 52 = lR (zL (nK n t) m)) ∧ ((flS n (nK n t) f (min (k + 1) m)).1 = true → ∀ i, i < k + 1 → q.2.2.2.1 276 i = mvS n ((flS n (nK n t) f (min (k + 1) m)).2 i)) ∧ Fr pG h q.2.2.2) (fun h' => h'.1 251 53 = bI (flS n (nK n t) f m).1 ∧ h'.1 251 52 = lR (zL (nK n t) m) ∧ ((flS n (nK n t) f m).1 = true → ∀ i, i ≤ m → h'.1 276 i = mvS n ((flS n (nK n t) f m).2 i)) ∧ Fr pG h h')) := by
        have all := step _ F7 (by
            intro i hi
            rw [wr_c _ _ _ _ (by omega), wr_c _ _ _ _ (by omega), hr i hi]) (by
            rw [wr_p _ _ _ _ (by omega), wr_c _ _ _ _ (by omega), h53]) (wr_at _ _ _ _) (by
            intro hb i hi
            rw [wr_c _ _ _ _ (by omega)]
            by_cases e : i = k
            · subst e
              rw [wr_at, hv, fl_new i i (by omega) (Nat.le_refl i)]
            · rw [wr_p _ _ _ _ e]
              exact hs hb i (by omega))
        unfold M_listen_j56
        rw [bnd_eq]
        by_cases c0 : bL (zL (nK n t) k) = 0
        · have eu : bU (bTn (zL (nK n t) k)) = 0 := by
            show (if bU (zL (nK n t) k) + 1 < bL (zL (nK n t) k) then bU (zL (nK n t) k) + 1 else 0) = 0
            rw [if_neg (by omega)]
          rw [eu] at all
          rw [if_pos (show nI (bL (zL (nK n t) k)) = (0 : Int32) by rw [c0]; rfl)]
          exact all
        · have ne0 : ¬ nI (bL (zL (nK n t) k)) = (0 : Int32) := ne_nI (b := 0) (by omega) (by omega) c0
          have eu : bU (bTn (zL (nK n t) k)) = (bU (zL (nK n t) k) + 1) % bL (zL (nK n t) k) := by
            show (if bU (zL (nK n t) k) + 1 < bL (zL (nK n t) k) then bU (zL (nK n t) k) + 1 else 0) = _
            by_cases e : bU (zL (nK n t) k) + 1 < bL (zL (nK n t) k)
            · rw [if_pos e, Nat.mod_eq_of_lt e]
            · rw [if_neg e, show bU (zL (nK n t) k) + 1 = bL (zL (nK n t) k) by omega, Nat.mod_self]
          rw [eu] at all
          rw [if_neg ne0, if_pos ne0, show nI (bU (zL (nK n t) k)) + (1 : Int32) = nI (bU (zL (nK n t) k) + 1) from nI_1 _, show rm (nI (bU (zL (nK n t) k) + 1)) (nI (bL (zL (nK n t) k))) = nI ((bU (zL (nK n t) k) + 1) % bL (zL (nK n t) k)) from pk_rem (by omega) (by omega) (by omega)]
          exact all
      unfold M_listen_j40
      rw [if_pos ein, nI_clamp (by omega), bnd_eq]
      by_cases c0 : bL (zL (nK n t) k) = 0
      · rw [if_pos (show nI (bL (zL (nK n t) k)) = (0 : Int32) by rw [c0]; rfl)]
        have e : lR (zL (nK n t) k) = (-1 : Int32) := if_neg (by omega)
        rw [e] at j56
        exact j56
      · have cu : bU (zL (nK n t) k) < bL (zL (nK n t) k) := by omega
        have e : lR (zL (nK n t) k) = (bR (zL (nK n t) k) (bU (zL (nK n t) k))).2.2 := if_pos cu
        rw [if_neg (show ¬ nI (bL (zL (nK n t) k)) = (0 : Int32) from ne_nI (b := 0) (by omega) (by omega) c0), if_pos (show inb (nI (bU (zL (nK n t) k))) (ln 277) by rw [show ln 277 = 8 by decide +kernel]; exact nI_in (by omega) (by omega)), nI_clamp (by omega), wr_c _ _ _ _ (show (277 : Nat) ≠ 276 by omega), hr _ cu, ← e]
        exact j56
    by_cases cg : nG n = 1
    · rw [if_pos (show nI (nG n) = (1 : Int32) by rw [cg]; rfl)]
      exact beg _ (by rw [mv0, if_pos cg]; rfl)
    · rw [if_neg (show ¬ nI (nG n) = (1 : Int32) from ne_nI (b := 1) (by omega) (by omega) cg)]
      exact beg _ (by rw [mv0, if_neg cg]; rfl)
  · rintro ⟨q1, q2, q3, q4⟩ ⟨e1, e2, e3, hr, h53, h52, hs, hF⟩
    dsimp only at e1 e2 e3 hr h53 h52 hs hF
    subst e1
    subst e2
    subst e3
    rw [show min (m + 1) m = m by omega] at h53 hs
    unfold M_listen_b12 M_listen_j269
    dsimp only
    rw [(oE hF).1, sb, if_pos (by rw [nI_ltI (by omega) (by omega)]; omega)]
    exact ok_mk ⟨h53, h52 rfl, fun hb i hi => hs hb i (by omega), hF⟩
  · refine ⟨rfl, rfl, rfl, fun i hi => absurd hi (Nat.not_lt_zero i), ?_, fun e => absurd e (by omega), fun _ i hi => absurd hi (Nat.not_lt_zero i), fr_wr (Or.inl ⟨rfl, by omega, by omega⟩)⟩
    dsimp only
    rw [wr_at, show min 0 m = 0 by omega]
    rfl
