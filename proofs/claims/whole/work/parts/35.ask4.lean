/-! ===== L3: met, gain, rest ===== -/
theorem bI_it0 {α : Type} (b : Bool) (x y : α) : (if bI b = 0 then x else y) = if b = true then y else x := bI_ite b x y
def wdS (s : St) (x : Int32) : Nat → Int32
  | 0 => x
  | j + 1 => wdS s x j ||| (if bt x j = true then sM s j else nI 0)
def knS (s : St) (m g : Nat) : Nat → Int32
  | 0 => sh (nI 1) (nI g)
  | k + 1 => wdS s (knS s m g k) m
theorem wd_cut {s : St} {x : Int32} {m : Nat} (hx : lo m x) : ∀ d, wdS s x (m + d) = wdS s x m
  | 0 => rfl
  | d + 1 => by
    show wdS s x (m + d) ||| (if bt x (m + d) = true then sM s (m + d) else nI 0) = _
    rw [wd_cut hx d, hx (m + d) (by omega), if_neg (by decide), or_z]
theorem wd_lo {n : Inn} {s : St} (W : wS n s) {x : Int32} (hx : lo (nG n) x) : ∀ j, j ≤ 8 → lo (nG n) (wdS s x j)
  | 0, _ => hx
  | j + 1, hj => lo_or (wd_lo W hx j (by omega)) (lo_if (W.2 j (by omega)).2.1 (lo_0 _))
theorem kn_lo {n : Inn} {s : St} (hw : wI n) (W : wS n s) {g : Nat} (hg : g < nG n) : ∀ k, lo (nG n) (knS s (nG n) g k)
  | 0 => lo_sh hg (by have := hw.2.2.1; omega)
  | k + 1 => wd_lo W (kn_lo hw W hg k) _ hw.2.2.1
theorem wd_sub {s : St} {x : Int32} {i : Nat} (h : bt x i = true) : ∀ j, bt (wdS s x j) i = true
  | 0 => h
  | j + 1 => by
    show bt (wdS s x j ||| _) i = true
    rw [b_or, wd_sub h j, Bool.true_or]
theorem cT_lt {p q : Nat → Bool} : ∀ m, (∀ i, i < m → p i = true → q i = true) → (∃ i, i < m ∧ q i = true ∧ p i = false) → cT p m < cT q m
  | 0, _, ⟨i, hi, _⟩ => absurd hi (Nat.not_lt_zero i)
  | m + 1, h, ⟨i, hi, h1, h2⟩ => by
    rw [cT_s, cT_s]
    by_cases e : i = m
    · subst e
      rw [h1, h2, if_neg (by decide), if_pos rfl]
      have : cT p i ≤ cT q i := by
        have key : ∀ k, k ≤ i → cT p k ≤ cT q k := by
          intro k
          induction k with
          | zero => intro _; exact Nat.le_refl _
          | succ k ih =>
            intro hk
            have := ih (by omega)
            rw [cT_s, cT_s]
            by_cases hp : p k = true
            · rw [if_pos hp, if_pos (h k (by omega) hp)]
              omega
            · rw [if_neg hp]
              split <;> omega
        exact key i (Nat.le_refl i)
      omega
    · have ih := cT_lt m (fun k hk => h k (by omega)) ⟨i, by omega, h1, h2⟩
      by_cases hp : p m = true
      · rw [if_pos hp, if_pos (h m (by omega) hp)]
        omega
      · rw [if_neg hp]
        split <;> omega
theorem kn_78 {n : Inn} {s : St} (hw : wI n) (W : wS n s) {g : Nat} (hg : g < nG n) : knS s (nG n) g 8 = knS s (nG n) g 7 := by
  have hG := hw.2.2.1
  have lo8 : ∀ k, lo 8 (knS s (nG n) g k) := fun k => lo_mo (kn_lo hw W hg k) hG
  have st : ∀ k, knS s (nG n) g (k + 1) = knS s (nG n) g k → knS s (nG n) g (k + 2) = knS s (nG n) g (k + 1) := by
    intro k e
    show wdS s (knS s (nG n) g (k + 1)) (nG n) = wdS s (knS s (nG n) g k) (nG n)
    rw [e]
  have gr : ∀ k, (∀ j, j ≤ k → knS s (nG n) g (j + 1) ≠ knS s (nG n) g j) → k + 1 < cT (bt (knS s (nG n) g (k + 1))) 8 := by
    have one : ∀ k, knS s (nG n) g (k + 1) ≠ knS s (nG n) g k → cT (bt (knS s (nG n) g k)) 8 < cT (bt (knS s (nG n) g (k + 1))) 8 := by
      intro k hne
      have sub : ∀ i, i < 8 → bt (knS s (nG n) g k) i = true → bt (knS s (nG n) g (k + 1)) i = true := fun i _ h => wd_sub h _
      refine cT_lt 8 sub ?_
      refine Classical.byContradiction (fun hno => hne ?_)
      apply lo_eq 8 (lo8 _) (lo8 _)
      intro i hi
      cases h1 : bt (knS s (nG n) g (k + 1)) i
      · cases h2 : bt (knS s (nG n) g k) i
        · rfl
        · rw [sub i hi h2] at h1
          exact absurd h1 (by decide)
      · cases h2 : bt (knS s (nG n) g k) i
        · exact absurd ⟨i, hi, h1, h2⟩ hno
        · rfl
    intro k
    induction k with
    | zero =>
      intro h
      have h1 := one 0 (h 0 (Nat.le_refl _))
      have h2 : 0 < cT (bt (knS s (nG n) g 0)) 8 := cT_pos 8 (show g < 8 by omega) (by show bt (sh (nI 1) (nI g)) g = true; rw [b_sh (by omega) g (by omega), decide_eq_true rfl])
      omega
    | succ k ih =>
      intro h
      have h1 := one (k + 1) (h (k + 1) (Nat.le_refl _))
      have h2 := ih (fun j hj => h j (by omega))
      omega
  refine Classical.byContradiction (fun hne => ?_)
  have all : ∀ j, j ≤ 7 → knS s (nG n) g (j + 1) ≠ knS s (nG n) g j := by
    intro j hj e
    have up : ∀ d, knS s (nG n) g (j + d + 1) = knS s (nG n) g (j + d) := by
      intro d
      induction d with
      | zero => exact e
      | succ d ih => exact st (j + d) ih
    have := up (7 - j)
    rw [show j + (7 - j) = 7 by omega] at this
    exact hne this
  have := gr 7 all
  have h2 := cT_le (bt (knS s (nG n) g (7 + 1))) 8
  omega
def goS (s : St) (m g o : Nat) : Nat := fF (fun k => bt (knS s m g k) o) 8
theorem q_gossip {h : Hp} {n : Inn} {s : St} (X : CX h n) (hw : wI n) (C : CS h s) {g o : Nat} (hg : g < nG n) (ho : o < 31) : S_gossip h (nI g) (nI o) = some (if goS s (nG n) g o < 8 then nI (goS s (nG n) g o) else jN 1) := by
  obtain ⟨a, ha, h6, H, hk, h5, hgg⟩ := cx_g X
  have hG := hw.2.2.1
  apply ok_to
  unfold S_gossip S_gossip_l7 goS
  simp (disch := omega) only [KK, K1, K2, NN, bnd_eq, sb, smr, bI_ite, if_pos, if_neg, if_true, if_false, or_true, true_or, true_and, and_true, g01]
  refine lp_for _ 8 (fun k q => q = (knS s (nG n) g k, nI k) ∧ ∀ i, i < k → bt (knS s (nG n) g i) o = false) _ ?_ ?_ 0 _ (by omega) ⟨rfl, fun i hi => absurd hi (Nat.not_lt_zero i)⟩
  · rintro k q hk8 ⟨rfl, hf⟩
    unfold S_gossip_b7 S_gossip_j22
    simp (disch := omega) only [KK, K1, K2, NN, bnd_eq, sb, smr, bI_ite, if_pos, if_neg, if_true, if_false, or_true, true_or, true_and, and_true, g01, q_isIn (knS s (nG n) g k) ho]
    by_cases hb : bt (knS s (nG n) g k) o = true
    · rw [if_pos hb]
      refine ok_mk ?_
      show nI k = _
      rw [fF_at' (fun k => bt (knS s (nG n) g k) o) hf hb 8 hk8, if_pos hk8]
    · rw [if_neg hb]
      unfold S_gossip_l31
      refine lp_for _ (nG n) (fun j q => q = (wdS s (knS s (nG n) g k) j, nI j)) _ ?_ ?_ 0 _ (by omega) rfl
      · rintro j q hj rfl
        unfold S_gossip_b31 S_gossip_j64
        simp (disch := omega) only [KK, K1, K2, NN, bnd_eq, sb, smr, bI_ite, if_pos, if_neg, if_true, if_false, or_true, true_or, true_and, and_true, g01, h6, hk, hgg, q_isIn (knS s (nG n) g k) (show j < 31 by omega), (q_byG X hw C hj).2.2]
        show Okk _ (Sum.elim (fun q => q = (wdS s (knS s (nG n) g k) j ||| (if bt (knS s (nG n) g k) j = true then sM s j else nI 0), nI (j + 1))) _)
        by_cases hc : bt (knS s (nG n) g k) j = true
        · rw [if_pos hc, if_pos hc]
          exact ok_mk rfl
        · rw [if_neg hc, if_neg hc]
          exact ok_mk rfl
      · rintro q rfl
        unfold S_gossip_b31 S_gossip_j73
        simp (disch := omega) only [KK, K1, K2, NN, bnd_eq, sb, smr, bI_ite, if_pos, if_neg, if_true, if_false, or_true, true_or, true_and, and_true, g01, h6, hk, hgg]
        refine ok_mk ⟨rfl, ?_⟩
        intro i hi
        by_cases e : i = k
        · subst e
          exact eq_false_of_ne_true hb
        · exact hf i (by omega)
  · rintro q ⟨rfl, hf⟩
    unfold S_gossip_b7 S_gossip_j82
    have e : ¬ fF (fun k => bt (knS s (nG n) g k) o) 8 < 8 := by
      intro h1
      have h2 := fF_at (fun k => bt (knS s (nG n) g k) o) 8 h1
      have h3 := hf _ h1
      exact absurd (h2.symm.trans h3) (by decide)
    simp (disch := omega) only [KK, K1, K2, NN, bnd_eq, sb, smr, bI_ite, if_pos, if_neg, if_true, if_false, or_true, true_or, true_and, and_true, g01, e]
    exact ⟨_, rfl, rfl⟩
theorem q_mgossip {h : Hp} {n : Inn} {s : St} (hw : wI n) (C : MS h s) (W : wS n s) {g o : Nat} (hg : g < nG n) (ho : o < 31) : M_gossip h (nI g) (nI o) = some (if goS s (nG n) g o < 8 then nI (goS s (nG n) g o) else jN 1) := by
  have hG := hw.2.2.1
  apply ok_to
  unfold M_gossip M_gossip_l7 goS
  simp (disch := omega) only [KK, K1, K2, NN, bnd_eq, sb, smr, bI_ite, if_pos, if_neg, if_true, if_false, or_true, true_or, true_and, and_true, g01]
  refine lp_for _ 9 (fun k q => q = (knS s (nG n) g k, nI k) ∧ ∀ i, i < k → bt (knS s (nG n) g i) o = false) _ ?_ ?_ 0 _ (by omega) ⟨rfl, fun i hi => absurd hi (Nat.not_lt_zero i)⟩
  · rintro k q hk8 ⟨rfl, hf⟩
    unfold M_gossip_b7 M_gossip_j22
    simp (disch := omega) only [KK, K1, K2, NN, bnd_eq, sb, smr, bI_ite, if_pos, if_neg, if_true, if_false, or_true, true_or, true_and, and_true, g01, q_has (knS s (nG n) g k) (show o < 32 by omega)]
    by_cases hb : bt (knS s (nG n) g k) o = true
    · rw [if_pos hb]
      refine ok_mk ?_
      show nI k = _
      have hk7 : k < 8 := by
        rcases Nat.lt_or_ge k 8 with h1 | h1
        · exact h1
        · have e8 : k = 8 := by omega
          subst e8
          rw [kn_78 hw W hg, hf 7 (by omega)] at hb
          exact absurd hb (by decide)
      rw [fF_at' (fun k => bt (knS s (nG n) g k) o) hf hb 8 hk7, if_pos hk7]
    · rw [if_neg hb]
      unfold M_gossip_l31
      refine lp_for _ 8 (fun j q => q = (wdS s (knS s (nG n) g k) j, nI j)) _ ?_ ?_ 0 _ (by omega) rfl
      · rintro j q hj rfl
        unfold M_gossip_b31 M_gossip_j60
        simp (disch := omega) only [KK, K1, K2, NN, bnd_eq, sb, smr, bI_ite, if_pos, if_neg, if_true, if_false, or_true, true_or, true_and, and_true, g01, lnm, q_has (knS s (nG n) g k) (show j < 32 by omega), (C.2.1 j hj).2.2]
        show Okk _ (Sum.elim (fun q => q = (wdS s (knS s (nG n) g k) j ||| (if bt (knS s (nG n) g k) j = true then sM s j else nI 0), nI (j + 1))) _)
        by_cases hc : bt (knS s (nG n) g k) j = true
        · rw [if_pos hc, if_pos hc]
          exact ok_mk rfl
        · rw [if_neg hc, if_neg hc]
          exact ok_mk rfl
      · rintro q rfl
        unfold M_gossip_b31 M_gossip_j69
        simp (disch := omega) only [KK, K1, K2, NN, bnd_eq, sb, smr, bI_ite, if_pos, if_neg, if_true, if_false, or_true, true_or, true_and, and_true, g01]
        refine ok_mk ⟨?_, ?_⟩
        · show (wdS s (knS s (nG n) g k) 8, nI (k + 1)) = (wdS s (knS s (nG n) g k) (nG n), nI (k + 1))
          have e := wd_cut (s := s) (kn_lo hw W hg k) (8 - nG n)
          rw [show nG n + (8 - nG n) = 8 by omega] at e
          rw [e]
        · intro i hi
          by_cases e : i = k
          · subst e
            exact eq_false_of_ne_true hb
          · exact hf i (by omega)
  · rintro q ⟨rfl, hf⟩
    unfold M_gossip_b7 M_gossip_j78
    have e : ¬ fF (fun k => bt (knS s (nG n) g k) o) 8 < 8 := by
      intro h1
      have h2 := fF_at (fun k => bt (knS s (nG n) g k) o) 8 h1
      have h3 := hf (fF (fun k => bt (knS s (nG n) g k) o) 8) (by omega)
      exact absurd (h2.symm.trans h3) (by decide)
    simp (disch := omega) only [KK, K1, K2, NN, bnd_eq, sb, smr, bI_ite, if_pos, if_neg, if_true, if_false, or_true, true_or, true_and, and_true, g01, e]
    exact ⟨_, rfl, rfl⟩
theorem t_met {h : Hp} (I : Inv h) (x1 x2 x3 x4 x5 : Int32) : Sm (K_met h x1 x2 x3 x4 x5) (fun h1 => M_met h1 x1 x2 x3 x4 x5) := by
  unfold K_met M_met
  refine sm_re I x1 x2 x3 (jN 2) (fun h1 => rfl) (fun h1 => rfl) ?_
  intro n s h1 hw W X C I1
  obtain ⟨a, ha, h6, H, hk, h5, hgg⟩ := cx_g X
  have hG := hw.2.2.1
  dsimp only
  rw [if_neg (show ¬ (57 : Nat) = 0 by omega), if_pos (show (57 : Nat) = 57 from rfl), h6, nI_clamp (by omega), if_pos hk]
  unfold K_met_j27 K_met_j71 M_met_j39 M_met_j42 M_met_j66
  rw [q_hasGuest H hw, sb, bI_it0]
  by_cases b1 : iz x4 0 (nG n) = true
  case neg =>
    rw [if_neg b1]
    refine ⟨_, _, rfl, tl_rfl, fun h2 _ X2 C2 _ => ⟨h2, ?_, tl_rfl⟩⟩
    rw [q_isGuest X2 hw]
    simp (disch := omega) only [KK, K1, K2, NN, bnd_eq, sb, smr, bI_ite, if_pos, if_neg, if_true, if_false, or_true, true_or, true_and, and_true, g01, eq_false_of_ne_true b1, Bool.false_eq_true]
  obtain ⟨g, hg, hg2, rfl⟩ := iz_0 b1
  rw [if_pos b1]
  by_cases c1 : x5 = jN 1
  · subst c1
    rw [if_pos (show jN 1 = (-1 : Int32) from rfl), (q_byG X hw C hg).2.2, sb]
    refine ⟨_, _, rfl, tl_rfl, fun h2 _ X2 C2 _ => ⟨h2, ?_, tl_rfl⟩⟩
    rw [q_isGuest X2 hw]
    simp (disch := omega) only [KK, K1, K2, NN, bnd_eq, sb, smr, bI_ite, if_pos, if_neg, if_true, if_false, or_true, true_or, true_and, and_true, g01, b1, lnm, (C2.2.1 g (by omega)).2.2]
  rw [if_neg (show ¬ x5 = (-1 : Int32) from c1), q_hasGuest H hw, sb, bI_it0]
  by_cases b2 : iz x5 0 (nG n) = true
  case neg =>
    rw [if_neg b2]
    refine ⟨_, _, rfl, tl_rfl, fun h2 _ X2 C2 _ => ⟨h2, ?_, tl_rfl⟩⟩
    rw [q_isGuest X2 hw, q_isGuest X2 hw]
    simp (disch := omega) only [KK, K1, K2, NN, bnd_eq, sb, smr, bI_ite, if_pos, if_neg, if_true, if_false, or_true, true_or, true_and, and_true, g01, b1, eq_false_of_ne_true b2, Bool.false_eq_true, c1]
  obtain ⟨o, ho, ho2, rfl⟩ := iz_0 b2
  rw [if_pos b2, q_gossip X hw C hg (show o < 31 by omega), sb]
  refine ⟨_, _, rfl, tl_rfl, fun h2 _ X2 C2 _ => ⟨h2, ?_, tl_rfl⟩⟩
  rw [q_isGuest X2 hw, q_isGuest X2 hw]
  simp (disch := omega) only [KK, K1, K2, NN, bnd_eq, sb, smr, bI_ite, if_pos, if_neg, if_true, if_false, or_true, true_or, true_and, and_true, g01, NJ, b1, b2, q_mgossip hw C2 W hg (show o < 31 by omega)]
/-! gain -/
theorem cp_one (f : Nat → Int32) (y : Int32) {g : Nat} (hg : g < 32) : ∀ m, m ≤ 32 → cp f (sh (nI 1) (nI g)) y m = if g < m then pc (f g &&& y) else 0
  | 0, _ => (if_neg (Nat.not_lt_zero g)).symm
  | m + 1, hm => by
    show cp f (sh (nI 1) (nI g)) y m + (if bt (sh (nI 1) (nI g)) m = true then pc (f m &&& y) else 0) = _
    rw [cp_one f y hg m (by omega), b_sh hg m (by omega)]
    by_cases e : m = g
    · subst e
      rw [decide_eq_true rfl, if_neg (Nat.lt_irrefl m), if_pos rfl, if_pos (show m < m + 1 by omega), Nat.zero_add]
    · rw [decide_eq_false e, if_neg (show ¬ (false = true) by decide)]
      by_cases h2 : g < m
      · rw [if_pos h2, if_pos (show g < m + 1 by omega)]
        rfl
      · rw [if_neg h2, if_neg (show ¬ g < m + 1 by omega)]
theorem a_s (a b c : Int32) : a + b - c = a + (b - c) := by rw [Int32.sub_eq_add_neg, Int32.sub_eq_add_neg, Int32.add_assoc]
def lkS (n : Inn) (s : St) (g t : Nat) : Nat → Int32
  | 0 => -(nP n t)
  | k + 1 => lkS n s g t k + (nI (pc (nL n g &&& (bR (sB s t) k).1)) - nI (pc (nQ n g &&& (bR (sB s t) k).1)))
def gnS (n : Inn) (s : St) (one two a b : Nat) : Int32 := lkS n s one a (bL (sB s a)) + (if a = b then (if bt (nL n one) two = true then nI 3 else nI 0) - (if bt (nQ n one) two = true then nI 3 else nI 0) else nI 0)
theorem q_gainOf {h : Hp} {n : Inn} {s : St} (X : CX h n) (hw : wI n) (C : CS h s) (W : wS n s) {o u a b : Nat} (ho : o < nG n) (hu : u < nG n) (ha : a < nT n) (hb : b < nT n) : S_gainOf h (nI o) (nI u) (nI a) (nI b) = some (gnS n s o u a b) := by
  obtain ⟨z, hz, h6, H, hk, h5, hgg⟩ := cx_g X
  have hG := hw.2.2.1
  have hT := hw.1
  obtain ⟨e1, e2⟩ := el_st a (by omega)
  have Ca := C.1 a (by omega)
  have hL := (W.1 a (by omega)).1.1
  have hk6 := kp_le hw a
  have hlo := wI_lo hw (show o < 8 by omega)
  apply ok_to
  unfold S_gainOf
  simp (disch := omega) only [KK, K1, K2, NN, bnd_eq, sb, smr, bI_ite, if_pos, if_neg, if_true, if_false, or_true, true_or, true_and, and_true, g01, q_bat X hw ha, h6, hk, q_lovesOf H hw ho, q_quarrelsOf H hw ho, q_priceOf H hw ha]
  unfold S_gainOf_l48
  refine lp_for _ (bL (sB s a)) (fun k q => q = (lkS n s o a k, nI k)) _ ?_ ?_ 0 _ (by omega) rfl
  · rintro k q hk1 rfl
    have r1 := (q_bnI e2 Ca (show bL (sB s a) ≤ 12 by omega) hk1).1
    have c1 : (bR (sB s a) k).1 &&& nL n o = nL n o &&& (bR (sB s a) k).1 := Int32.and_comm _ _
    have c2 : (bR (sB s a) k).1 &&& nQ n o = nQ n o &&& (bR (sB s a) k).1 := Int32.and_comm _ _
    unfold S_gainOf_b48
    simp (disch := omega) only [KK, K1, K2, NN, bnd_eq, sb, smr, bI_ite, if_pos, if_neg, if_true, if_false, or_true, true_or, true_and, and_true, g01, e2, Ca.1, r1, c1, c2, q_bits (lo_al (bR (sB s a) k).1 hlo.1), q_bits (lo_al (bR (sB s a) k).1 hlo.2)]
    refine ok_mk ?_
    show _ = (lkS n s o a k + (nI (pc (nL n o &&& (bR (sB s a) k).1)) - nI (pc (nQ n o &&& (bR (sB s a) k).1))), nI (k + 1))
    rw [a_s]
  · rintro q rfl
    unfold S_gainOf_b48 S_gainOf_j100
    simp (disch := omega) only [KK, K1, K2, NN, bnd_eq, sb, smr, bI_ite, if_pos, if_neg, if_true, if_false, or_true, true_or, true_and, and_true, g01, e2, Ca.1]
    refine okmr ?_
    unfold gnS
    by_cases hab : a = b
    · rw [if_pos hab, if_pos hab]
      unfold S_gainOf_j122 S_gainOf_j141 S_gainOf_j144
      simp (disch := omega) only [KK, K1, K2, NN, bnd_eq, sb, smr, bI_ite, if_pos, if_neg, if_true, if_false, or_true, true_or, true_and, and_true, g01, q_isIn (nL n o) (show u < 31 by omega), q_isIn (nQ n o) (show u < 31 by omega)]
      by_cases h1 : bt (nL n o) u = true
      · by_cases h2 : bt (nQ n o) u = true
        · simp only [if_pos h1, if_pos h2]
          exact ok_mk (a_s _ _ _)
        · simp only [if_pos h1, if_neg h2]
          exact ok_mk (a_s _ _ _)
      · by_cases h2 : bt (nQ n o) u = true
        · simp only [if_neg h1, if_pos h2]
          exact ok_mk (a_s _ _ _)
        · simp only [if_neg h1, if_neg h2]
          exact ok_mk (a_s _ _ _)
    · rw [if_neg hab, if_neg hab]
      unfold S_gainOf_j144
      refine ok_mk ?_
      show lkS n s o a (bL (sB s a)) = _
      rw [ad_z]
theorem q_mgain {h : Hp} {n : Inn} {s : St} (X : MX h n) (hw : wI n) (C : MS h s) (W : wS n s) {o u a b : Nat} (ho : o < nG n) (hu : u < nG n) (ha : a < nT n) (hb : b < nT n) : M_gainOf h (nI o) (nI u) (nI a) (nI b) = some (gnS n s o u a b) := by
  have hG := hw.2.2.1
  have hT := hw.1
  have Ca := C.1 a (by omega)
  have hL := (W.1 a (by omega)).1.1
  have hk6 := kp_le hw a
  have eL : M_liking h (nI o) (nI a) = some (lkS n s o a (bL (sB s a))) := by
    apply ok_to
    unfold M_liking
    simp (disch := omega) only [KK, K1, K2, NN, bnd_eq, sb, smr, bI_ite, if_pos, if_neg, if_true, if_false, or_true, true_or, true_and, and_true, g01, (q_ofT X hw ha).2.2]
    unfold M_liking_l11
    refine lp_for _ (bL (sB s a)) (fun k q => q = (lkS n s o a k, nI k)) _ ?_ ?_ 0 _ (by omega) rfl
    · rintro k q hk1 rfl
      obtain ⟨m1, m2⟩ := q_mcoup X hw (sh (nI 1) (nI o)) (bR (sB s a) k).1
      rw [cp_one _ _ (by omega) 8 (by omega), if_pos (by omega)] at m1 m2
      unfold M_liking_b11
      simp (disch := omega) only [KK, K1, K2, NN, bnd_eq, sb, smr, bI_ite, if_pos, if_neg, if_true, if_false, or_true, true_or, true_and, and_true, g01, lnm, Ca.1, (Ca.2.2.2.2 k hk1).1, m1, m2]
      exact ok_mk rfl
    · rintro q rfl
      unfold M_liking_b11 M_liking_j68
      simp (disch := omega) only [KK, K1, K2, NN, bnd_eq, sb, smr, bI_ite, if_pos, if_neg, if_true, if_false, or_true, true_or, true_and, and_true, g01, lnm, Ca.1]
      exact ⟨_, rfl, rfl⟩
  obtain ⟨g1, g2⟩ := q_ofG X (show o < 8 by omega)
  have l1 : M_loves h (nI o) (nI u) = some (bI (bt (nL n o) u)) := by
    unfold M_loves
    rw [show (25 : Int32) = nI 25 from rfl, g2, sb, q_has (nL n o) (show u < 32 by omega), sb]
    simp only [KK, bI_g, if_true]
  have l2 : M_quarrels h (nI o) (nI u) = some (bI (bt (nQ n o) u)) := by
    unfold M_quarrels
    rw [show (17 : Int32) = nI 17 from rfl, g1, sb, q_has (nQ n o) (show u < 32 by omega), sb]
    simp only [KK, bI_g, if_true]
  unfold M_gainOf M_gainOf_j39 M_gainOf_j24 M_gainOf_j38 M_gainOf_j39 gnS
  simp (disch := omega) only [KK, K1, K2, NN, bnd_eq, sb, smr, bI_ite, if_pos, if_neg, if_true, if_false, or_true, true_or, true_and, and_true, g01, l1, l2, eL]
  by_cases hab : a = b
  · rw [if_pos hab, if_pos hab]
    by_cases h1 : bt (nL n o) u = true
    · by_cases h2 : bt (nQ n o) u = true
      · simp only [if_pos h1, if_pos h2]
        rw [pk_sub (show 3 ≤ 3 by omega)]
      · simp only [if_pos h1, if_neg h2]
        rw [pk_sub (show 0 ≤ 3 by omega)]
    · by_cases h2 : bt (nQ n o) u = true
      · simp only [if_neg h1, if_pos h2]
      · simp only [if_neg h1, if_neg h2]
        rw [pk_sub (show 0 ≤ 0 by omega)]
  · rw [if_neg hab, if_neg hab]
theorem t_gain {h : Hp} (I : Inv h) (x1 x2 x3 x4 x5 x6 x7 : Int32) : Sm (K_gain h x1 x2 x3 x4 x5 x6 x7) (fun h1 => M_gain h1 x1 x2 x3 x4 x5 x6 x7) := by
  unfold K_gain M_gain
  refine sm_re I x1 x2 x3 (jN 1000000) (fun h1 => rfl) (fun h1 => rfl) ?_
  intro n s h1 hw W X C I1
  obtain ⟨a, ha, h6, H, hk, h5, hgg⟩ := cx_g X
  have hG := hw.2.2.1
  dsimp only
  rw [if_neg (show ¬ (57 : Nat) = 0 by omega), if_pos (show (57 : Nat) = 57 from rfl), h6, nI_clamp (by omega), if_pos hk]
  unfold K_gain_j29 K_gain_j58 M_gain_j58
  rw [q_hasCouple H hw, sb, q_hasTable H hw, q_hasTable H hw]
  by_cases b1 : iz x4 0 (nG n) = true
  case neg =>
    refine ⟨jN 1000000, h1, ?_, tl_rfl, fun h2 _ X2 C2 _ => ⟨h2, ?_, tl_rfl⟩⟩
    · rw [eq_false_of_ne_true b1]; rfl
    · rw [q_isGuest X2 hw, eq_false_of_ne_true b1]; rfl
  obtain ⟨o, ho, ho2, rfl⟩ := iz_0 b1
  by_cases b2 : iz x5 0 (nG n) = true
  case neg =>
    refine ⟨jN 1000000, h1, ?_, tl_rfl, fun h2 _ X2 C2 _ => ⟨h2, ?_, tl_rfl⟩⟩
    · rw [b1, eq_false_of_ne_true b2]; rfl
    · rw [q_isGuest X2 hw, b1, q_isGuest X2 hw, eq_false_of_ne_true b2]
      simp (disch := omega) only [KK, K1, K2, NN, bnd_eq, sb, smr, bI_ite, if_pos, if_neg, if_true, if_false, or_true, true_or, true_and, and_true, g01, bI_0, Bool.false_eq_true, Bool.true_eq_false] <;> rfl
  obtain ⟨u, hu, hu2, rfl⟩ := iz_0 b2
  by_cases b3 : nI o = nI u
  · refine ⟨jN 1000000, h1, ?_, tl_rfl, fun h2 _ X2 C2 _ => ⟨h2, ?_, tl_rfl⟩⟩
    · rw [b1, b2, decide_eq_false (fun e => e b3)]; rfl
    · rw [q_isGuest X2 hw, b1, q_isGuest X2 hw, b2, if_pos b3]
      simp (disch := omega) only [KK, K1, K2, NN, bnd_eq, sb, smr, bI_ite, if_pos, if_neg, if_true, if_false, or_true, true_or, true_and, and_true, g01, bI_0, Bool.false_eq_true, Bool.true_eq_false] <;> rfl
  have ecp : (iz (nI o) 0 (nG n) && iz (nI u) 0 (nG n) && decide (nI o ≠ nI u)) = true := by
    rw [b1, b2, decide_eq_true b3]; rfl
  rw [ecp]
  by_cases b4 : iz x6 0 (nT n) = true
  case neg =>
    refine ⟨jN 1000000, h1, ?_, tl_rfl, fun h2 _ X2 C2 _ => ⟨h2, ?_, tl_rfl⟩⟩
    · rw [eq_false_of_ne_true b4]; rfl
    · rw [q_isGuest X2 hw, b1, q_isGuest X2 hw, b2, if_neg b3, q_isTable X2 hw, eq_false_of_ne_true b4]
      simp (disch := omega) only [KK, K1, K2, NN, bnd_eq, sb, smr, bI_ite, if_pos, if_neg, if_true, if_false, or_true, true_or, true_and, and_true, g01, bI_0, Bool.false_eq_true, Bool.true_eq_false] <;> rfl
  obtain ⟨p, hp, hp2, rfl⟩ := iz_0 b4
  by_cases b5 : iz x7 0 (nT n) = true
  case neg =>
    refine ⟨jN 1000000, h1, ?_, tl_rfl, fun h2 _ X2 C2 _ => ⟨h2, ?_, tl_rfl⟩⟩
    · rw [b4, eq_false_of_ne_true b5]; rfl
    · rw [q_isGuest X2 hw, b1, q_isGuest X2 hw, b2, if_neg b3, q_isTable X2 hw, b4, q_isTable X2 hw, eq_false_of_ne_true b5]
      simp (disch := omega) only [KK, K1, K2, NN, bnd_eq, sb, smr, bI_ite, if_pos, if_neg, if_true, if_false, or_true, true_or, true_and, and_true, g01, bI_0, Bool.false_eq_true, Bool.true_eq_false] <;> rfl
  obtain ⟨q, hq, hq2, rfl⟩ := iz_0 b5
  refine ⟨gnS n s o u p q, h1, ?_, tl_rfl, fun h2 _ X2 C2 _ => ⟨h2, ?_, tl_rfl⟩⟩
  · rw [b4, b5, q_gainOf X hw C W ho hu hp hq]; rfl
  · rw [q_isGuest X2 hw, b1, q_isGuest X2 hw, b2, if_neg b3, q_isTable X2 hw, b4, q_isTable X2 hw, b5, q_mgain X2 hw C2 W ho hu hp hq]
    rfl
