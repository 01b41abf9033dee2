/-! ===== L3: the code's deeds ===== -/
theorem lo_ne {k : Nat} {x : Int32} (h : lo k x) (hk : k ≤ 32) (hx : x ≠ nI 0) : fF (bt x) k < k := by
  rcases Nat.lt_or_ge (fF (bt x) k) k with h1 | h1
  · exact h1
  · refine absurd ?_ hx
    apply lo_eq k h (lo_0 k)
    intro i hi
    rw [fF_no (bt x) k i (by omega)]
    exact (b_0 i).symm
theorem wB_u {m k : Nat} {x : Bn} (W : wB m k x) (hk : k ≤ 12) : bL x ≤ 12 ∧ bU x ≤ 12 := by
  have h1 := W.1
  have h2 := W.2.1
  omega
theorem kp_le {n : Inn} (hw : wI n) (t : Nat) : kp n t ≤ 6 := by
  unfold kp
  by_cases h : t < nT n
  · rw [if_pos h]
    exact (hw.2.2.2.1 t h).2.2.2.1
  · rw [if_neg h]
    omega
theorem q_sitDown {h : Hp} {n : Inn} {s : St} {t : Nat} {who : Int32} (X : CX h n) (hw : wI n) (C : CS h s) (W : wS n s) (ht : t < 5) (hlo : lo 8 who) (hne : who ≠ nI 0) : Okk (S_sitDown h (nI t) who) (fun r => r.1 = bI (okSit n s t who) ∧ CS r.2 (if okSit n s t who = true then dSit n s t who else s) ∧ Fr pst h r.2) := by
  have no : okSit n s t who = false → Okk (some ((nI 0), h)) (fun r : Int32 × Hp => r.1 = bI (okSit n s t who) ∧ CS r.2 (if okSit n s t who = true then dSit n s t who else s) ∧ Fr pst h r.2) := by
    intro e
    rw [e]
    exact ok_mk ⟨rfl, C, fr_rfl⟩
  unfold S_sitDown S_sitDown_j32 S_sitDown_j58
  obtain ⟨e1, e2⟩ := el_st t ht
  by_cases htn : t < nT n
  case neg =>
    rw [q_benchAt X hw, iz_nI 0 (nT n) (by omega), decide_eq_false (by omega), if_neg (by decide), sb, if_pos rfl]
    exact no (by unfold okSit; rw [decide_eq_false htn, Bool.false_and])
  rw [q_bat X hw htn, sb, if_neg (by omega), if_pos e2]
  have Ct := C.1 t ht
  have Wt := (W.1 t ht).1
  have hk6 := kp_le hw t
  obtain ⟨hl, hu⟩ := wB_u Wt (by omega)
  rw [Ct.2.2.1]
  by_cases h1 : bS (sB s t) = nI 0
  case neg =>
    rw [if_neg (show ¬ bS (sB s t) = 0 from h1)]
    exact no (by unfold okSit; rw [decide_eq_true htn, decide_eq_false h1]; rfl)
  rw [if_pos (show bS (sB s t) = 0 from h1), if_neg (show ¬ who = 0 from hne)]
  obtain ⟨a, ha, h6, H⟩ := id X
  have hk := H.1
  rw [h6, nI_clamp (by omega), if_pos hk]
  have eA : H_hasAll h a who = some (bI (decide (sr who (nI (nG n)) = nI 0))) := by
    unfold H_hasAll H_hasAll_j14
    rw [if_pos hk, H.2.2.1]
    by_cases h2 : sr who (nI (nG n)) = nI 0
    · rw [if_pos (show sr who (nI (nG n)) = 0 from h2), decide_eq_true h2]; rfl
    · rw [if_neg (show ¬ sr who (nI (nG n)) = 0 from h2), decide_eq_false h2]; rfl
  rw [eA, sb]
  by_cases h2 : sr who (nI (nG n)) = nI 0
  case neg =>
    rw [decide_eq_false h2, if_pos (show bI false = 0 from rfl)]
    exact no (by unfold okSit; rw [decide_eq_true htn, decide_eq_true h1, decide_eq_false h2]; rfl)
  rw [decide_eq_true h2, if_neg (show ¬ bI true = 0 by decide +kernel), q_seated C, sb]
  by_cases h3 : who &&& seatAll s = nI 0
  case neg =>
    rw [if_neg (show ¬ who &&& seatAll s = 0 from h3)]
    exact no (by unfold okSit; rw [decide_eq_true htn, decide_eq_true h1, decide_eq_true h2, decide_eq_false h3]; rfl)
  rw [if_pos (show who &&& seatAll s = 0 from h3), q_bits (lo_mo hlo (by omega)), sb, q_seatsOf H hw htn, sb]
  have hpc := pc_le who
  have hS := hw.2.2.2.1 t htn
  by_cases h4 : pc who ≤ nS n t
  case neg =>
    rw [if_neg (by rw [nI_leI (by omega) (by omega)]; exact h4)]
    exact no (by unfold okSit; rw [decide_eq_true htn, decide_eq_true h1, decide_eq_true h2, decide_eq_true h3, decide_eq_false h4]; rfl)
  have ok : okSit n s t who = true := by unfold okSit; rw [decide_eq_true htn, decide_eq_true h1, decide_eq_true h2, decide_eq_true h3, decide_eq_true h4]; rfl
  rw [if_pos (by rw [nI_leI (by omega) (by omega)]; exact h4), ok, if_pos rfl]
  obtain ⟨eg, ev⟩ := q_bturn e2 Ct hl Wt.2.1
  rw [eg, sb, ev, sb, q_strifeOf H hw, sb, bnd_eq, C.2.2.2.2.1]
  have F1 : Fr pst h (wr h 57 8 (sF s + nI (cp (nQ n) who (bG (sB s t)) 8))) := fr_wr (Or.inl ⟨rfl, by omega, by omega⟩)
  obtain ⟨a1, ha1, h61, H1⟩ := cx_st X F1
  have hk1 := H1.1
  rw [h61, nI_clamp (by omega), if_pos hk1, q_joyOf H1 hw, sb, bnd_eq]
  rw [show (wr h 57 8 (sF s + nI (cp (nQ n) who (bG (sB s t)) 8))).1 57 9 = sJ s by rw [wr_p h 57 57 _ (by omega)]; exact C.2.2.2.2.2]
  generalize hm : wr (wr h 57 8 (sF s + nI (cp (nQ n) who (bG (sB s t)) 8))) 57 9 (sJ s + nI (cp (nL n) who (bG (sB s t)) 8)) = m
  have F2 : Fr pst h m := by
    rw [← hm]
    exact fr_tr F1 (fr_wr (Or.inl ⟨rfl, by omega, by omega⟩))
  have m8 : m.1 57 8 = sF s + nI (cp (nQ n) who (bG (sB s t)) 8) := by
    rw [← hm]
    simp (disch := omega) only [KK, K1, K2, NN, bnd_eq, sb, smr, bI_ite, if_pos, if_neg, if_true, if_false, or_true, true_or, true_and, and_true, g01, wr_at, wr_c, wr_p, ]
  have m9 : m.1 57 9 = sJ s + nI (cp (nL n) who (bG (sB s t)) 8) := by
    rw [← hm]
    simp (disch := omega) only [KK, K1, K2, NN, bnd_eq, sb, smr, bI_ite, if_pos, if_neg, if_true, if_false, or_true, true_or, true_and, and_true, g01, wr_at, wr_c, wr_p, ]
  have mo : ∀ c i, c ≠ 57 ∨ i = 7 → m.1 c i = h.1 c i := by
    intro c i hc
    rw [← hm]
    rcases hc with hc | hc
    · simp (disch := omega) only [KK, K1, K2, NN, bnd_eq, sb, smr, bI_ite, if_pos, if_neg, if_true, if_false, or_true, true_or, true_and, and_true, g01, wr_at, wr_c, wr_p, ]
    · simp (disch := omega) only [KK, K1, K2, NN, bnd_eq, sb, smr, bI_ite, if_pos, if_neg, if_true, if_false, or_true, true_or, true_and, and_true, g01, wr_at, wr_c, wr_p, ]
  obtain ⟨a2, ha2, h62, H2⟩ := cx_st X F2
  have hk2 := H2.1
  rw [h62, nI_clamp (by omega), if_pos hk2, q_priceOf H2 hw htn, sb]
  refine okb (q_payAll (lo_ne hlo (by omega) hne) _ _) ?_
  rintro h3 ⟨p1, p2, F3⟩
  refine okb (q_hearAll who _) ?_
  rintro h4 ⟨p3, F4⟩
  refine okb (q_meetAll who _) ?_
  rintro h5 ⟨p4, F5⟩
  rw [bnd_eq]
  have f5 : ∀ c i, c ≠ 57 ∨ i = 7 → c < 59 ∨ 62 < c → h5.1 c i = h.1 c i := by
    intro c i hc1 hc2
    rw [F5 c i (by show ¬ c = 61; omega), F4 c i (by show ¬ c = 59; omega), F3 c i (by show ¬ (c = 60 ∨ c = 62); omega), mo c i hc1]
  have C5 : CB h5 (70 + 4 * t) (sB s t) := cb_fr Ct (fun c i h1 h2 => f5 c i (Or.inl (by omega)) (by omega))
  have C6 : CB (wr h5 (70 + 4 * t) 5 who) (70 + 4 * t) (bSt (sB s t) who (bW (sB s t))) := by
    obtain ⟨c3, c4, c5, c6, cR⟩ := C5
    refine ⟨?_, ?_, ?_, ?_, ?_⟩
    · simp (disch := omega) only [KK, K1, K2, NN, bnd_eq, sb, smr, bI_ite, if_pos, if_neg, if_true, if_false, or_true, true_or, true_and, and_true, g01, wr_at, wr_c, wr_p, c3]; rfl
    · simp (disch := omega) only [KK, K1, K2, NN, bnd_eq, sb, smr, bI_ite, if_pos, if_neg, if_true, if_false, or_true, true_or, true_and, and_true, g01, wr_at, wr_c, wr_p, c4]; rfl
    · simp (disch := omega) only [KK, K1, K2, NN, bnd_eq, sb, smr, bI_ite, if_pos, if_neg, if_true, if_false, or_true, true_or, true_and, and_true, g01, wr_at, wr_c, wr_p, ]; rfl
    · simp (disch := omega) only [KK, K1, K2, NN, bnd_eq, sb, smr, bI_ite, if_pos, if_neg, if_true, if_false, or_true, true_or, true_and, and_true, g01, wr_at, wr_c, wr_p, c6]; rfl
    · intro i hi
      simp (disch := omega) only [KK, K1, K2, NN, bnd_eq, sb, smr, bI_ite, if_pos, if_neg, if_true, if_false, or_true, true_or, true_and, and_true, g01, wr_at, wr_c, wr_p, ]
      exact cR i hi
  refine okb (q_turnOn e2 C6 hl hu) ?_
  rintro h7 ⟨C7, F7⟩
  have f7 : ∀ c i, c < 70 → h7.1 c i = h5.1 c i := by
    intro c i hc
    rw [pb_fr F7 i (by omega), wr_c _ _ _ _ (by omega)]
  refine ok_mk ⟨rfl, ⟨?_, ?_, ?_, ?_, ?_, ?_⟩, ?_⟩
  · intro u hu
    show CB h7 (70 + 4 * u) (up (sB s) t _ u)
    by_cases e : u = t
    · subst e
      rw [up_at]
      exact C7
    · rw [up_ne _ _ e]
      refine cb_fr (C.1 u hu) (fun c i h1 h2 => ?_)
      show h7.1 c i = h.1 c i
      rw [pb_fr F7 i (by omega), wr_c _ _ _ _ (by omega)]
      exact f5 c i (by omega) (by omega)
  · intro g hg
    obtain ⟨g1, g2, g3⟩ := C.2.1 g hg
    refine ⟨?_, ?_, ?_⟩
    · show h7.1 59 g = dH who (bV (sB s t)) (sH s) g
      rw [f7 59 g (by omega), F5 59 g (by show ¬ (59 : Nat) = 61; omega), p3 g hg]
      unfold dH
      rw [F3 59 g (by show ¬ ((59 : Nat) = 60 ∨ (59 : Nat) = 62); omega), mo 59 g (Or.inl (by omega)), g1]
    · show h7.1 60 g = dP who (bG (sB s t)) (nP n t) (sP s) g
      rw [f7 60 g (by omega), F5 60 g (by show ¬ (60 : Nat) = 61; omega), F4 60 g (by show ¬ (60 : Nat) = 59; omega), p1 g hg]
      unfold dP
      rw [mo 60 g (Or.inl (by omega)), g2]
    · show h7.1 61 g = dM who (bG (sB s t)) (sM s) g
      rw [f7 61 g (by omega), p4 g hg]
      unfold dM
      rw [F4 61 g (by show ¬ (61 : Nat) = 59; omega), F3 61 g (by show ¬ ((61 : Nat) = 60 ∨ (61 : Nat) = 62); omega), mo 61 g (Or.inl (by omega)), g3]
  · intro i hi
    show h7.1 62 i = dD who (bG (sB s t)) (nP n t) (sD s) i
    rw [f7 62 i (by omega), F5 62 i (by show ¬ (62 : Nat) = 61; omega), F4 62 i (by show ¬ (62 : Nat) = 59; omega), p2 i hi]
    unfold dD
    rw [mo 62 i (Or.inl (by omega)), C.2.2.1 i hi]
  · show h7.1 57 7 = sN s
    rw [f7 57 7 (by omega), f5 57 7 (Or.inr rfl) (by omega), C.2.2.2.1]
  · show h7.1 57 8 = _
    rw [f7 57 8 (by omega), F5 57 8 (by show ¬ (57 : Nat) = 61; omega), F4 57 8 (by show ¬ (57 : Nat) = 59; omega), F3 57 8 (by show ¬ ((57 : Nat) = 60 ∨ (57 : Nat) = 62); omega), m8]
    rfl
  · show h7.1 57 9 = _
    rw [f7 57 9 (by omega), F5 57 9 (by show ¬ (57 : Nat) = 61; omega), F4 57 9 (by show ¬ (57 : Nat) = 59; omega), F3 57 9 (by show ¬ ((57 : Nat) = 60 ∨ (57 : Nat) = 62); omega), m9]
    rfl
  · refine fr_tr (fr_tr (fr_tr (fr_tr (fr_tr F2 (fr_mo F3 ?_)) (fr_mo F4 ?_)) (fr_mo F5 ?_)) (fr_wr ?_)) (fr_mo F7 (pb_pst ht))
    · intro c i hc
      have hc' : c = 60 ∨ c = 62 := hc
      exact Or.inr (Or.inl (by omega))
    · intro c i hc
      have hc' : c = 59 := hc
      exact Or.inr (Or.inl (by omega))
    · intro c i hc
      have hc' : c = 61 := hc
      exact Or.inr (Or.inl (by omega))
    · exact Or.inr (Or.inr (by omega))
def okSay (n : Inn) (s : St) (g : Nat) : Bool := decide (g < nG n) && decide (tabOf s g < nT n)
def dSay (s : St) (g w : Nat) : St := sMk (up (sB s) (tabOf s g) (bSt (sB s (tabOf s g)) (bS (sB s (tabOf s g))) (bW (sB s (tabOf s g)) ||| sh (nI 1) (nI w)))) (dH (bS (sB s (tabOf s g))) (sh (nI 1) (nI w)) (sH s)) (sP s) (sM s) (sD s) (sN s) (sF s) (sJ s)
theorem q_speak {h : Hp} {n : Inn} {s : St} {g w : Nat} (X : CX h n) (hw : wI n) (C : CS h s) (hg : g < 8) (hw10 : w < 10) : Okk (S_speak h (nI g) (nI w)) (fun r => r.1 = bI (okSay n s g) ∧ CS r.2 (if okSay n s g = true then dSay s g w else s) ∧ Fr pst h r.2) := by
  have no : okSay n s g = false → Okk (some ((nI 0), h)) (fun r : Int32 × Hp => r.1 = bI (okSay n s g) ∧ CS r.2 (if okSay n s g = true then dSay s g w else s) ∧ Fr pst h r.2) := by
    intro e
    rw [e]
    exact ok_mk ⟨rfl, C, fr_rfl⟩
  obtain ⟨a, ha, h6, H⟩ := id X
  have hk := H.1
  have hn := hw.1
  unfold S_speak
  rw [h6, nI_clamp (by omega), if_pos hk, q_hasGuest H hw, sb, iz_nI 0 (nG n) (by omega)]
  by_cases h1 : g < nG n
  case neg =>
    rw [decide_eq_false (by omega), if_pos (show bI false = 0 from rfl)]
    unfold S_speak_j24 S_speak_j39
    rw [if_pos rfl]
    exact no (by unfold okSay; rw [decide_eq_false h1]; rfl)
  rw [decide_eq_true (by omega), if_neg (show ¬ bI true = 0 by decide +kernel), q_tableOf C (by omega), sb]
  have key : tabOf s g < nT n ∨ ¬ tabOf s g < nT n := Nat.lt_or_ge _ _ |>.imp id Nat.not_lt.mpr
  rcases key with h2 | h2
  · have ok : okSay n s g = true := by unfold okSay; rw [decide_eq_true h1, decide_eq_true h2]; rfl
    rw [ok, if_pos rfl, if_pos (show tabOf s g < 5 by omega), q_bat X hw h2, sb]
    unfold S_speak_j24 S_speak_j39
    obtain ⟨e1, e2⟩ := el_st (tabOf s g) (by omega)
    rw [if_neg (by omega)]
    have eo := q_isOf (nI w) (a := 0) (n := 10) (by omega) (by omega)
    rw [iz_nI 0 10 (by omega), decide_eq_true (by omega)] at eo
    have Ct := C.1 (tabOf s g) (by omega)
    obtain ⟨c3, c4, c5, c6, cR⟩ := Ct
    simp (disch := omega) only [KK, K1, K2, NN, bnd_eq, sb, smr, bI_ite, if_pos, if_neg, if_true, if_false, or_true, true_or, true_and, and_true, g01, eo, c6]
    refine okb (q_hearAll _ _) ?_
    rintro h4 ⟨p3, F4⟩
    have F1 : Fr (pb (70 + 4 * tabOf s g)) h (wr h (70 + 4 * tabOf s g) 6 (bW (sB s (tabOf s g)) ||| sh (nI 1) (nI w))) := fr_wr (show 70 + 4 * tabOf s g ≤ 70 + 4 * tabOf s g ∧ 70 + 4 * tabOf s g < 70 + 4 * tabOf s g + 4 by omega)
    have C1 : CB (wr h (70 + 4 * tabOf s g) 6 (bW (sB s (tabOf s g)) ||| sh (nI 1) (nI w))) (70 + 4 * tabOf s g) (bSt (sB s (tabOf s g)) (bS (sB s (tabOf s g))) (bW (sB s (tabOf s g)) ||| sh (nI 1) (nI w))) := by
      refine ⟨?_, ?_, ?_, ?_, ?_⟩
      · simp (disch := omega) only [KK, K1, K2, NN, bnd_eq, sb, smr, bI_ite, if_pos, if_neg, if_true, if_false, or_true, true_or, true_and, and_true, g01, wr_at, wr_c, wr_p, c3]; rfl
      · simp (disch := omega) only [KK, K1, K2, NN, bnd_eq, sb, smr, bI_ite, if_pos, if_neg, if_true, if_false, or_true, true_or, true_and, and_true, g01, wr_at, wr_c, wr_p, c4]; rfl
      · simp (disch := omega) only [KK, K1, K2, NN, bnd_eq, sb, smr, bI_ite, if_pos, if_neg, if_true, if_false, or_true, true_or, true_and, and_true, g01, wr_at, wr_c, wr_p, c5]; rfl
      · simp (disch := omega) only [KK, K1, K2, NN, bnd_eq, sb, smr, bI_ite, if_pos, if_neg, if_true, if_false, or_true, true_or, true_and, and_true, g01, wr_at, wr_c, wr_p, ]; rfl
      · intro i hi
        simp (disch := omega) only [KK, K1, K2, NN, bnd_eq, sb, smr, bI_ite, if_pos, if_neg, if_true, if_false, or_true, true_or, true_and, and_true, g01, wr_at, wr_c, wr_p, ]
        exact cR i hi
    have C2 := cs_up C (show tabOf s g < 5 by omega) F1 C1
    obtain ⟨d1, d2, d3, d4, d5, d6⟩ := C2
    refine ok_mk ⟨rfl, ⟨?_, ?_, ?_, ?_, ?_, ?_⟩, ?_⟩
    · intro u hu
      exact cb_fr (d1 u hu) (fun c i h1 h2 => F4 c i (by show ¬ c = 59; omega))
    · intro k hk8
      obtain ⟨g1, g2, g3⟩ := d2 k hk8
      refine ⟨?_, ?_, ?_⟩
      · show h4.1 59 k = dH _ _ (sH s) k
        rw [p3 k hk8, wr_p h _ _ _ (show (5 : Nat) ≠ 6 by omega), c5]
        unfold dH
        rw [wr_c _ _ _ _ (by omega), (C.2.1 k hk8).1]
      · show h4.1 60 k = _
        rw [F4 60 k (by show ¬ (60 : Nat) = 59; omega), g2]
        rfl
      · show h4.1 61 k = _
        rw [F4 61 k (by show ¬ (61 : Nat) = 59; omega), g3]
        rfl
    · intro i hi
      show h4.1 62 i = _
      rw [F4 62 i (by show ¬ (62 : Nat) = 59; omega), d3 i hi]
      rfl
    · show h4.1 57 7 = _
      rw [F4 57 7 (by show ¬ (57 : Nat) = 59; omega), d4]
      rfl
    · show h4.1 57 8 = _
      rw [F4 57 8 (by show ¬ (57 : Nat) = 59; omega), d5]
      rfl
    · show h4.1 57 9 = _
      rw [F4 57 9 (by show ¬ (57 : Nat) = 59; omega), d6]
      rfl
    · refine fr_tr (fr_mo F1 (pb_pst (by omega))) (fr_mo F4 ?_)
      intro c i hc
      have hc' : c = 59 := hc
      exact Or.inr (Or.inl (by omega))
  · have e0 : S_benchAt h (if tabOf s g < 5 then nI (tabOf s g) else jN 1) = some 0 := by
      rw [q_benchAt X hw]
      by_cases h3 : tabOf s g < 5
      · rw [if_pos h3, iz_nI 0 (nT n) (by omega), decide_eq_false (by omega), if_neg (by decide)]
      · rw [if_neg h3, iz_jN 0 (nT n) (by omega) (by omega), if_neg (by decide)]
    rw [e0, sb]
    unfold S_speak_j24 S_speak_j39
    rw [if_pos rfl]
    exact no (by unfold okSay; rw [decide_eq_true h1, decide_eq_false h2]; rfl)
