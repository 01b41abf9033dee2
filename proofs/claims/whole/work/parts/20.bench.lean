/-! ===== L3: the code's tables (benches) ===== -/
def pb (a : Nat) : Nat → Nat → Prop := fun c _ => a ≤ c ∧ c < a + 4
theorem cb_fr {h h' : Hp} {a : Nat} {x : Bn} (H : CB h a x) (hf : ∀ c i, a ≤ c → c < a + 4 → h'.1 c i = h.1 c i) : CB h' a x := by
  obtain ⟨h3, h4, h5, h6, hR⟩ := H
  refine ⟨by rw [hf a 3 (by omega) (by omega), h3], by rw [hf a 4 (by omega) (by omega), h4], by rw [hf a 5 (by omega) (by omega), h5], by rw [hf a 6 (by omega) (by omega), h6], ?_⟩
  intro i hi
  obtain ⟨e1, e2, e3⟩ := hR i hi
  exact ⟨by rw [hf (a + 1) i (by omega) (by omega), e1], by rw [hf (a + 2) i (by omega) (by omega), e2], by rw [hf (a + 3) i (by omega) (by omega), e3]⟩
theorem q_bget {h : Hp} {a : Nat} {x : Bn} (hk : kd a = 0) (H : CB h a x) (hl : bL x ≤ 12) (y : Int32) : B_guestsOf h a y = some (if iz y 0 (bL x) = true then (bR x y.toNatClampNeg).1 else nI 0) ∧ B_wordsOf h a y = some (if iz y 0 (bL x) = true then (bR x y.toNatClampNeg).2.1 else nI 0) ∧ B_nightOf h a y = some (if iz y 0 (bL x) = true then (bR x y.toNatClampNeg).2.2 else jN 1) := by
  obtain ⟨h3, h4, h5, h6, hR⟩ := H
  obtain ⟨k1, k2, k3, l1, l2, l3⟩ := bn_kd hk
  unfold B_guestsOf B_guestsOf_j22 B_guestsOf_j21 B_guestsOf_j22 B_wordsOf B_wordsOf_j22 B_wordsOf_j21 B_wordsOf_j22 B_nightOf B_nightOf_j22 B_nightOf_j21 B_nightOf_j22
  rw [if_pos hk, if_pos hk, if_pos hk, h3]
  simp (disch := omega) only [KK, K1, K2, NN, bnd_eq, sb, smr, bI_ite, if_pos, if_neg, if_true, if_false, or_true, true_or, true_and, and_true, g01, rg y]
  by_cases hy : iz y 0 (bL x) = true
  · obtain ⟨k, hk0, hk1, rfl⟩ := iz_0 hy
    obtain ⟨e1, e2, e3⟩ := hR k hk0
    simp (disch := omega) only [KK, K1, K2, NN, bnd_eq, sb, smr, bI_ite, if_pos, if_neg, if_true, if_false, or_true, true_or, true_and, and_true, g01, hy, e1, e2, e3]
  · rw [if_neg hy, if_neg hy, if_neg hy, if_neg hy, if_neg hy, if_neg hy]
    exact ⟨rfl, rfl, rfl⟩
theorem q_bnI {h : Hp} {a : Nat} {x : Bn} (hk : kd a = 0) (H : CB h a x) (hl : bL x ≤ 12) {k : Nat} (hx : k < bL x) : B_guestsOf h a (nI k) = some (bR x k).1 ∧ B_wordsOf h a (nI k) = some (bR x k).2.1 ∧ B_nightOf h a (nI k) = some (bR x k).2.2 := by
  have e := q_bget hk H hl (nI k)
  rw [iz_nI 0 (bL x) (by omega), decide_eq_true (by omega), if_pos rfl, if_pos rfl, if_pos rfl, nI_clamp (by omega)] at e
  exact e
theorem q_bturn {h : Hp} {a : Nat} {x : Bn} (hk : kd a = 0) (H : CB h a x) (hl : bL x ≤ 12) (hu : bU x < bL x ∨ bU x = 0) : B_guestsOf h a (h.1 a 4) = some (bG x) ∧ B_wordsOf h a (h.1 a 4) = some (bV x) := by
  have e := q_bget hk H hl (nI (bU x))
  rw [H.2.1]
  rw [iz_nI 0 (bL x) (by omega), nI_clamp (by omega)] at e
  unfold bG bV
  by_cases h1 : bU x < bL x
  · rw [decide_eq_true (by omega), if_pos rfl, if_pos rfl] at e
    rw [if_pos h1, if_pos h1]
    exact ⟨e.1, e.2.1⟩
  · rw [decide_eq_false (by omega), if_neg (by decide), if_neg (by decide)] at e
    rw [if_neg h1, if_neg h1]
    exact ⟨e.1, e.2.1⟩
theorem q_allGuests {h : Hp} {a : Nat} {x : Bn} (hk : kd a = 0) (H : CB h a x) (hl : bL x ≤ 12) : B_allGuests h a = some (bA x) := by
  obtain ⟨h3, h4, h5, h6, hR⟩ := H
  obtain ⟨k1, k2, k3, l1, l2, l3⟩ := bn_kd hk
  apply ok_to
  unfold B_allGuests B_allGuests_l4
  rw [if_pos hk]
  refine lp_for _ (bL x) (fun k s => s = (oT (fun k => (bR x k).1) k, nI k)) _ ?_ ?_ 0 _ (by omega) rfl
  · rintro k s hk1 rfl
    unfold B_allGuests_b4
    rw [h3]
    simp (disch := omega) only [KK, K1, K2, NN, bnd_eq, sb, smr, bI_ite, if_pos, if_neg, if_true, if_false, or_true, true_or, true_and, and_true, g01, (hR k hk1).1]
    exact ok_mk rfl
  · rintro s rfl
    unfold B_allGuests_b4 B_allGuests_j27
    rw [h3]
    simp (disch := omega) only [KK, K1, K2, NN, bnd_eq, sb, smr, bI_ite, if_pos, if_neg, if_true, if_false, or_true, true_or, true_and, and_true, g01]
    exact ⟨_, rfl, rfl⟩
theorem q_clear {h : Hp} {a : Nat} (hk : kd a = 0) : Okk (B_clear h a) (fun h' => CB h' a bCl ∧ Fr (pb a) h h') := by
  unfold B_clear
  rw [if_pos hk]
  simp (disch := omega) only [KK, K1, K2, NN, bnd_eq, sb, smr, bI_ite, if_pos, if_neg, if_true, if_false, or_true, true_or, true_and, and_true, g01]
  refine ok_mk ⟨⟨?_, ?_, ?_, ?_, ?_⟩, ?_⟩
  · simp (disch := omega) only [KK, K1, K2, NN, bnd_eq, sb, smr, bI_ite, if_pos, if_neg, if_true, if_false, or_true, true_or, true_and, and_true, g01, wr_at, wr_c, wr_p, ]; rfl
  · simp (disch := omega) only [KK, K1, K2, NN, bnd_eq, sb, smr, bI_ite, if_pos, if_neg, if_true, if_false, or_true, true_or, true_and, and_true, g01, wr_at, wr_c, wr_p, ]; rfl
  · simp (disch := omega) only [KK, K1, K2, NN, bnd_eq, sb, smr, bI_ite, if_pos, if_neg, if_true, if_false, or_true, true_or, true_and, and_true, g01, wr_at, wr_c, wr_p, ]; rfl
  · simp (disch := omega) only [KK, K1, K2, NN, bnd_eq, sb, smr, bI_ite, if_pos, if_neg, if_true, if_false, or_true, true_or, true_and, and_true, g01, wr_at, wr_c, wr_p, ]; rfl
  · intro i hi
    exact absurd hi (Nat.not_lt_zero i)
  · intro c i hc
    have hc' : ¬ (a ≤ c ∧ c < a + 4) := hc
    simp (disch := omega) only [KK, K1, K2, NN, bnd_eq, sb, smr, bI_ite, if_pos, if_neg, if_true, if_false, or_true, true_or, true_and, and_true, g01, wr_at, wr_c, wr_p, ]
theorem q_append {h : Hp} {a : Nat} {x : Bn} (hk : kd a = 0) (H : CB h a x) (hl : bL x < 12) (p q r : Int32) : Okk (B_append h a p q r) (fun h' => CB h' a (bAp x (p, q, r)) ∧ Fr (pb a) h h') := by
  obtain ⟨h3, h4, h5, h6, hR⟩ := H
  obtain ⟨k1, k2, k3, l1, l2, l3⟩ := bn_kd hk
  unfold B_append B_append_j49
  rw [if_pos hk]
  simp (disch := omega) only [KK, K1, K2, NN, bnd_eq, sb, smr, bI_ite, if_pos, if_neg, if_true, if_false, or_true, true_or, true_and, and_true, g01, wr_at, wr_c, wr_p, h3]
  refine ok_mk ⟨⟨?_, ?_, ?_, ?_, ?_⟩, ?_⟩
  · simp (disch := omega) only [KK, K1, K2, NN, bnd_eq, sb, smr, bI_ite, if_pos, if_neg, if_true, if_false, or_true, true_or, true_and, and_true, g01, wr_at, wr_c, wr_p, ]; rfl
  · simp (disch := omega) only [KK, K1, K2, NN, bnd_eq, sb, smr, bI_ite, if_pos, if_neg, if_true, if_false, or_true, true_or, true_and, and_true, g01, wr_at, wr_c, wr_p, h4]; rfl
  · simp (disch := omega) only [KK, K1, K2, NN, bnd_eq, sb, smr, bI_ite, if_pos, if_neg, if_true, if_false, or_true, true_or, true_and, and_true, g01, wr_at, wr_c, wr_p, h5]; rfl
  · simp (disch := omega) only [KK, K1, K2, NN, bnd_eq, sb, smr, bI_ite, if_pos, if_neg, if_true, if_false, or_true, true_or, true_and, and_true, g01, wr_at, wr_c, wr_p, h6]; rfl
  · intro i hi
    have hi' : i < bL x + 1 := hi
    show _ = (up (bR x) (bL x) (p, q, r) i).1 ∧ _ = (up (bR x) (bL x) (p, q, r) i).2.1 ∧ _ = (up (bR x) (bL x) (p, q, r) i).2.2
    by_cases e : i = bL x
    · subst e
      rw [up_at]
      simp (disch := omega) only [KK, K1, K2, NN, bnd_eq, sb, smr, bI_ite, if_pos, if_neg, if_true, if_false, or_true, true_or, true_and, and_true, g01, wr_at, wr_c, wr_p, ]
    · rw [up_ne _ _ e]
      obtain ⟨e1, e2, e3⟩ := hR i (by omega)
      simp (disch := omega) only [KK, K1, K2, NN, bnd_eq, sb, smr, bI_ite, if_pos, if_neg, if_true, if_false, or_true, true_or, true_and, and_true, g01, wr_at, wr_c, wr_p, e1, e2, e3]
  · intro c i hc
    have hc' : ¬ (a ≤ c ∧ c < a + 4) := hc
    simp (disch := omega) only [KK, K1, K2, NN, bnd_eq, sb, smr, bI_ite, if_pos, if_neg, if_true, if_false, or_true, true_or, true_and, and_true, g01, wr_at, wr_c, wr_p, ]
theorem q_turnOn {h : Hp} {a : Nat} {x : Bn} (hk : kd a = 0) (H : CB h a x) (hl : bL x ≤ 12) (hu : bU x ≤ 12) : Okk (B_turnOn h a) (fun h' => CB h' a (bTn x) ∧ Fr (pb a) h h') := by
  obtain ⟨h3, h4, h5, h6, hR⟩ := H
  have key : ∀ u, Okk (some (wr h a 4 (nI u))) (fun h' => CB h' a (bMk (bL x) (bR x) u (bS x) (bW x)) ∧ Fr (pb a) h h') := by
    intro u
    refine ok_mk ⟨⟨?_, ?_, ?_, ?_, ?_⟩, ?_⟩
    · simp (disch := omega) only [KK, K1, K2, NN, bnd_eq, sb, smr, bI_ite, if_pos, if_neg, if_true, if_false, or_true, true_or, true_and, and_true, g01, wr_at, wr_c, wr_p, h3]; rfl
    · simp (disch := omega) only [KK, K1, K2, NN, bnd_eq, sb, smr, bI_ite, if_pos, if_neg, if_true, if_false, or_true, true_or, true_and, and_true, g01, wr_at, wr_c, wr_p, ]; rfl
    · simp (disch := omega) only [KK, K1, K2, NN, bnd_eq, sb, smr, bI_ite, if_pos, if_neg, if_true, if_false, or_true, true_or, true_and, and_true, g01, wr_at, wr_c, wr_p, h5]; rfl
    · simp (disch := omega) only [KK, K1, K2, NN, bnd_eq, sb, smr, bI_ite, if_pos, if_neg, if_true, if_false, or_true, true_or, true_and, and_true, g01, wr_at, wr_c, wr_p, h6]; rfl
    · intro i hi
      simp (disch := omega) only [KK, K1, K2, NN, bnd_eq, sb, smr, bI_ite, if_pos, if_neg, if_true, if_false, or_true, true_or, true_and, and_true, g01, wr_at, wr_c, wr_p, ]
      exact hR i hi
    · intro c i hc
      have hc' : ¬ (a ≤ c ∧ c < a + 4) := hc
      simp (disch := omega) only [KK, K1, K2, NN, bnd_eq, sb, smr, bI_ite, if_pos, if_neg, if_true, if_false, or_true, true_or, true_and, and_true, g01, wr_at, wr_c, wr_p, ]
  unfold B_turnOn B_turnOn_j24
  rw [if_pos hk]
  simp (disch := omega) only [KK, K1, K2, NN, bnd_eq, sb, smr, bI_ite, if_pos, if_neg, if_true, if_false, or_true, true_or, true_and, and_true, g01, h3, h4]
  unfold bTn
  by_cases h1 : bU x + 1 < bL x
  · rw [if_neg (by omega), if_pos h1]
    exact key _
  · rw [if_pos (by omega), if_neg h1]
    exact key _
theorem q_forget {h : Hp} {a : Nat} {x : Bn} (hk : kd a = 0) (H : CB h a x) (hl : bL x ≤ 12) (hu : bU x ≤ 12) (m k : Nat) (hm : m < 2 ^ 30) (hk3 : k < 2 ^ 30) (hmk : m - k ≤ bL x) : Okk (B_forgetFirst h a (nI m - nI k)) (fun h' => CB h' a (bFg x (m - k)) ∧ Fr (pb a) h h') := by
  obtain ⟨h3, h4, h5, h6, hR⟩ := H
  obtain ⟨k1, k2, k3, l1, l2, l3⟩ := bn_kd hk
  unfold B_forgetFirst B_forgetFirst_j12
  rw [if_pos hk]
  have e0 : (nI 0).toInt = 0 := rfl
  have e := pk_sub_toInt hm hk3
  rcases Nat.lt_or_ge k m with h1 | h1
  · rw [pk_sub (by omega)]
    simp (disch := omega) only [KK, K1, K2, NN, bnd_eq, sb, smr, bI_ite, if_pos, if_neg, if_true, if_false, or_true, true_or, true_and, and_true, g01, h3]
    unfold B_forgetFirst_l15
    refine lp_for _ (bL x) (fun i s => m - k ≤ i ∧ s.1 = nI i ∧ Fr (pb a) h s.2 ∧ s.2.1 a 3 = nI (bL x) ∧ s.2.1 a 4 = nI (bU x) ∧ s.2.1 a 5 = bS x ∧ s.2.1 a 6 = bW x ∧ ∀ j, j < bL x → s.2.1 (a + 1) j = (bR x (if j + (m - k) < i then j + (m - k) else j)).1 ∧ s.2.1 (a + 2) j = (bR x (if j + (m - k) < i then j + (m - k) else j)).2.1 ∧ s.2.1 (a + 3) j = (bR x (if j + (m - k) < i then j + (m - k) else j)).2.2) _ ?_ ?_ (m - k) _ (by omega) ?_
    · rintro i ⟨s1, s2⟩ hi ⟨hmi, rfl, hF, g3, g4, g5, g6, g7⟩
      dsimp only at hF g3 g4 g5 g6 g7 ⊢
      obtain ⟨e1, e2, e3⟩ := g7 i hi
      rw [if_neg (by omega)] at e1 e2 e3
      unfold B_forgetFirst_b15
      rw [g3]
      simp (disch := omega) only [KK, K1, K2, NN, bnd_eq, sb, smr, bI_ite, if_pos, if_neg, if_true, if_false, or_true, true_or, true_and, and_true, g01, wr_at, wr_c, wr_p, e1, e2, e3]
      refine ok_mk ⟨by omega, rfl, ?_, ?_, ?_, ?_, ?_, ?_⟩
      · intro c j hc
        have hc' : ¬ (a ≤ c ∧ c < a + 4) := hc
        simp (disch := omega) only [KK, K1, K2, NN, bnd_eq, sb, smr, bI_ite, if_pos, if_neg, if_true, if_false, or_true, true_or, true_and, and_true, g01, wr_at, wr_c, wr_p, hF c j hc]
      · simp (disch := omega) only [KK, K1, K2, NN, bnd_eq, sb, smr, bI_ite, if_pos, if_neg, if_true, if_false, or_true, true_or, true_and, and_true, g01, wr_at, wr_c, wr_p, g3]
      · simp (disch := omega) only [KK, K1, K2, NN, bnd_eq, sb, smr, bI_ite, if_pos, if_neg, if_true, if_false, or_true, true_or, true_and, and_true, g01, wr_at, wr_c, wr_p, g4]
      · simp (disch := omega) only [KK, K1, K2, NN, bnd_eq, sb, smr, bI_ite, if_pos, if_neg, if_true, if_false, or_true, true_or, true_and, and_true, g01, wr_at, wr_c, wr_p, g5]
      · simp (disch := omega) only [KK, K1, K2, NN, bnd_eq, sb, smr, bI_ite, if_pos, if_neg, if_true, if_false, or_true, true_or, true_and, and_true, g01, wr_at, wr_c, wr_p, g6]
      · intro j hj
        by_cases hji : j = i - (m - k)
        · subst hji
          rw [if_pos (by omega), show i - (m - k) + (m - k) = i by omega]
          simp (disch := omega) only [KK, K1, K2, NN, bnd_eq, sb, smr, bI_ite, if_pos, if_neg, if_true, if_false, or_true, true_or, true_and, and_true, g01, wr_at, wr_c, wr_p, ]
        · obtain ⟨f1, f2, f3⟩ := g7 j hj
          rw [show (if j + (m - k) < i + 1 then j + (m - k) else j) = (if j + (m - k) < i then j + (m - k) else j) by
            by_cases h5 : j + (m - k) < i
            · rw [if_pos h5, if_pos (by omega)]
            · rw [if_neg h5, if_neg (by omega)]]
          simp (disch := omega) only [KK, K1, K2, NN, bnd_eq, sb, smr, bI_ite, if_pos, if_neg, if_true, if_false, or_true, true_or, true_and, and_true, g01, wr_at, wr_c, wr_p, f1, f2, f3]
    · rintro ⟨s1, s2⟩ ⟨hmi, rfl, hF, g3, g4, g5, g6, g7⟩
      dsimp only at hF g3 g4 g5 g6 g7 ⊢
      unfold B_forgetFirst_b15 B_forgetFirst_j71
      rw [g3]
      simp (disch := omega) only [KK, K1, K2, NN, bnd_eq, sb, smr, bI_ite, if_pos, if_neg, if_true, if_false, or_true, true_or, true_and, and_true, g01, wr_at, wr_c, wr_p, g4, q_mx]
      refine ok_mk ⟨⟨?_, ?_, ?_, ?_, ?_⟩, ?_⟩
      · simp (disch := omega) only [KK, K1, K2, NN, bnd_eq, sb, smr, bI_ite, if_pos, if_neg, if_true, if_false, or_true, true_or, true_and, and_true, g01, wr_at, wr_c, wr_p, ]; rfl
      · simp (disch := omega) only [KK, K1, K2, NN, bnd_eq, sb, smr, bI_ite, if_pos, if_neg, if_true, if_false, or_true, true_or, true_and, and_true, g01, wr_at, wr_c, wr_p, ]; rfl
      · simp (disch := omega) only [KK, K1, K2, NN, bnd_eq, sb, smr, bI_ite, if_pos, if_neg, if_true, if_false, or_true, true_or, true_and, and_true, g01, wr_at, wr_c, wr_p, g5]; rfl
      · simp (disch := omega) only [KK, K1, K2, NN, bnd_eq, sb, smr, bI_ite, if_pos, if_neg, if_true, if_false, or_true, true_or, true_and, and_true, g01, wr_at, wr_c, wr_p, g6]; rfl
      · intro j hj
        have hj' : j < bL x - (m - k) := hj
        obtain ⟨f1, f2, f3⟩ := g7 j (by omega)
        rw [if_pos (by omega)] at f1 f2 f3
        simp (disch := omega) only [KK, K1, K2, NN, bnd_eq, sb, smr, bI_ite, if_pos, if_neg, if_true, if_false, or_true, true_or, true_and, and_true, g01, wr_at, wr_c, wr_p, ]
        exact ⟨f1, f2, f3⟩
      · intro c j hc
        have hc' : ¬ (a ≤ c ∧ c < a + 4) := hc
        simp (disch := omega) only [KK, K1, K2, NN, bnd_eq, sb, smr, bI_ite, if_pos, if_neg, if_true, if_false, or_true, true_or, true_and, and_true, g01, wr_at, wr_c, wr_p, hF c j hc]
    · refine ⟨by omega, rfl, fr_rfl, h3, h4, h5, h6, ?_⟩
      intro j hj
      rw [if_neg (by omega)]
      exact hR j hj
  · rw [if_pos (show nI m - nI k ≤ 0 by rw [i_le, e]; show _ ≤ (0 : Int); omega), show m - k = 0 by omega]
    exact ok_mk ⟨⟨h3, h4, h5, h6, hR⟩, fr_rfl⟩
theorem pb_fr {a : Nat} {h h' : Hp} (F : Fr (pb a) h h') {c : Nat} (i : Nat) (hc : ¬ (a ≤ c ∧ c < a + 4)) : h'.1 c i = h.1 c i := F c i hc
theorem q_keep {h : Hp} {a : Nat} {x : Bn} (hk : kd a = 0) (H : CB h a x) (hl : bL x ≤ 12) (hu : bU x ≤ 12) {k : Nat} (hk3 : k ≤ 12) : Okk (B_forgetFirst h a (h.1 a 3 - nI k)) (fun h' => CB h' a (bKp x k) ∧ Fr (pb a) h h') := by
  rw [H.1]
  exact q_forget hk H hl hu (bL x) k (by omega) (by omega) (by omega)
theorem q_bset {h : Hp} {a : Nat} {x : Bn} (H : CB h a x) (s w : Int32) : CB (wr (wr h a 5 s) a 6 w) a (bSt x s w) ∧ Fr (pb a) h (wr (wr h a 5 s) a 6 w) := by
  obtain ⟨h3, h4, h5, h6, hR⟩ := H
  refine ⟨⟨?_, ?_, ?_, ?_, ?_⟩, ?_⟩
  · simp (disch := omega) only [KK, K1, K2, NN, bnd_eq, sb, smr, bI_ite, if_pos, if_neg, if_true, if_false, or_true, true_or, true_and, and_true, g01, wr_at, wr_c, wr_p, h3]; rfl
  · simp (disch := omega) only [KK, K1, K2, NN, bnd_eq, sb, smr, bI_ite, if_pos, if_neg, if_true, if_false, or_true, true_or, true_and, and_true, g01, wr_at, wr_c, wr_p, h4]; rfl
  · simp (disch := omega) only [KK, K1, K2, NN, bnd_eq, sb, smr, bI_ite, if_pos, if_neg, if_true, if_false, or_true, true_or, true_and, and_true, g01, wr_at, wr_c, wr_p, ]; rfl
  · simp (disch := omega) only [KK, K1, K2, NN, bnd_eq, sb, smr, bI_ite, if_pos, if_neg, if_true, if_false, or_true, true_or, true_and, and_true, g01, wr_at, wr_c, wr_p, ]; rfl
  · intro i hi
    simp (disch := omega) only [KK, K1, K2, NN, bnd_eq, sb, smr, bI_ite, if_pos, if_neg, if_true, if_false, or_true, true_or, true_and, and_true, g01, wr_at, wr_c, wr_p, ]
    exact hR i hi
  · intro c i hc
    have hc' : ¬ (a ≤ c ∧ c < a + 4) := hc
    simp (disch := omega) only [KK, K1, K2, NN, bnd_eq, sb, smr, bI_ite, if_pos, if_neg, if_true, if_false, or_true, true_or, true_and, and_true, g01, wr_at, wr_c, wr_p, ]
theorem q_bEn {h : Hp} {a : Nat} {x : Bn} (hk : kd a = 0) (H : CB h a x) (hl : bL x ≤ 11) (hu : bU x ≤ 12) (night : Int32) {k : Nat} (hk3 : k ≤ 12) : Okk (B_endNight h a night (nI k)) (fun h' => CB h' a (bEn x night k) ∧ Fr (pb a) h h') := by
  unfold B_endNight B_endNight_j30 bEn
  rw [if_pos hk, H.2.2.1]
  by_cases hs : bS x = nI 0
  · rw [if_pos hs, if_pos (show bS x = 0 from hs)]
    exact ok_mk (q_bset H (nI 0) (nI 0))
  · rw [if_neg hs, if_neg (show ¬ bS x = 0 from hs), H.2.2.2.1]
    refine okb (q_append hk H (by omega) _ _ _) ?_
    rintro h1 ⟨C1, F1⟩
    refine okb (q_keep hk C1 (show bL x + 1 ≤ 12 by omega) hu hk3) ?_
    rintro h2 ⟨C2, F2⟩
    have e := q_bset C2 (nI 0) (nI 0)
    exact ok_mk ⟨e.1, fr_tr (fr_tr F1 F2) e.2⟩
theorem q_bQt {h : Hp} {a : Nat} {x : Bn} (hk : kd a = 0) (H : CB h a x) (hl : bL x ≤ 11) (hu : bU x ≤ 12) (night : Int32) {k : Nat} (hk3 : k ≤ 12) : Okk (B_sitQuietly h a night (nI k)) (fun h' => CB h' a (bQt x night k) ∧ Fr (pb a) h h') := by
  unfold B_sitQuietly bQt
  rw [if_pos hk]
  have hu2 : bU (bTn x) ≤ 12 := by
    show (if bU x + 1 < bL x then bU x + 1 else 0) ≤ 12
    split <;> omega
  refine okb (q_turnOn hk H (by omega) hu) ?_
  rintro h1 ⟨C1, F1⟩
  refine okb (q_append hk C1 (show bL x < 12 by omega) _ _ _) ?_
  rintro h2 ⟨C2, F2⟩
  refine okb (q_keep hk C2 (show bL x + 1 ≤ 12 by omega) hu2 hk3) ?_
  rintro h3 ⟨C3, F3⟩
  exact ok_mk ⟨C3, fr_tr (fr_tr F1 F2) F3⟩
theorem q_bSc {h : Hp} {a : Nat} {x : Bn} (hk : kd a = 0) (H : CB h a x) (hl : bL x ≤ 12) (h2 : 2 ≤ bL x) (hu : bU x < bL x) : Okk (B_forgetLastButOne h a) (fun h' => CB h' a (bSc x) ∧ Fr (pb a) h h') := by
  obtain ⟨h3, h4, h5, h6, hR⟩ := H
  obtain ⟨k1, k2, k3, l1, l2, l3⟩ := bn_kd hk
  obtain ⟨e1, e2, e3⟩ := hR (bL x - 1) (by omega)
  have key : ∀ (h1 : Hp) (u : Nat), CB h1 a (bMk (bL x - 1) (up (bR x) (bL x - 2) (bR x (bL x - 1))) u (bS x) (bW x)) → Fr (pb a) h h1 → u ≤ 12 → Okk (B_forgetLastButOne_j86 a h1) (fun h' => CB h' a (bMk (bL x - 1) (up (bR x) (bL x - 2) (bR x (bL x - 1))) (if u < bL x - 1 then u else 0) (bS x) (bW x)) ∧ Fr (pb a) h h') := by
    rintro h1 u C1 F1 hu1
    have C1' := C1
    obtain ⟨c3, c4, c5, c6, cR⟩ := C1
    have c3' : h1.1 a 3 = nI (bL x - 1) := c3
    have c4' : h1.1 a 4 = nI u := c4
    unfold B_forgetLastButOne_j86 B_forgetLastButOne_j102
    simp (disch := omega) only [KK, K1, K2, NN, bnd_eq, sb, smr, bI_ite, if_pos, if_neg, if_true, if_false, or_true, true_or, true_and, and_true, g01, c3', c4']
    by_cases hul : u < bL x - 1
    · rw [if_pos hul, if_pos hul]
      exact ok_mk ⟨C1', F1⟩
    · rw [if_neg hul, if_neg hul]
      refine ok_mk ⟨⟨?_, ?_, ?_, ?_, ?_⟩, ?_⟩
      · simp (disch := omega) only [KK, K1, K2, NN, bnd_eq, sb, smr, bI_ite, if_pos, if_neg, if_true, if_false, or_true, true_or, true_and, and_true, g01, wr_at, wr_c, wr_p, c3']; rfl
      · simp (disch := omega) only [KK, K1, K2, NN, bnd_eq, sb, smr, bI_ite, if_pos, if_neg, if_true, if_false, or_true, true_or, true_and, and_true, g01, wr_at, wr_c, wr_p, ]; rfl
      · simp (disch := omega) only [KK, K1, K2, NN, bnd_eq, sb, smr, bI_ite, if_pos, if_neg, if_true, if_false, or_true, true_or, true_and, and_true, g01, wr_at, wr_c, wr_p, c5]; rfl
      · simp (disch := omega) only [KK, K1, K2, NN, bnd_eq, sb, smr, bI_ite, if_pos, if_neg, if_true, if_false, or_true, true_or, true_and, and_true, g01, wr_at, wr_c, wr_p, c6]; rfl
      · intro i hi
        simp (disch := omega) only [KK, K1, K2, NN, bnd_eq, sb, smr, bI_ite, if_pos, if_neg, if_true, if_false, or_true, true_or, true_and, and_true, g01, wr_at, wr_c, wr_p, ]
        exact cR i hi
      · intro c i hc
        have hc' : ¬ (a ≤ c ∧ c < a + 4) := hc
        simp (disch := omega) only [KK, K1, K2, NN, bnd_eq, sb, smr, bI_ite, if_pos, if_neg, if_true, if_false, or_true, true_or, true_and, and_true, g01, wr_at, wr_c, wr_p, F1 c i hc]
  unfold B_forgetLastButOne
  rw [if_pos hk]
  have e12 : bL x - 2 + 1 = bL x - 1 := by omega
  simp (disch := omega) only [KK, K1, K2, NN, bnd_eq, sb, smr, bI_ite, if_pos, if_neg, if_true, if_false, or_true, true_or, true_and, and_true, g01, wr_at, wr_c, wr_p, h3, h4, e12, e1, e2, e3]
  unfold bSc
  have row : ∀ i, i < bL x - 1 → ∀ h1 : Hp, h1.1 (a + 1) i = (if i = bL x - 2 then (bR x (bL x - 1)).1 else h.1 (a + 1) i) → h1.1 (a + 2) i = (if i = bL x - 2 then (bR x (bL x - 1)).2.1 else h.1 (a + 2) i) → h1.1 (a + 3) i = (if i = bL x - 2 then (bR x (bL x - 1)).2.2 else h.1 (a + 3) i) → h1.1 (a + 1) i = (up (bR x) (bL x - 2) (bR x (bL x - 1)) i).1 ∧ h1.1 (a + 2) i = (up (bR x) (bL x - 2) (bR x (bL x - 1)) i).2.1 ∧ h1.1 (a + 3) i = (up (bR x) (bL x - 2) (bR x (bL x - 1)) i).2.2 := by
    intro i hi h1 f1 f2 f3
    obtain ⟨r1, r2, r3⟩ := hR i (by omega)
    by_cases e : i = bL x - 2
    · rw [if_pos e] at f1 f2 f3
      subst e
      rw [up_at]
      exact ⟨f1, f2, f3⟩
    · rw [if_neg e] at f1 f2 f3
      rw [up_ne _ _ e]
      exact ⟨by rw [f1, r1], by rw [f2, r2], by rw [f3, r3]⟩
  by_cases hub : bU x = bL x - 1
  · rw [if_pos hub, if_neg (show ¬ bU x ≤ bL x - 2 by omega)]
    refine key _ (bL x - 2) ⟨?_, ?_, ?_, ?_, ?_⟩ ?_ (by omega)
    · simp (disch := omega) only [KK, K1, K2, NN, bnd_eq, sb, smr, bI_ite, if_pos, if_neg, if_true, if_false, or_true, true_or, true_and, and_true, g01, wr_at, wr_c, wr_p, ]; rfl
    · show _ = nI (bL x - 2)
      simp (disch := omega) only [KK, K1, K2, NN, bnd_eq, sb, smr, bI_ite, if_pos, if_neg, if_true, if_false, or_true, true_or, true_and, and_true, g01, wr_at, wr_c, wr_p, hub]
      rw [show bL x - 1 - 1 = bL x - 2 by omega]
    · simp (disch := omega) only [KK, K1, K2, NN, bnd_eq, sb, smr, bI_ite, if_pos, if_neg, if_true, if_false, or_true, true_or, true_and, and_true, g01, wr_at, wr_c, wr_p, h5]; rfl
    · simp (disch := omega) only [KK, K1, K2, NN, bnd_eq, sb, smr, bI_ite, if_pos, if_neg, if_true, if_false, or_true, true_or, true_and, and_true, g01, wr_at, wr_c, wr_p, h6]; rfl
    · intro i hi
      have hi' : i < bL x - 1 := hi
      refine row i hi' _ ?_ ?_ ?_
      · by_cases e : i = bL x - 2
        · subst e
          simp (disch := omega) only [KK, K1, K2, NN, bnd_eq, sb, smr, bI_ite, if_pos, if_neg, if_true, if_false, or_true, true_or, true_and, and_true, g01, wr_at, wr_c, wr_p, ]
        · simp (disch := omega) only [KK, K1, K2, NN, bnd_eq, sb, smr, bI_ite, if_pos, if_neg, if_true, if_false, or_true, true_or, true_and, and_true, g01, wr_at, wr_c, wr_p, ]
      · by_cases e : i = bL x - 2
        · subst e
          simp (disch := omega) only [KK, K1, K2, NN, bnd_eq, sb, smr, bI_ite, if_pos, if_neg, if_true, if_false, or_true, true_or, true_and, and_true, g01, wr_at, wr_c, wr_p, ]
        · simp (disch := omega) only [KK, K1, K2, NN, bnd_eq, sb, smr, bI_ite, if_pos, if_neg, if_true, if_false, or_true, true_or, true_and, and_true, g01, wr_at, wr_c, wr_p, ]
      · by_cases e : i = bL x - 2
        · subst e
          simp (disch := omega) only [KK, K1, K2, NN, bnd_eq, sb, smr, bI_ite, if_pos, if_neg, if_true, if_false, or_true, true_or, true_and, and_true, g01, wr_at, wr_c, wr_p, ]
        · simp (disch := omega) only [KK, K1, K2, NN, bnd_eq, sb, smr, bI_ite, if_pos, if_neg, if_true, if_false, or_true, true_or, true_and, and_true, g01, wr_at, wr_c, wr_p, ]
    · intro c i hc
      have hc' : ¬ (a ≤ c ∧ c < a + 4) := hc
      simp (disch := omega) only [KK, K1, K2, NN, bnd_eq, sb, smr, bI_ite, if_pos, if_neg, if_true, if_false, or_true, true_or, true_and, and_true, g01, wr_at, wr_c, wr_p, ]
  · rw [if_neg hub, if_pos (show bU x ≤ bL x - 2 by omega)]
    refine key _ (bU x) ⟨?_, ?_, ?_, ?_, ?_⟩ ?_ (by omega)
    · simp (disch := omega) only [KK, K1, K2, NN, bnd_eq, sb, smr, bI_ite, if_pos, if_neg, if_true, if_false, or_true, true_or, true_and, and_true, g01, wr_at, wr_c, wr_p, ]; rfl
    · simp (disch := omega) only [KK, K1, K2, NN, bnd_eq, sb, smr, bI_ite, if_pos, if_neg, if_true, if_false, or_true, true_or, true_and, and_true, g01, wr_at, wr_c, wr_p, h4]; rfl
    · simp (disch := omega) only [KK, K1, K2, NN, bnd_eq, sb, smr, bI_ite, if_pos, if_neg, if_true, if_false, or_true, true_or, true_and, and_true, g01, wr_at, wr_c, wr_p, h5]; rfl
    · simp (disch := omega) only [KK, K1, K2, NN, bnd_eq, sb, smr, bI_ite, if_pos, if_neg, if_true, if_false, or_true, true_or, true_and, and_true, g01, wr_at, wr_c, wr_p, h6]; rfl
    · intro i hi
      have hi' : i < bL x - 1 := hi
      refine row i hi' _ ?_ ?_ ?_
      · by_cases e : i = bL x - 2
        · subst e
          simp (disch := omega) only [KK, K1, K2, NN, bnd_eq, sb, smr, bI_ite, if_pos, if_neg, if_true, if_false, or_true, true_or, true_and, and_true, g01, wr_at, wr_c, wr_p, ]
        · simp (disch := omega) only [KK, K1, K2, NN, bnd_eq, sb, smr, bI_ite, if_pos, if_neg, if_true, if_false, or_true, true_or, true_and, and_true, g01, wr_at, wr_c, wr_p, ]
      · by_cases e : i = bL x - 2
        · subst e
          simp (disch := omega) only [KK, K1, K2, NN, bnd_eq, sb, smr, bI_ite, if_pos, if_neg, if_true, if_false, or_true, true_or, true_and, and_true, g01, wr_at, wr_c, wr_p, ]
        · simp (disch := omega) only [KK, K1, K2, NN, bnd_eq, sb, smr, bI_ite, if_pos, if_neg, if_true, if_false, or_true, true_or, true_and, and_true, g01, wr_at, wr_c, wr_p, ]
      · by_cases e : i = bL x - 2
        · subst e
          simp (disch := omega) only [KK, K1, K2, NN, bnd_eq, sb, smr, bI_ite, if_pos, if_neg, if_true, if_false, or_true, true_or, true_and, and_true, g01, wr_at, wr_c, wr_p, ]
        · simp (disch := omega) only [KK, K1, K2, NN, bnd_eq, sb, smr, bI_ite, if_pos, if_neg, if_true, if_false, or_true, true_or, true_and, and_true, g01, wr_at, wr_c, wr_p, ]
    · intro c i hc
      have hc' : ¬ (a ≤ c ∧ c < a + 4) := hc
      simp (disch := omega) only [KK, K1, K2, NN, bnd_eq, sb, smr, bI_ite, if_pos, if_neg, if_true, if_false, or_true, true_or, true_and, and_true, g01, wr_at, wr_c, wr_p, ]
/-- a copy into another table -/
theorem q_bCopy {h : Hp} {a b : Nat} {x : Bn} (hk : kd a = 0) (hb : kd b = 0) (hab : a + 4 ≤ b ∨ b + 4 ≤ a) (H : CB h b x) (hl : bL x ≤ 12) : Okk (B_copyFrom h a b) (fun h' => (∃ r, (∀ i, i < bL x → r i = bR x i) ∧ CB h' a (bMk (bL x) r (bU x) (bS x) (bW x))) ∧ Fr (pb a) h h') := by
  unfold B_copyFrom
  rw [if_pos hk]
  refine okb (q_clear hk) ?_
  rintro h1 ⟨C1, F1⟩
  unfold B_copyFrom_l6
  refine lp_for _ (bL x) (fun k s => s.1 = nI k ∧ Fr (pb a) h s.2 ∧ ∃ r, (∀ i, i < k → r i = bR x i) ∧ CB s.2 a (bMk k r 0 (nI 0) (nI 0))) _ ?_ ?_ 0 _ (by omega) ?_
  · rintro k ⟨s1, s2⟩ hk2 ⟨rfl, hF, r, hr, C2⟩
    dsimp only at hF C2 ⊢
    have D : CB s2 b x := cb_fr H (fun c i h1 h2 => hF c i (by show ¬ (a ≤ c ∧ c < a + 4); omega))
    obtain ⟨e1, e2, e3⟩ := q_bnI hb D hl hk2
    unfold B_copyFrom_b6
    rw [D.1]
    simp (disch := omega) only [KK, K1, K2, NN, bnd_eq, sb, smr, bI_ite, if_pos, if_neg, if_true, if_false, or_true, true_or, true_and, and_true, g01, e1, e2, e3]
    refine okb (q_append hk C2 (show k < 12 by omega) _ _ _) ?_
    rintro h3 ⟨C3, F3⟩
    refine ok_mk ⟨rfl, fr_tr hF F3, _, ?_, C3⟩
    intro i hi
    show up r k _ i = _
    by_cases e : i = k
    · subst e
      rw [up_at]
    · rw [up_ne _ _ e]
      exact hr i (by omega)
  · rintro ⟨s1, s2⟩ ⟨rfl, hF, r, hr, C2⟩
    dsimp only at hF C2 ⊢
    have D : CB s2 b x := cb_fr H (fun c i h1 h2 => hF c i (by show ¬ (a ≤ c ∧ c < a + 4); omega))
    unfold B_copyFrom_b6 B_copyFrom_j39
    obtain ⟨c3, c4, c5, c6, cR⟩ := C2
    have D' := D
    obtain ⟨d3, d4, d5, d6, dR⟩ := D
    simp (disch := omega) only [KK, K1, K2, NN, bnd_eq, sb, smr, bI_ite, if_pos, if_neg, if_true, if_false, or_true, true_or, true_and, and_true, g01, wr_at, wr_c, wr_p, d3, d4, d5, d6]
    refine ok_mk ⟨⟨r, hr, ?_, ?_, ?_, ?_, ?_⟩, ?_⟩
    · simp (disch := omega) only [KK, K1, K2, NN, bnd_eq, sb, smr, bI_ite, if_pos, if_neg, if_true, if_false, or_true, true_or, true_and, and_true, g01, wr_at, wr_c, wr_p, ]
      exact c3
    · simp (disch := omega) only [KK, K1, K2, NN, bnd_eq, sb, smr, bI_ite, if_pos, if_neg, if_true, if_false, or_true, true_or, true_and, and_true, g01, wr_at, wr_c, wr_p, ]; rfl
    · simp (disch := omega) only [KK, K1, K2, NN, bnd_eq, sb, smr, bI_ite, if_pos, if_neg, if_true, if_false, or_true, true_or, true_and, and_true, g01, wr_at, wr_c, wr_p, ]; rfl
    · simp (disch := omega) only [KK, K1, K2, NN, bnd_eq, sb, smr, bI_ite, if_pos, if_neg, if_true, if_false, or_true, true_or, true_and, and_true, g01, wr_at, wr_c, wr_p, ]; rfl
    · intro i hi
      simp (disch := omega) only [KK, K1, K2, NN, bnd_eq, sb, smr, bI_ite, if_pos, if_neg, if_true, if_false, or_true, true_or, true_and, and_true, g01, wr_at, wr_c, wr_p, ]
      exact cR i hi
    · intro c i hc
      have hc' : ¬ (a ≤ c ∧ c < a + 4) := hc
      simp (disch := omega) only [KK, K1, K2, NN, bnd_eq, sb, smr, bI_ite, if_pos, if_neg, if_true, if_false, or_true, true_or, true_and, and_true, g01, wr_at, wr_c, wr_p, hF c i hc]
  · refine ⟨rfl, F1, fun _ => (nI 0, nI 0, nI 0), ?_, C1⟩
    intro i hi
    exact absurd hi (Nat.not_lt_zero i)
