/-! ===== L3: council ===== -/
theorem n_and (a b : Nat) : nI a &&& nI b = nI (a &&& b) := by
  apply b_ext
  intro i hi
  rw [b_and, b_nI _ i hi, b_nI _ i hi, b_nI _ i hi, Nat.testBit_and]
theorem n_xor (a b : Nat) : nI a ^^^ nI b = nI (a ^^^ b) := by
  apply b_ext
  intro i hi
  rw [b_xor, b_nI _ i hi, b_nI _ i hi, b_nI _ i hi, Nat.testBit_xor]
theorem n_or (a b : Nat) : nI a ||| nI b = nI (a ||| b) := by
  apply b_ext
  intro i hi
  rw [b_or, b_nI _ i hi, b_nI _ i hi, b_nI _ i hi, Nat.testBit_or]
theorem sub_bit {w p : Nat} (h : p &&& w = p) (i : Nat) : p.testBit i = true → w.testBit i = true := by
  intro hp
  rw [← h, Nat.testBit_and, Bool.and_eq_true] at hp
  exact hp.2
theorem xor_lt {w p : Nat} (h : p &&& w = p) (hp : 0 < p) : w ^^^ p < w := by
  have e : (w ^^^ p) &&& w = w ^^^ p := by
    apply Nat.eq_of_testBit_eq
    intro i
    rw [Nat.testBit_and, Nat.testBit_xor]
    cases h1 : w.testBit i
    · cases h2 : p.testBit i
      · rfl
      · rw [sub_bit h i h2] at h1
        exact absurd h1 (by decide)
    · cases p.testBit i <;> rfl
  have le : w ^^^ p ≤ w := by
    rw [← e]
    exact Nat.and_le_right
  rcases Nat.lt_or_ge (w ^^^ p) w with h1 | h1
  · exact h1
  · exfalso
    have e2 : w ^^^ p = w := Nat.le_antisymm le h1
    have e3 : p = 0 := by
      apply Nat.eq_of_testBit_eq
      intro i
      have := congrArg (fun z => z.testBit i) e2
      rw [Nat.testBit_xor] at this
      rw [Nat.zero_testBit]
      revert this
      cases w.testBit i <;> cases p.testBit i <;> intro h <;> first | rfl | exact absurd h (by decide)
    omega
theorem and_not {w p : Nat} (h : p &&& w = p) : nI w &&& (nI p ^^^ jN 1) = nI (w ^^^ p) := by
  apply b_ext
  intro i hi
  rw [b_and, b_nt _ i hi, b_nI _ i hi, b_nI _ i hi, b_nI _ i hi, Nat.testBit_xor]
  cases h1 : w.testBit i
  · cases h2 : p.testBit i
    · rfl
    · rw [sub_bit h i h2] at h1
      exact absurd h1 (by decide)
  · cases p.testBit i <;> rfl
theorem nxt_sub (p w : Nat) : ((p - 1) &&& w) &&& w = (p - 1) &&& w := by rw [Nat.and_assoc, Nat.and_self]
/-- the best so far, part by part (fuel, part, best) -/
def fI (n : Inn) (tb : Nat → Nat) (w : Nat) : Nat → Nat → Nat → Nat
  | 0, _, v => v
  | f + 1, p, v => if p = 0 then v else fI n tb w f ((p - 1) &&& w) (if tb (w ^^^ p) + 1 < v ∧ pk n (nI p) = true then tb (w ^^^ p) + 1 else v)
def ftS (n : Inn) : Nat → Nat → Nat
  | 0 => fun _ => 0
  | w + 1 => if w = 0 then fun _ => 0 else up (ftS n w) w (fI n (ftS n w) w w w 8)
theorem fI_le (n : Inn) (tb : Nat → Nat) (w : Nat) : ∀ f p v, v ≤ 8 → fI n tb w f p v ≤ 8
  | 0, _, v, hv => hv
  | f + 1, p, v, hv => by
    show (if p = 0 then v else fI n tb w f ((p - 1) &&& w) (if tb (w ^^^ p) + 1 < v ∧ pk n (nI p) = true then tb (w ^^^ p) + 1 else v)) ≤ 8
    by_cases h : p = 0
    · rw [if_pos h]
      exact hv
    · rw [if_neg h]
      apply fI_le
      by_cases h2 : tb (w ^^^ p) + 1 < v ∧ pk n (nI p) = true
      · rw [if_pos h2]
        omega
      · rw [if_neg h2]
        exact hv
theorem ft_le (n : Inn) : ∀ w i, ftS n w i ≤ 8
  | 0, i => Nat.zero_le _
  | w + 1, i => by
    show (if w = 0 then fun _ => 0 else up (ftS n w) w (fI n (ftS n w) w w w 8)) i ≤ 8
    by_cases h : w = 0
    · rw [if_pos h]
      exact Nat.zero_le _
    · rw [if_neg h]
      by_cases e : i = w
      · subst e
        rw [up_at]
        exact fI_le n _ i i i 8 (Nat.le_refl 8)
      · rw [up_ne _ _ e]
        exact ft_le n w i
theorem p256 {k : Nat} (h : k ≤ 8) : 2 ^ k ≤ 256 := Nat.pow_le_pow_right (n := 2) (by decide) h
theorem q_fewT {h : Hp} {n : Inn} {a : Nat} (H : CH h a n) (hw : wI n) (ha : a < 100) : Okk (P_fewestTables h a) (fun r => r.1 = nI (ftS n (2 ^ nG n) (2 ^ nG n - 1)) ∧ Fr (fun c _ => c = 124) h r.2) := by
  have hk := H.1
  have hG := hw.2.2.1
  have hG1 := hw.2.1
  have hp := p256 hG
  have hp1 : 2 ^ 1 ≤ 2 ^ nG n := Nat.pow_le_pow_right (n := 2) (by decide) hG1
  have l124 : ln 124 = 256 := by decide +kernel
  have emn : mn (nI (2 ^ nG n)) (nI 256) = nI (2 ^ nG n) := by
    unfold mn
    rw [if_neg (by rw [nI_ltI (by omega) (by omega)]; omega)]
  have e31 : nG n < 31 := by omega
  unfold P_fewestTables
  rw [l124, show Int32.ofNat 256 = nI 256 from rfl]
  simp (disch := omega) only [KK, K1, K2, NN, bnd_eq, sb, smr, bI_ite, if_pos, if_neg, if_true, if_false, or_true, true_or, true_and, and_true, g01, hk, H.2.2.1, sh_nI e31, emn]
  unfold P_fewestTables_l24
  refine lp_for _ (2 ^ nG n) (fun w q => 1 ≤ w ∧ q.1 = nI w ∧ Fr (fun c _ => c = 124) h q.2 ∧ ∀ i, i < w → q.2.1 124 i = nI (ftS n w i)) _ ?_ ?_ 1 _ (by omega) ?_
  · rintro w ⟨q1, q2⟩ hwl ⟨hw1, rfl, hF, hv⟩
    dsimp only at hF hv ⊢
    unfold P_fewestTables_b24
    rw [l124]
    simp (disch := omega) only [KK, K1, K2, NN, bnd_eq, sb, smr, bI_ite, if_pos, if_neg, if_true, if_false, or_true, true_or, true_and, and_true, g01]
    unfold P_fewestTables_l40
    refine lp_ms _ (fun z => z.1.toNatClampNeg) (fun z => ∃ p v f, z.1 = nI p ∧ p &&& w = p ∧ p ≤ w ∧ p ≤ f ∧ v ≤ 8 ∧ z.2.1 124 w = nI v ∧ (∀ i, i < w → z.2.1 124 i = nI (ftS n w i)) ∧ Fr (fun c _ => c = 124) h z.2 ∧ fI n (ftS n w) w f p v = fI n (ftS n w) w w w 8) _ ?_ _ ?_
    · rintro ⟨z1, z2⟩ ⟨p, v, f, rfl, hpw, hple, hpf, hv8, hz, hzi, zF, hR⟩
      dsimp only at hz hzi zF ⊢
      have Hz : CH z2 a n := by
        obtain ⟨c0, c5, c6, cT, cG⟩ := H
        have zo : ∀ c i, c ≠ 124 → z2.1 c i = h.1 c i := fun c i hc => zF c i hc
        refine ⟨c0, by rw [zo a 5 (by omega), c5], by rw [zo a 6 (by omega), c6], ?_, ?_⟩
        · intro t ht
          rw [zo _ t (by omega), zo _ t (by omega), zo _ t (by omega)]
          exact cT t ht
        · intro g hg
          rw [zo _ g (by omega), zo _ g (by omega)]
          exact cG g hg
      unfold P_fewestTables_b40 P_fewestTables_j91 P_fewestTables_j102
      rw [l124]
      by_cases hp0 : p = 0
      · subst hp0
        simp (disch := omega) only [KK, K1, K2, NN, bnd_eq, sb, smr, bI_ite, if_pos, if_neg, if_true, if_false, or_true, true_or, true_and, and_true, g01]
        have hRv : fI n (ftS n w) w w w 8 = v := by
          rw [← hR]
          cases f with
          | zero => rfl
          | succ f => exact if_pos rfl
        refine ok_mk ⟨by omega, rfl, zF, ?_⟩
        intro i hi
        show z2.1 124 i = nI ((if w = 0 then fun _ => 0 else up (ftS n w) w (fI n (ftS n w) w w w 8)) i)
        rw [if_neg (by omega)]
        by_cases e : i = w
        · subst e
          rw [up_at, hz, hRv]
        · rw [up_ne _ _ e]
          exact hzi i (by omega)
      · have hx := xor_lt hpw (by omega)
        have hpm : (p - 1) &&& w ≤ p - 1 := Nat.and_le_left
        obtain ⟨f', rfl⟩ : ∃ f', f = f' + 1 := ⟨f - 1, by omega⟩
        have hR2 : fI n (ftS n w) w f' ((p - 1) &&& w) (if ftS n w (w ^^^ p) + 1 < v ∧ pk n (nI p) = true then ftS n w (w ^^^ p) + 1 else v) = fI n (ftS n w) w w w 8 := by
          rw [← hR]
          exact (if_neg hp0).symm
        have ftb := ft_le n w (w ^^^ p)
        have hzx := hzi (w ^^^ p) hx
        simp (disch := omega) only [KK, K1, K2, NN, bnd_eq, sb, smr, bI_ite, if_pos, if_neg, if_true, if_false, or_true, true_or, true_and, and_true, g01, n_xor, n_and, hz, hzx, hk, q_isPeaceful Hz hw (nI p)]
        by_cases c1 : v ≤ ftS n w (w ^^^ p) + 1
        · rw [if_pos c1]
          refine ok_mk ⟨⟨(p - 1) &&& w, v, f', rfl, nxt_sub p w, by omega, by omega, hv8, hz, hzi, zF, ?_⟩, ?_⟩
          · rw [← hR2, if_neg (fun e => by omega)]
          · dsimp only
            rw [nI_clamp (show (p - 1) &&& w < 2 ^ 31 by omega)]
            omega
        · rw [if_neg c1]
          by_cases c2 : pk n (nI p) = true
          · rw [if_pos c2]
            refine ok_mk ⟨⟨(p - 1) &&& w, ftS n w (w ^^^ p) + 1, f', rfl, nxt_sub p w, by omega, by omega, by omega, ?_, ?_, fr_tr zF (fr_wr rfl), ?_⟩, ?_⟩
            · simp (disch := omega) only [KK, K1, K2, NN, bnd_eq, sb, smr, bI_ite, if_pos, if_neg, if_true, if_false, or_true, true_or, true_and, and_true, g01, wr_at, wr_c, wr_p, ]
            · intro i hi
              simp (disch := omega) only [KK, K1, K2, NN, bnd_eq, sb, smr, bI_ite, if_pos, if_neg, if_true, if_false, or_true, true_or, true_and, and_true, g01, wr_at, wr_c, wr_p, hzi i hi]
            · rw [← hR2, if_pos ⟨by omega, c2⟩]
            · dsimp only
              rw [nI_clamp (show (p - 1) &&& w < 2 ^ 31 by omega)]
              omega
          · rw [if_neg c2]
            refine ok_mk ⟨⟨(p - 1) &&& w, v, f', rfl, nxt_sub p w, by omega, by omega, hv8, hz, hzi, zF, ?_⟩, ?_⟩
            · rw [← hR2, if_neg (fun e => c2 e.2)]
            · dsimp only
              rw [nI_clamp (show (p - 1) &&& w < 2 ^ 31 by omega)]
              omega
    · refine ⟨w, 8, w, rfl, Nat.and_self w, Nat.le_refl _, Nat.le_refl _, Nat.le_refl _, ?_, ?_, fr_tr hF (fr_wr rfl), rfl⟩
      · simp (disch := omega) only [KK, K1, K2, NN, bnd_eq, sb, smr, bI_ite, if_pos, if_neg, if_true, if_false, or_true, true_or, true_and, and_true, g01, wr_at, wr_c, wr_p, ]
      · intro i hi
        simp (disch := omega) only [KK, K1, K2, NN, bnd_eq, sb, smr, bI_ite, if_pos, if_neg, if_true, if_false, or_true, true_or, true_and, and_true, g01, wr_at, wr_c, wr_p, hv i hi]
  · rintro ⟨q1, q2⟩ ⟨hw1, rfl, hF, hv⟩
    dsimp only at hF hv ⊢
    have hlast := hv (2 ^ nG n - 1) (by omega)
    unfold P_fewestTables_b24 P_fewestTables_j108
    rw [l124]
    simp (disch := omega) only [KK, K1, K2, NN, bnd_eq, sb, smr, bI_ite, if_pos, if_neg, if_true, if_false, or_true, true_or, true_and, and_true, g01, hlast]
    exact ⟨_, rfl, rfl, hF⟩
  · refine ⟨Nat.le_refl _, rfl, fr_wr rfl, ?_⟩
    intro i hi
    have : i = 0 := by omega
    subst this
    dsimp only
    simp (disch := omega) only [KK, K1, K2, NN, bnd_eq, sb, smr, bI_ite, if_pos, if_neg, if_true, if_false, or_true, true_or, true_and, and_true, g01, wr_at, wr_c, wr_p, ]
    rfl
theorem q_fewM {h : Hp} {n : Inn} (X : MX h n) (hw : wI n) : Okk (M_fewestTables h) (fun r => r.1 = nI (ftS n (2 ^ nG n) (2 ^ nG n - 1)) ∧ Fr (fun c _ => c = 278) h r.2) := by
  have hG := hw.2.2.1
  have hG1 := hw.2.1
  have hp := p256 hG
  have hp1 : 2 ^ 1 ≤ 2 ^ nG n := Nat.pow_le_pow_right (n := 2) (by decide) hG1
  have e31 : nG n < 31 := by omega
  have og : ∀ h' : Hp, Fr (fun c _ => c = 278) h h' → MX h' n := fun h' F => mx_fr X (fun c i hc => F c i (by show ¬ c = 278; omega))
  unfold M_fewestTables
  simp (disch := omega) only [KK, K1, K2, NN, bnd_eq, sb, smr, bI_ite, if_pos, if_neg, if_true, if_false, or_true, true_or, true_and, and_true, g01]
  unfold M_fewestTables_l9
  refine lp_for _ (2 ^ nG n) (fun w q => 1 ≤ w ∧ q.1 = nI w ∧ Fr (fun c _ => c = 278) h q.2 ∧ ∀ i, i < w → q.2.1 278 i = nI (ftS n w i)) _ ?_ ?_ 1 _ (by omega) ?_
  · rintro w ⟨q1, q2⟩ hwl ⟨hw1, rfl, hF, hv⟩
    dsimp only at hF hv ⊢
    have hg := (mx_g (og q2 hF)).2
    unfold M_fewestTables_b9
    rw [hg]
    simp (disch := omega) only [KK, K1, K2, NN, bnd_eq, sb, smr, bI_ite, if_pos, if_neg, if_true, if_false, or_true, true_or, true_and, and_true, g01, lnm, sh_nI e31]
    unfold M_fewestTables_l29
    refine lp_ms _ (fun z => z.1.toNatClampNeg) (fun z => ∃ p v f, z.1 = nI p ∧ p &&& w = p ∧ p ≤ w ∧ p ≤ f ∧ v ≤ 8 ∧ z.2.1 278 w = nI v ∧ (∀ i, i < w → z.2.1 278 i = nI (ftS n w i)) ∧ Fr (fun c _ => c = 278) h z.2 ∧ fI n (ftS n w) w f p v = fI n (ftS n w) w w w 8) _ ?_ _ ?_
    · rintro ⟨z1, z2⟩ ⟨p, v, f, rfl, hpw, hple, hpf, hv8, hz, hzi, zF, hR⟩
      dsimp only at hz hzi zF ⊢
      have Xz := og z2 zF
      unfold M_fewestTables_b29 M_fewestTables_j73 M_fewestTables_j79 M_fewestTables_j89
      by_cases hp0 : p = 0
      · subst hp0
        simp (disch := omega) only [KK, K1, K2, NN, bnd_eq, sb, smr, bI_ite, if_pos, if_neg, if_true, if_false, or_true, true_or, true_and, and_true, g01]
        have hRv : fI n (ftS n w) w w w 8 = v := by
          rw [← hR]
          cases f with
          | zero => rfl
          | succ f => exact if_pos rfl
        refine ok_mk ⟨by omega, rfl, zF, ?_⟩
        intro i hi
        show z2.1 278 i = nI ((if w = 0 then fun _ => 0 else up (ftS n w) w (fI n (ftS n w) w w w 8)) i)
        rw [if_neg (by omega)]
        by_cases e : i = w
        · subst e
          rw [up_at, hz, hRv]
        · rw [up_ne _ _ e]
          exact hzi i (by omega)
      · have hx := xor_lt hpw (by omega)
        have hpm : (p - 1) &&& w ≤ p - 1 := Nat.and_le_left
        obtain ⟨f', rfl⟩ : ∃ f', f = f' + 1 := ⟨f - 1, by omega⟩
        have hR2 : fI n (ftS n w) w f' ((p - 1) &&& w) (if ftS n w (w ^^^ p) + 1 < v ∧ pk n (nI p) = true then ftS n w (w ^^^ p) + 1 else v) = fI n (ftS n w) w w w 8 := by
          rw [← hR]
          exact (if_neg hp0).symm
        have ftb := ft_le n w (w ^^^ p)
        have hzx := hzi (w ^^^ p) hx
        have ean := and_not hpw
        simp (disch := omega) only [KK, K1, K2, NN, bnd_eq, sb, smr, bI_ite, if_pos, if_neg, if_true, if_false, or_true, true_or, true_and, and_true, g01, lnm, ean, n_and, hz, hzx, q_quiet Xz hw (nI p)]
        have self : ∀ (u : Nat), z2.1 278 w = nI u → (∀ i, i < w → (wr z2 278 w (nI u)).1 278 i = nI (ftS n w i)) ∧ (wr z2 278 w (nI u)).1 278 w = nI u := by
          intro u hu
          refine ⟨?_, wr_at _ _ _ _⟩
          intro i hi
          simp (disch := omega) only [KK, K1, K2, NN, bnd_eq, sb, smr, bI_ite, if_pos, if_neg, if_true, if_false, or_true, true_or, true_and, and_true, g01, wr_at, wr_c, wr_p, hzi i hi]
        by_cases c1 : v ≤ ftS n w (w ^^^ p) + 1
        · rw [if_pos c1]
          refine ok_mk ⟨⟨(p - 1) &&& w, v, f', rfl, nxt_sub p w, by omega, by omega, hv8, (self v hz).2, (self v hz).1, fr_tr zF (fr_wr rfl), ?_⟩, ?_⟩
          · rw [← hR2, if_neg (fun e => by omega)]
          · dsimp only
            rw [nI_clamp (show (p - 1) &&& w < 2 ^ 31 by omega)]
            omega
        · rw [if_neg c1]
          by_cases c2 : pk n (nI p) = true
          · rw [if_pos c2]
            refine ok_mk ⟨⟨(p - 1) &&& w, ftS n w (w ^^^ p) + 1, f', rfl, nxt_sub p w, by omega, by omega, by omega, ?_, ?_, fr_tr zF (fr_wr rfl), ?_⟩, ?_⟩
            · simp (disch := omega) only [KK, K1, K2, NN, bnd_eq, sb, smr, bI_ite, if_pos, if_neg, if_true, if_false, or_true, true_or, true_and, and_true, g01, wr_at, wr_c, wr_p, ]
            · intro i hi
              simp (disch := omega) only [KK, K1, K2, NN, bnd_eq, sb, smr, bI_ite, if_pos, if_neg, if_true, if_false, or_true, true_or, true_and, and_true, g01, wr_at, wr_c, wr_p, hzi i hi]
            · rw [← hR2, if_pos ⟨by omega, c2⟩]
            · dsimp only
              rw [nI_clamp (show (p - 1) &&& w < 2 ^ 31 by omega)]
              omega
          · rw [if_neg c2]
            refine ok_mk ⟨⟨(p - 1) &&& w, v, f', rfl, nxt_sub p w, by omega, by omega, hv8, (self v hz).2, (self v hz).1, fr_tr zF (fr_wr rfl), ?_⟩, ?_⟩
            · rw [← hR2, if_neg (fun e => c2 e.2)]
            · dsimp only
              rw [nI_clamp (show (p - 1) &&& w < 2 ^ 31 by omega)]
              omega
    · refine ⟨w, 8, w, rfl, Nat.and_self w, Nat.le_refl _, Nat.le_refl _, Nat.le_refl _, ?_, ?_, fr_tr hF (fr_wr rfl), rfl⟩
      · simp (disch := omega) only [KK, K1, K2, NN, bnd_eq, sb, smr, bI_ite, if_pos, if_neg, if_true, if_false, or_true, true_or, true_and, and_true, g01, wr_at, wr_c, wr_p, ]
      · intro i hi
        simp (disch := omega) only [KK, K1, K2, NN, bnd_eq, sb, smr, bI_ite, if_pos, if_neg, if_true, if_false, or_true, true_or, true_and, and_true, g01, wr_at, wr_c, wr_p, hv i hi]
  · rintro ⟨q1, q2⟩ ⟨hw1, rfl, hF, hv⟩
    dsimp only at hF hv ⊢
    have hg := (mx_g (og q2 hF)).2
    have hlast := hv (2 ^ nG n - 1) (by omega)
    unfold M_fewestTables_b9 M_fewestTables_j95
    rw [hg]
    simp (disch := omega) only [KK, K1, K2, NN, bnd_eq, sb, smr, bI_ite, if_pos, if_neg, if_true, if_false, or_true, true_or, true_and, and_true, g01, lnm, sh_nI e31, hlast]
    exact ⟨_, rfl, rfl, hF⟩
  · refine ⟨Nat.le_refl _, rfl, fr_wr rfl, ?_⟩
    intro i hi
    have : i = 0 := by omega
    subst this
    dsimp only
    simp (disch := omega) only [KK, K1, K2, NN, bnd_eq, sb, smr, bI_ite, if_pos, if_neg, if_true, if_false, or_true, true_or, true_and, and_true, g01, wr_at, wr_c, wr_p, ]
    rfl
/-- the greatest peaceful set of the first ones -/
def gpS (n : Inn) : Nat → Nat
  | 0 => 0
  | k + 1 => if pk n (nI k) = true ∧ pc (nI (gpS n k)) < pc (nI k) then k else gpS n k
theorem gp_lt (n : Inn) : ∀ k, gpS n k ≤ k
  | 0 => Nat.le_refl _
  | k + 1 => by
    have := gp_lt n k
    show (if pk n (nI k) = true ∧ pc (nI (gpS n k)) < pc (nI k) then k else gpS n k) ≤ k + 1
    split <;> omega
theorem gp_1 (n : Inn) : gpS n 1 = 0 := by
  show (if pk n (nI 0) = true ∧ pc (nI (gpS n 0)) < pc (nI 0) then 0 else gpS n 0) = 0
  split <;> rfl
theorem q_grP {h : Hp} {n : Inn} {a : Nat} (H : CH h a n) (hw : wI n) : P_greatestPeace h a = some (nI (gpS n (2 ^ nG n))) := by
  have hk := H.1
  have hG := hw.2.2.1
  have hG1 := hw.2.1
  have hp := p256 hG
  have hp1 : 2 ^ 1 ≤ 2 ^ nG n := Nat.pow_le_pow_right (n := 2) (by decide) hG1
  have e31 : nG n < 31 := by omega
  apply ok_to
  unfold P_greatestPeace P_greatestPeace_l4
  refine lp_for _ (2 ^ nG n) (fun w q => 1 ≤ w ∧ q = (nI (gpS n w), nI w)) _ ?_ ?_ 1 _ (by omega) ⟨Nat.le_refl _, by rw [gp_1]; rfl⟩
  · rintro w q hwl ⟨hw1, rfl⟩
    have hgl := gp_lt n w
    have p1 := pc_le (nI w)
    have p2 := pc_le (nI (gpS n w))
    have lo1 : lo 10 (nI w) := lo_nI (by omega) (by omega)
    have lo2 : lo 10 (nI (gpS n w)) := lo_nI (by omega) (by omega)
    unfold P_greatestPeace_b4 P_greatestPeace_j35
    simp (disch := omega) only [KK, K1, K2, NN, bnd_eq, sb, smr, bI_ite, if_pos, if_neg, if_true, if_false, or_true, true_or, true_and, and_true, g01, hk, H.2.2.1, sh_nI e31, q_bits lo1, q_bits lo2, q_isPeaceful H hw]
    show Okk _ (Sum.elim (fun q => 1 ≤ w + 1 ∧ q = (nI (if pk n (nI w) = true ∧ pc (nI (gpS n w)) < pc (nI w) then w else gpS n w), nI (w + 1))) _)
    by_cases c1 : pc (nI w) ≤ pc (nI (gpS n w))
    · rw [if_pos c1, if_neg (fun e => by omega)]
      exact ok_mk ⟨by omega, rfl⟩
    · rw [if_neg c1]
      by_cases c2 : pk n (nI w) = true
      · rw [if_pos c2, if_pos ⟨c2, by omega⟩]
        exact ok_mk ⟨by omega, rfl⟩
      · rw [if_neg c2, if_neg (fun e => c2 e.1)]
        exact ok_mk ⟨by omega, rfl⟩
  · rintro q ⟨hw1, rfl⟩
    unfold P_greatestPeace_b4 P_greatestPeace_j41
    simp (disch := omega) only [KK, K1, K2, NN, bnd_eq, sb, smr, bI_ite, if_pos, if_neg, if_true, if_false, or_true, true_or, true_and, and_true, g01, hk, H.2.2.1, sh_nI e31]
    exact ⟨_, rfl, rfl⟩
theorem q_grM {h : Hp} {n : Inn} (X : MX h n) (hw : wI n) : M_council_l29 (0 : Int32) (1 : Int32) h = some (nI (gpS n (2 ^ nG n)), h) := by
  have hG := hw.2.2.1
  have hG1 := hw.2.1
  have hp := p256 hG
  have hp1 : 2 ^ 1 ≤ 2 ^ nG n := Nat.pow_le_pow_right (n := 2) (by decide) hG1
  have e31 : nG n < 31 := by omega
  have hg := (mx_g X).2
  apply ok_to
  unfold M_council_l29
  refine lp_for _ (2 ^ nG n) (fun w q => 1 ≤ w ∧ q = (nI (gpS n w), nI w)) _ ?_ ?_ 1 _ (by omega) ⟨Nat.le_refl _, by rw [gp_1]; rfl⟩
  · rintro w q hwl ⟨hw1, rfl⟩
    have hgl := gp_lt n w
    have p1 := pc_le (nI w)
    have p2 := pc_le (nI (gpS n w))
    unfold M_council_b29 M_council_j66 M_council_j67
    simp (disch := omega) only [KK, K1, K2, NN, bnd_eq, sb, smr, bI_ite, if_pos, if_neg, if_true, if_false, or_true, true_or, true_and, and_true, g01, hg, sh_nI e31, q_ones, q_quiet X hw]
    show Okk _ (Sum.elim (fun q => 1 ≤ w + 1 ∧ q = (nI (if pk n (nI w) = true ∧ pc (nI (gpS n w)) < pc (nI w) then w else gpS n w), nI (w + 1))) _)
    by_cases c2 : pk n (nI w) = true
    · rw [if_pos c2]
      by_cases c1 : pc (nI w) ≤ pc (nI (gpS n w))
      · rw [if_pos c1, if_neg (fun e => by omega)]
        exact ok_mk ⟨by omega, rfl⟩
      · rw [if_neg c1, if_pos ⟨c2, by omega⟩]
        exact ok_mk ⟨by omega, rfl⟩
    · rw [if_neg c2, if_neg (fun e => c2 e.1)]
      exact ok_mk ⟨by omega, rfl⟩
  · rintro q ⟨hw1, rfl⟩
    unfold M_council_b29 M_council_j74
    simp (disch := omega) only [KK, K1, K2, NN, bnd_eq, sb, smr, bI_ite, if_pos, if_neg, if_true, if_false, or_true, true_or, true_and, and_true, g01, hg, sh_nI e31]
    exact ⟨_, rfl, rfl⟩
theorem t_council {h : Hp} (I : Inv h) (x1 x2 : Int32) : Sm (K_council h x1 x2) (fun h1 => M_council h1 x1 x2) := by
  obtain ⟨len, c, z1, z2, z3, z4, z5, z6, h7, h8, h9, -, -⟩ := I.1 0 (by omega)
  have c0 := (h7 0 (by omega)).1
  have eI := q_innAt h7 x1
  have w0 : ∀ h1 : Hp, Tl h1 (wr h1 251 0 0) := fun h1 => tl_wr (by omega)
  by_cases hx1 : iz x1 0 (c 0) = true
  case neg =>
    unfold K_council
    rw [eI, sb, if_neg hx1, if_pos rfl]
    refine ok_mk ?_
    show Okk (M_council h x1 x2) (fun q => q.1 = jN 1 ∧ Inv q.2)
    unfold M_council
    rw [bnd_eq]
    refine okb ((q_hand (cls_fr h7 (w0 h)) x1).1 (eq_false_of_ne_true hx1)) ?_
    rintro ⟨r1, r2⟩ ⟨rfl, F⟩
    show Okk (if nI 0 = (0 : Int32) then _ else _) _
    rw [if_pos (show nI 0 = (0 : Int32) from rfl)]
    refine ok_mk ⟨rfl, inv_fr I (tl_tr (w0 h) (tl_fr F (fun c i hc => by have := hc.1; omega)))⟩
  obtain ⟨k, hk, hk2, rfl⟩ := iz_0 hx1
  obtain ⟨n, hw, CHk, MHk⟩ := h8 k hk
  rw [if_pos hx1, nI_clamp hk2] at eI
  have CH' : CH h (8 + 6 * k) n := CHk
  have MH' : MH h k n := by
    rw [show 2 * 0 + k = k by omega] at MHk
    exact MHk
  -- the model takes the inn at hand
  have hand : ∀ h1, Tl h h1 → ∃ h2, M_hand (wr h1 251 0 0) (nI k) = some (nI 1, h2) ∧ MX h2 n ∧ Tl h h2 := by
    intro h1 t1
    have t2 : Tl h (wr h1 251 0 0) := tl_tr t1 (w0 h1)
    have MHh : MH (wr h1 251 0 0) k n := by
      obtain ⟨m0, m1, mT, mG⟩ := MH'
      have o : ∀ i, (wr h1 251 0 0).1 257 i = h.1 257 i := fun i => t2 257 i (by show (2 ≤ 257 ∧ 257 ≤ 45) ∨ (125 ≤ 257 ∧ 257 ≤ 250) ∨ (252 ≤ 257 ∧ 257 ≤ 260) ∨ 257 = 280; omega)
      refine ⟨by rw [o, m0], by rw [o, m1], ?_, ?_⟩
      · intro t ht
        rw [o, o, o]
        exact mT t ht
      · intro g hg
        rw [o, o]
        exact mG g hg
    obtain ⟨⟨r1, r2⟩, q1, q2, q3, q4⟩ := (q_hand (cls_fr h7 t2) (nI k)).2 k n hk MHh
    dsimp only at q2 q3 q4
    subst q2
    exact ⟨r2, q1, q3, tl_tr t2 (tl_fr q4 (fun c i hc => by have := hc.1; omega))⟩
  unfold K_council K_council_j38
  rw [eI, sb, if_neg (by omega)]
  by_cases hx2 : x2 = 0
  · rw [if_pos hx2, q_grP CH' hw, sb]
    refine ok_mk ?_
    obtain ⟨h2, e1, e2, e3⟩ := hand h tl_rfl
    show Okk (M_council h (nI k) x2) (fun q => q.1 = nI (gpS n (2 ^ nG n)) ∧ Inv q.2)
    unfold M_council
    rw [bnd_eq, e1, sb]
    show Okk (if nI 1 = (0 : Int32) then _ else _) _
    rw [if_neg (show ¬ nI 1 = (0 : Int32) from ne_nI (b := 0) (by omega) (by omega) (by omega)), if_pos hx2, q_grM e2 hw]
    exact ok_mk ⟨rfl, inv_fr I e3⟩
  · rw [if_neg hx2]
    refine okb (q_fewT CH' hw (by omega)) ?_
    rintro ⟨r1, r2⟩ ⟨g1, g2⟩
    dsimp only at g1 g2
    subst g1
    refine ok_mk ?_
    have t1 : Tl h r2 := tl_fr g2 (fun c i hc => by
      have hc' : c = 124 := hc
      omega)
    obtain ⟨h2, e1, e2, e3⟩ := hand r2 t1
    unfold M_council
    dsimp only
    rw [bnd_eq, e1, sb]
    dsimp only
    rw [if_neg (show ¬ nI 1 = (0 : Int32) from ne_nI (b := 0) (by omega) (by omega) (by omega)), if_neg hx2]
    refine okb (q_fewM e2 hw) ?_
    rintro ⟨p1, p2⟩ ⟨u1, u2⟩
    dsimp only at u1 u2
    subst u1
    refine ok_mk ⟨rfl, inv_fr I (tl_tr e3 (tl_fr u2 (fun c i hc => by
      have hc' : c = 278 := hc
      omega)))⟩
