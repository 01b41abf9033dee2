/-! ===== L3: the law ===== -/
theorem law_go {sc : Sc} {p : Nat} {h : Hp} (hL : sc.2 < 2 ^ 30) (hp : p + 8 ≤ sc.2) (I : Inv h) : Okk (W_law_b18 sc (nI p) h) (Sum.elim (fun s' : Int32 × Hp => s'.1 = nI (p + 8) ∧ Inv s'.2) (fun r => r.1 = 1)) := by
  have i1 : inb (nI p + (1 : Int32)) sc.2 := by rw [show nI p + (1 : Int32) = nI (p + 1) from nI_add _ _]; exact nI_in (by omega) (by omega)
  have i2 : inb (nI p + (2 : Int32)) sc.2 := by rw [show nI p + (2 : Int32) = nI (p + 2) from nI_add _ _]; exact nI_in (by omega) (by omega)
  have i3 : inb (nI p + (3 : Int32)) sc.2 := by rw [show nI p + (3 : Int32) = nI (p + 3) from nI_add _ _]; exact nI_in (by omega) (by omega)
  have i4 : inb (nI p + (4 : Int32)) sc.2 := by rw [show nI p + (4 : Int32) = nI (p + 4) from nI_add _ _]; exact nI_in (by omega) (by omega)
  have i5 : inb (nI p + (5 : Int32)) sc.2 := by rw [show nI p + (5 : Int32) = nI (p + 5) from nI_add _ _]; exact nI_in (by omega) (by omega)
  have i6 : inb (nI p + (6 : Int32)) sc.2 := by rw [show nI p + (6 : Int32) = nI (p + 6) from nI_add _ _]; exact nI_in (by omega) (by omega)
  have i7 : inb (nI p + (7 : Int32)) sc.2 := by rw [show nI p + (7 : Int32) = nI (p + 7) from nI_add _ _]; exact nI_in (by omega) (by omega)
  have i0 : inb (nI p) sc.2 := nI_in (by omega) (by omega)
  have next : ∀ h', Inv h' → Okk (W_law_j1643 sc (nI p) h') (Sum.elim (fun s' : Int32 × Hp => s'.1 = nI (p + 8) ∧ Inv s'.2) (fun r => r.1 = 1)) := fun h' I' => by
    unfold W_law_j1643
    rw [bnd_eq]
    exact ok_mk ⟨nI_add _ _, I'⟩
  have w : ¬ Int32.ofNat sc.2 - (8 : Int32) < nI p := fun e => by
    have e1 : Int32.ofNat sc.2 - (8 : Int32) = nI (sc.2 - 8) := pk_sub (a := sc.2) (b := 8) (by omega)
    rw [e1, i_lt, nI_toInt (by omega), nI_toInt (by omega)] at e
    omega
  unfold W_law_b18
  rw [if_neg w, if_pos i0]
  generalize (sc.1 (Int32.toNatClampNeg (nI p)) &&& (31 : Int32)) = q
  generalize ea1 : sc.1 (Int32.toNatClampNeg (nI p + (1 : Int32))) = a1
  generalize ea2 : sc.1 (Int32.toNatClampNeg (nI p + (2 : Int32))) = a2
  generalize ea3 : sc.1 (Int32.toNatClampNeg (nI p + (3 : Int32))) = a3
  generalize ea4 : sc.1 (Int32.toNatClampNeg (nI p + (4 : Int32))) = a4
  generalize ea5 : sc.1 (Int32.toNatClampNeg (nI p + (5 : Int32))) = a5
  generalize ea6 : sc.1 (Int32.toNatClampNeg (nI p + (6 : Int32))) = a6
  generalize ea7 : sc.1 (Int32.toNatClampNeg (nI p + (7 : Int32))) = a7
  by_cases c0 : q = (0 : Int32)
  · rw [if_pos c0]
    rw [if_pos i1, if_pos i2, if_pos i3, if_pos i4, if_pos i5]
    refine okb (t_feed I a1 a2 a3 a4 a5) ?_
    rintro ⟨r1, h1⟩ H
    dsimp only at H ⊢
    rw [if_pos i1, if_pos i2, if_pos i3, if_pos i4, if_pos i5]
    refine okb H ?_
    rintro ⟨r2, h2⟩ ⟨e, I2⟩
    dsimp only at e I2 ⊢
    rw [if_pos e.symm]
    exact next h2 I2
  rw [if_neg c0]
  by_cases c1 : q = (1 : Int32)
  · rw [if_pos c1]
    rw [if_pos i1]
    refine okb (t_end I a1) ?_
    rintro ⟨r1, h1⟩ H
    dsimp only at H ⊢
    rw [if_pos i1]
    refine okb H ?_
    rintro ⟨r2, h2⟩ ⟨e, I2⟩
    dsimp only at e I2 ⊢
    rw [if_pos e.symm]
    exact next h2 I2
  rw [if_neg c1]
  by_cases c2 : q = (2 : Int32)
  · rw [if_pos c2]
    rw [if_pos i1, if_pos i2]
    refine okb (t_text I a1 a2) ?_
    rintro ⟨r1, h1⟩ H
    dsimp only at H ⊢
    rw [if_pos i1, if_pos i2]
    refine okb H ?_
    rintro ⟨r2, h2⟩ ⟨e, I2⟩
    dsimp only at e I2 ⊢
    rw [if_pos e.symm]
    exact next h2 I2
  rw [if_neg c2]
  by_cases c3 : q = (3 : Int32)
  · rw [if_pos c3]
    rw [if_pos i1]
    refine okb (t_fault I a1) ?_
    rintro r1 H
    rw [if_pos i1]
    refine okb H ?_
    rintro ⟨r2, h2⟩ ⟨e, I2⟩
    dsimp only at e I2 ⊢
    rw [if_pos e.symm]
    exact next h2 I2
  rw [if_neg c3]
  by_cases c4 : q = (4 : Int32)
  · rw [if_pos c4]
    rw [if_pos i1, if_pos i2]
    refine okb (t_inn I a1 a2) ?_
    rintro r1 H
    rw [if_pos i1, if_pos i2]
    refine okb H ?_
    rintro ⟨r2, h2⟩ ⟨e, I2⟩
    dsimp only at e I2 ⊢
    rw [if_pos e.symm]
    exact next h2 I2
  rw [if_neg c4]
  by_cases c5 : q = (5 : Int32)
  · rw [if_pos c5]
    rw [if_pos i1, if_pos i2, if_pos i3]
    refine okb (t_deed I a1 a2 a3) ?_
    rintro r1 H
    rw [if_pos i1, if_pos i2, if_pos i3]
    refine okb H ?_
    rintro ⟨r2, h2⟩ ⟨e, I2⟩
    dsimp only at e I2 ⊢
    rw [if_pos e.symm]
    exact next h2 I2
  rw [if_neg c5]
  by_cases c6 : q = (6 : Int32)
  · rw [if_pos c6]
    rw [if_pos i1, if_pos i2]
    refine okb (t_stop I a1 a2) ?_
    rintro ⟨r1, h1⟩ H
    dsimp only at H ⊢
    rw [if_pos i1, if_pos i2]
    refine okb H ?_
    rintro ⟨r2, h2⟩ ⟨e, I2⟩
    dsimp only at e I2 ⊢
    rw [if_pos e.symm]
    exact next h2 I2
  rw [if_neg c6]
  by_cases c7 : q = (7 : Int32)
  · rw [if_pos c7]
    rw [if_pos i1, if_pos i2, if_pos i3, if_pos i4]
    refine okb (t_state I a1 a2 a3 a4) ?_
    rintro ⟨r1, h1⟩ H
    dsimp only at H ⊢
    rw [if_pos i1, if_pos i2, if_pos i3, if_pos i4]
    refine okb H ?_
    rintro ⟨r2, h2⟩ ⟨e, I2⟩
    dsimp only at e I2 ⊢
    rw [if_pos e.symm]
    exact next h2 I2
  rw [if_neg c7]
  by_cases c8 : q = (8 : Int32)
  · rw [if_pos c8]
    rw [if_pos i1, if_pos i2, if_pos i3, if_pos i4, if_pos i5]
    refine okb (t_guest I a1 a2 a3 a4 a5) ?_
    rintro ⟨r1, h1⟩ H
    dsimp only at H ⊢
    rw [if_pos i1, if_pos i2, if_pos i3, if_pos i4, if_pos i5]
    refine okb H ?_
    rintro ⟨r2, h2⟩ ⟨e, I2⟩
    dsimp only at e I2 ⊢
    rw [if_pos e.symm]
    exact next h2 I2
  rw [if_neg c8]
  by_cases c9 : q = (9 : Int32)
  · rw [if_pos c9]
    rw [if_pos i1, if_pos i2, if_pos i3, if_pos i4, if_pos i5, if_pos i6]
    refine okb (t_past I a1 a2 a3 a4 a5 a6) ?_
    rintro ⟨r1, h1⟩ H
    dsimp only at H ⊢
    rw [if_pos i1, if_pos i2, if_pos i3, if_pos i4, if_pos i5, if_pos i6]
    refine okb H ?_
    rintro ⟨r2, h2⟩ ⟨e, I2⟩
    dsimp only at e I2 ⊢
    rw [if_pos e.symm]
    exact next h2 I2
  rw [if_neg c9]
  by_cases c10 : q = (10 : Int32)
  · rw [if_pos c10]
    rw [if_pos i1, if_pos i2, if_pos i3]
    refine okb (t_wish I a1 a2 a3) ?_
    rintro r1 H
    rw [if_pos i1, if_pos i2, if_pos i3]
    refine okb H ?_
    rintro ⟨r2, h2⟩ ⟨e, I2⟩
    dsimp only at e I2 ⊢
    rw [if_pos e.symm]
    exact next h2 I2
  rw [if_neg c10]
  by_cases c11 : q = (11 : Int32)
  · rw [if_pos c11]
    rw [if_pos i1, if_pos i2, if_pos i3, if_pos i4, if_pos i5]
    refine okb (t_seats I a1 a2 a3 a4 a5) ?_
    rintro ⟨r1, h1⟩ H
    dsimp only at H ⊢
    rw [if_pos i1, if_pos i2, if_pos i3, if_pos i4, if_pos i5]
    refine okb H ?_
    rintro ⟨r2, h2⟩ ⟨e, I2⟩
    dsimp only at e I2 ⊢
    rw [if_pos e.symm]
    exact next h2 I2
  rw [if_neg c11]
  by_cases c12 : q = (12 : Int32)
  · rw [if_pos c12]
    rw [if_pos i1, if_pos i2, if_pos i3, if_pos i4, if_pos i5, if_pos i6]
    refine okb (t_comes I a1 a2 a3 a4 a5 a6) ?_
    rintro ⟨r1, h1⟩ H
    dsimp only at H ⊢
    rw [if_pos i1, if_pos i2, if_pos i3, if_pos i4, if_pos i5, if_pos i6]
    refine okb H ?_
    rintro ⟨r2, h2⟩ ⟨e, I2⟩
    dsimp only at e I2 ⊢
    rw [if_pos e.symm]
    exact next h2 I2
  rw [if_neg c12]
  by_cases c13 : q = (13 : Int32)
  · rw [if_pos c13]
    rw [if_pos i1, if_pos i2, if_pos i3, if_pos i4, if_pos i5]
    refine okb (t_cuts I a1 a2 a3 a4 a5) ?_
    rintro ⟨r1, h1⟩ H
    dsimp only at H ⊢
    rw [if_pos i1, if_pos i2, if_pos i3, if_pos i4, if_pos i5]
    refine okb H ?_
    rintro ⟨r2, h2⟩ ⟨e, I2⟩
    dsimp only at e I2 ⊢
    rw [if_pos e.symm]
    exact next h2 I2
  rw [if_neg c13]
  by_cases c14 : q = (14 : Int32)
  · rw [if_pos c14]
    rw [if_pos i1, if_pos i2]
    refine okb (t_heard I a1 a2) ?_
    rintro r1 H
    rw [if_pos i1, if_pos i2]
    refine okb H ?_
    rintro ⟨r2, h2⟩ ⟨e, I2⟩
    dsimp only at e I2 ⊢
    rw [if_pos e.symm]
    exact next h2 I2
  rw [if_neg c14]
  by_cases c15 : q = (15 : Int32)
  · rw [if_pos c15]
    rw [if_pos i1, if_pos i2, if_pos i3, if_pos i4]
    refine okb (t_fits I a1 a2 a3 a4) ?_
    rintro ⟨r1, h1⟩ H
    dsimp only at H ⊢
    rw [if_pos i1, if_pos i2, if_pos i3, if_pos i4]
    refine okb H ?_
    rintro ⟨r2, h2⟩ ⟨e, I2⟩
    dsimp only at e I2 ⊢
    rw [if_pos e.symm]
    exact next h2 I2
  rw [if_neg c15]
  by_cases c16 : q = (16 : Int32)
  · rw [if_pos c16]
    rw [if_pos i1, if_pos i2, if_pos i3, if_pos i4, if_pos i5, if_pos i6, if_pos i7]
    refine okb (t_gain I a1 a2 a3 a4 a5 a6 a7) ?_
    rintro ⟨r1, h1⟩ H
    dsimp only at H ⊢
    rw [if_pos i1, if_pos i2, if_pos i3, if_pos i4, if_pos i5, if_pos i6, if_pos i7]
    refine okb H ?_
    rintro ⟨r2, h2⟩ ⟨e, I2⟩
    dsimp only at e I2 ⊢
    rw [if_pos e.symm]
    exact next h2 I2
  rw [if_neg c16]
  by_cases c17 : q = (17 : Int32)
  · rw [if_pos c17]
    rw [if_pos i1, if_pos i2, if_pos i3, if_pos i4, if_pos i5, if_pos i6]
    refine okb (t_rest I a1 a2 a3 a4 a5 a6) ?_
    rintro ⟨r1, h1⟩ H
    dsimp only at H ⊢
    rw [if_pos i1, if_pos i2, if_pos i3, if_pos i4, if_pos i5, if_pos i6]
    refine okb H ?_
    rintro ⟨r2, h2⟩ ⟨e, I2⟩
    dsimp only at e I2 ⊢
    rw [if_pos e.symm]
    exact next h2 I2
  rw [if_neg c17]
  by_cases c18 : q = (18 : Int32)
  · rw [if_pos c18]
    rw [if_pos i1, if_pos i2, if_pos i3, if_pos i4, if_pos i5]
    by_cases z : a5 = 0
    · rw [if_pos z]
      unfold W_law_j1132 W_law_j1169
      refine okb (t_whisper I a1 a2 a3 a4 (0 : Int32)) ?_
      rintro ⟨r1, h1⟩ H
      dsimp only at H ⊢
      rw [if_pos i1, if_pos i2, if_pos i3, if_pos i4, if_pos i5, ea1, ea2, ea3, ea4, ea5, if_pos z]
      refine okb H ?_
      rintro ⟨r2, h2⟩ ⟨e, I2⟩
      dsimp only at e I2 ⊢
      rw [if_pos e.symm]
      exact next h2 I2
    · rw [if_neg z]
      unfold W_law_j1132 W_law_j1169
      refine okb (t_whisper I a1 a2 a3 a4 (1 : Int32)) ?_
      rintro ⟨r1, h1⟩ H
      dsimp only at H ⊢
      rw [if_pos i1, if_pos i2, if_pos i3, if_pos i4, if_pos i5, ea1, ea2, ea3, ea4, ea5, if_neg z]
      refine okb H ?_
      rintro ⟨r2, h2⟩ ⟨e, I2⟩
      dsimp only at e I2 ⊢
      rw [if_pos e.symm]
      exact next h2 I2
  rw [if_neg c18]
  by_cases c19 : q = (19 : Int32)
  · rw [if_pos c19]
    rw [if_pos i1, if_pos i2]
    by_cases z : a2 = 0
    · rw [if_pos z]
      unfold W_law_j1196 W_law_j1218
      refine okb (t_council I a1 (0 : Int32)) ?_
      rintro ⟨r1, h1⟩ H
      dsimp only at H ⊢
      rw [if_pos i1, if_pos i2, ea1, ea2, if_pos z]
      refine okb H ?_
      rintro ⟨r2, h2⟩ ⟨e, I2⟩
      dsimp only at e I2 ⊢
      rw [if_pos e.symm]
      exact next h2 I2
    · rw [if_neg z]
      unfold W_law_j1196 W_law_j1218
      refine okb (t_council I a1 (1 : Int32)) ?_
      rintro ⟨r1, h1⟩ H
      dsimp only at H ⊢
      rw [if_pos i1, if_pos i2, ea1, ea2, if_neg z]
      refine okb H ?_
      rintro ⟨r2, h2⟩ ⟨e, I2⟩
      dsimp only at e I2 ⊢
      rw [if_pos e.symm]
      exact next h2 I2
  rw [if_neg c19]
  by_cases c20 : q = (20 : Int32)
  · rw [if_pos c20]
    rw [if_pos i1, if_pos i2, if_pos i3, if_pos i4]
    refine okb (t_drawn I a1 a2 a3 a4) ?_
    rintro ⟨r1, h1⟩ H
    dsimp only at H ⊢
    rw [if_pos i1, if_pos i2, if_pos i3, if_pos i4]
    refine okb H ?_
    rintro ⟨r2, h2⟩ ⟨e, I2⟩
    dsimp only at e I2 ⊢
    rw [if_pos e.symm]
    exact next h2 I2
  rw [if_neg c20]
  by_cases c21 : q = (21 : Int32)
  · rw [if_pos c21]
    rw [if_pos i1, if_pos i2, if_pos i3, if_pos i4, if_pos i5]
    refine okb (t_met I a1 a2 a3 a4 a5) ?_
    rintro ⟨r1, h1⟩ H
    dsimp only at H ⊢
    rw [if_pos i1, if_pos i2, if_pos i3, if_pos i4, if_pos i5]
    refine okb H ?_
    rintro ⟨r2, h2⟩ ⟨e, I2⟩
    dsimp only at e I2 ⊢
    rw [if_pos e.symm]
    exact next h2 I2
  rw [if_neg c21]
  by_cases c22 : q = (22 : Int32)
  · rw [if_pos c22]
    rw [if_pos i1, if_pos i2, if_pos i3, if_pos i4]
    refine okb (t_ghosts I a1 a2 a3 a4) ?_
    rintro ⟨r1, h1⟩ H
    dsimp only at H ⊢
    rw [if_pos i1, if_pos i2, if_pos i3, if_pos i4]
    refine okb H ?_
    rintro ⟨r2, h2⟩ ⟨e, I2⟩
    dsimp only at e I2 ⊢
    rw [if_pos e.symm]
    exact next h2 I2
  rw [if_neg c22]
  by_cases c23 : q = (23 : Int32)
  · rw [if_pos c23]
    rw [if_pos i1, if_pos i2, if_pos i3, if_pos i4, if_pos i5]
    refine okb (t_forgets I a1 a2 a3 a4 a5) ?_
    rintro ⟨r1, h1⟩ H
    dsimp only at H ⊢
    rw [if_pos i1, if_pos i2, if_pos i3, if_pos i4, if_pos i5]
    refine okb H ?_
    rintro ⟨r2, h2⟩ ⟨e, I2⟩
    dsimp only at e I2 ⊢
    rw [if_pos e.symm]
    exact next h2 I2
  rw [if_neg c23]
  by_cases c24 : q = (24 : Int32)
  · rw [if_pos c24]
    rw [if_pos i1, if_pos i2, if_pos i3, if_pos i4, if_pos i5]
    refine okb (t_spy I a1 a2 a3 a4 a5) ?_
    rintro ⟨r1, h1⟩ H
    dsimp only at H ⊢
    rw [if_pos i1, if_pos i2, if_pos i3, if_pos i4, if_pos i5]
    refine okb H ?_
    rintro ⟨r2, h2⟩ ⟨e, I2⟩
    dsimp only at e I2 ⊢
    rw [if_pos e.symm]
    exact next h2 I2
  rw [if_neg c24]
  by_cases c25 : q = (25 : Int32)
  · rw [if_pos c25]
    rw [if_pos i1, if_pos i2, if_pos i3, if_pos i4]
    refine okb (t_weddings I a1 a2 a3 a4) ?_
    rintro ⟨r1, h1⟩ H
    dsimp only at H ⊢
    rw [if_pos i1, if_pos i2, if_pos i3, if_pos i4]
    refine okb H ?_
    rintro ⟨r2, h2⟩ ⟨e, I2⟩
    dsimp only at e I2 ⊢
    rw [if_pos e.symm]
    exact next h2 I2
  rw [if_neg c25]
  by_cases c26 : q = (26 : Int32)
  · rw [if_pos c26]
    rw [if_pos i1]
    refine okb (t_count I a1) ?_
    rintro r1 H
    rw [if_pos i1]
    refine okb H ?_
    rintro ⟨r2, h2⟩ ⟨e, I2⟩
    dsimp only at e I2 ⊢
    rw [if_pos e.symm]
    exact next h2 I2
  rw [if_neg c26]
  by_cases c27 : q = (27 : Int32)
  · rw [if_pos c27]
    rw [if_pos i1]
    refine okb (t_image I a1) ?_
    rintro ⟨r1, h1⟩ H
    dsimp only at H ⊢
    rw [if_pos i1]
    refine okb H ?_
    rintro ⟨r2, h2⟩ ⟨e, I2⟩
    dsimp only at e I2 ⊢
    rw [if_pos e.symm]
    exact next h2 I2
  rw [if_neg c27]
  by_cases c28 : q = (28 : Int32)
  · rw [if_pos c28]
    rw [if_pos i1]
    refine okb (t_again I a1) ?_
    rintro ⟨r1, h1⟩ H
    dsimp only at H ⊢
    rw [if_pos i1]
    refine okb H ?_
    rintro ⟨r2, h2⟩ ⟨e, I2⟩
    dsimp only at e I2 ⊢
    rw [if_pos e.symm]
    exact next h2 I2
  rw [if_neg c28]
  exact next h I
theorem law_all {sc : Sc} {h : Hp} (hL : sc.2 < 2 ^ 30) (I : Inv h) : Okk (W_law sc h) (fun r => r.1 = 1) := by
  unfold W_law W_law_l18
  refine lp_ms _ (fun s => sc.2 + 8 - s.1.toNatClampNeg) (fun s => ∃ p, s.1 = nI p ∧ p ≤ sc.2 + 8 ∧ Inv s.2) _ ?_ _ ⟨0, rfl, by omega, I⟩
  rintro ⟨s1, s2⟩ ⟨p, e, hp, I2⟩
  dsimp only at e I2 ⊢
  subst e
  by_cases c : p + 8 ≤ sc.2
  · refine okw (law_go hL c I2) ?_
    rintro (⟨s', h'⟩ | r) H
    · obtain ⟨e1, e2⟩ := H
      dsimp only at e1 e2
      subst e1
      refine ⟨⟨p + 8, rfl, by omega, e2⟩, ?_⟩
      show sc.2 + 8 - (nI (p + 8)).toNatClampNeg < sc.2 + 8 - (nI p).toNatClampNeg
      rw [nI_clamp (show p + 8 < 2 ^ 31 by omega), nI_clamp (show p < 2 ^ 31 by omega)]
      omega
    · exact H
  · unfold W_law_b18 W_law_j1649
    have w : Int32.ofNat sc.2 - (8 : Int32) < nI p := by
      have e := pk_sub_toInt (a := sc.2) (b := 8) (by omega) (by omega)
      have e2 : (Int32.ofNat sc.2 - (8 : Int32)).toInt = (sc.2 : Int) - (8 : Nat) := e
      rw [i_lt, e2, nI_toInt (by omega)]
      omega
    rw [if_pos w]
    exact okmr (ok_mk rfl)
