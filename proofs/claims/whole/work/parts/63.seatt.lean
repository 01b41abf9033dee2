/-! ===== L3: seatings asked ===== -/
/-- the best so far, as the model keeps it -/
def bSS (q : Nat × Nat × Nat × Nat) (x7 x8 x9 x10 : Int32) : Prop := x7 = nI q.1 ∧ (q.1 = 0 → x8 = jN 1 ∧ x9 = nI 1000000 ∧ x10 = nI 1000000) ∧ (0 < q.1 → x8 = nI q.2.1 ∧ x9 = nI q.2.2.1 ∧ x10 = nI q.2.2.2)
def seA (n : Inn) (q : Nat × Nat × Nat × Nat) (x5 : Int32) : Int32 := if x5 = nI 2 then nI q.1 else if q.1 = 0 then jN 1 else if x5 = nI 0 then nI q.2.2.1 else if x5 = nI 1 then nI q.2.2.2 else nI (spd (nT n) (nG n) q.2.1 (x5 - nI 10).toNatClampNeg)
theorem iz3 {x : Int32} (h : iz x 0 3 = true) : x = nI 0 ∨ x = nI 1 ∨ x = nI 2 := by
  obtain ⟨k, hk, -, rfl⟩ := iz_0 h
  rcases k with _ | _ | _ | k
  · exact Or.inl rfl
  · exact Or.inr (Or.inl rfl)
  · exact Or.inr (Or.inr rfl)
  · omega
theorem iz3n {x : Int32} (h : iz x 0 3 = false) : x ≠ nI 0 ∧ x ≠ nI 1 ∧ x ≠ nI 2 := by
  refine ⟨?_, ?_, ?_⟩
  all_goals
    rintro rfl
    exact absurd h (by decide +kernel)
theorem q_sstep {h z : Hp} {n : Inn} {s : St} {f : Nat → Pst} {m k r N : Nat} {x5 z7 z8 z9 z10 : Int32} (hw : wI n) (hG : nG n ≤ 6) (X : MX h n) (C : MS h s) (W : wS n s) (E : MW h k m f) (he : h.1 251 43 = nI k) (D : ∀ j, j < m → wW (f j)) (hT1 : 1 ≤ nT n) (hr : r < N) (hN : N ≤ 15625) (B : bSS (seS n s f m r) z7 z8 z9 z10) (F : Fr pSm h z) : Okk (M_seats_b118 x5 (nI N) z7 z8 z9 z10 (nI r) z) (Sum.elim (fun y => bSS (seS n s f m (r + 1)) y.1 y.2.1 y.2.2.1 y.2.2.2.1 ∧ y.2.2.2.2.1 = nI (r + 1) ∧ Fr pSm h y.2.2.2.2.2) (fun q => False)) := by
  obtain ⟨X2, C2⟩ := psm_x F X C
  have hT := hw.1
  unfold M_seats_b118 M_seats_j177 M_seats_j189
  rw [if_neg (show ¬ nI N ≤ nI r from fun e => by rw [i_le, nI_toInt (by omega), nI_toInt (by omega)] at e; omega)]
  refine okb (q_lay X2 hw hT1 (show r < 2 ^ 30 by omega)) ?_
  rintro ⟨r10, h11⟩ ⟨q1, q4, q5, F1⟩
  dsimp only at q1 q4 q5 F1
  have F2 := fr_tr F F1
  obtain ⟨X3, C3⟩ := psm_x F2 X C
  have A : Sat n s f m k (spd (nT n) (nG n) r) h11 := ⟨X3, C3, mw_tl E (tl_psm F2), by rw [F2 251 43 (by show ¬ (251 = 274 ∨ 251 = 275); omega), he], q4, q5⟩
  have hp : ∀ g, g < nG n → spd (nT n) (nG n) r g < nT n := fun g _ => spd_lt hT1 _ _ _
  have eF : sFi n s f m r = (alB (fun t => decide (pc (dS (spd (nT n) (nG n) r) t (nG n)) ≤ nS n t)) (nT n) && alB (isF n s f (spd (nT n) (nG n) r)) m) := seat_ok (s := s) hw hG D hp
  generalize alB (fun t => decide (pc (dS (spd (nT n) (nG n) r) t (nG n)) ≤ nS n t)) (nT n) = cap at q1 eF
  have eS : seS n s f m (r + 1) = if sFi n s f m r = true then (if (seS n s f m r).1 = 0 ∨ sHm n s r < (seS n s f m r).2.2.1 ∨ (sHm n s r = (seS n s f m r).2.2.1 ∧ sPd n s r < (seS n s f m r).2.2.2) then ((seS n s f m r).1 + 1, r, sHm n s r, sPd n s r) else ((seS n s f m r).1 + 1, (seS n s f m r).2)) else seS n s f m r := rfl
  have hH := sHm_le n s hG r
  have hP := sPd_le hw s hG hT1 r
  have hin := sS_in (fi := sFi n s f m) (hm := sHm n s) (pd := sPd n s) (sHm_le n s hG) r (fun i _ => sPd_le hw s hG hT1 i)
  have e1 : nI r + (1 : Int32) = nI (r + 1) := nI_add _ _
  subst q1
  dsimp only
  simp only [bnd_eq]
  rw [bI_it0, e1]
  have skip : sFi n s f m r = false → bSS (seS n s f m (r + 1)) z7 z8 z9 z10 := fun e => by
    rw [eS, e, if_neg (by decide)]
    exact B
  cases cap
  case false =>
    rw [if_neg (by decide)]
    exact ok_mk ⟨skip (by rw [eF, Bool.false_and]), rfl, F2⟩
  rw [if_pos rfl, q_areFul hw W A hp D, sb, bI_it0]
  rw [Bool.true_and] at eF
  rw [← eF]
  cases ok : sFi n s f m r
  case false =>
    rw [if_neg (by decide)]
    exact ok_mk ⟨skip ok, rfl, F2⟩
  rw [ok, if_pos rfl] at eS
  rw [if_pos rfl, q_mharm hw W A, sb, q_mpays hw W A, sb, harm_eq hw s (nG n) (by omega) hp, pay_eq hw s (nG n) (by omega) hp]
  show Okk (if nI (sHm n s r) < z9 then some (Sum.inl (z7 + (1 : Int32), nI r, nI (sHm n s r), nI (sPd n s r), nI (r + 1), h11)) else if nI (sHm n s r) = z9 then (if z10 ≤ nI (sPd n s r) then some (Sum.inl (z7 + (1 : Int32), z8, z9, z10, nI (r + 1), h11)) else some (Sum.inl (z7 + (1 : Int32), nI r, nI (sHm n s r), nI (sPd n s r), nI (r + 1), h11))) else some (Sum.inl (z7 + (1 : Int32), z8, z9, z10, nI (r + 1), h11))) _
  obtain ⟨b7, b0, b1⟩ := B
  change (seS n s f m r).1 ≤ r ∧ (seS n s f m r).2.1 ≤ r ∧ (0 < (seS n s f m r).1 → (seS n s f m r).2.1 < r) ∧ (seS n s f m r).2.2.1 ≤ 120 ∧ (seS n s f m r).2.2.2 ≤ 594 at hin
  generalize seS n s f m r = q at *
  have b7' : z7 + (1 : Int32) = nI (q.1 + 1) := by rw [b7]; exact nI_add _ _
  have take : (q.1 = 0 ∨ sHm n s r < q.2.2.1 ∨ (sHm n s r = q.2.2.1 ∧ sPd n s r < q.2.2.2)) → bSS (seS n s f m (r + 1)) (z7 + (1 : Int32)) (nI r) (nI (sHm n s r)) (nI (sPd n s r)) := fun c => by
    rw [eS, if_pos c]
    exact ⟨b7', fun c => absurd c (Nat.succ_ne_zero _), fun _ => ⟨rfl, rfl, rfl⟩⟩
  have keep : ¬ (q.1 = 0 ∨ sHm n s r < q.2.2.1 ∨ (sHm n s r = q.2.2.1 ∧ sPd n s r < q.2.2.2)) → bSS (seS n s f m (r + 1)) (z7 + (1 : Int32)) z8 z9 z10 := fun c => by
    rw [eS, if_neg c]
    exact ⟨b7', fun c => absurd c (Nat.succ_ne_zero _), fun _ => b1 (by omega)⟩
  by_cases c1 : q.1 = 0
  · obtain ⟨y8, y9, y10⟩ := b0 c1
    rw [if_pos (show nI (sHm n s r) < z9 by rw [y9, i_lt, nI_toInt (by omega), nI_toInt (by omega)]; omega)]
    exact ok_mk ⟨take (Or.inl c1), rfl, F2⟩
  obtain ⟨y8, y9, y10⟩ := b1 (by omega)
  by_cases c2 : sHm n s r < q.2.2.1
  · rw [if_pos (show nI (sHm n s r) < z9 by rw [y9, i_lt, nI_toInt (by omega), nI_toInt (by omega)]; omega)]
    exact ok_mk ⟨take (Or.inr (Or.inl c2)), rfl, F2⟩
  rw [if_neg (show ¬ nI (sHm n s r) < z9 from fun e => by rw [y9, i_lt, nI_toInt (by omega), nI_toInt (by omega)] at e; omega)]
  by_cases c3 : sHm n s r = q.2.2.1
  · rw [if_pos (show nI (sHm n s r) = z9 by rw [y9, c3])]
    by_cases c4 : sPd n s r < q.2.2.2
    · rw [if_neg (show ¬ z10 ≤ nI (sPd n s r) from fun e => by rw [y10, i_le, nI_toInt (by omega), nI_toInt (by omega)] at e; omega)]
      exact ok_mk ⟨take (Or.inr (Or.inr ⟨c3, c4⟩)), rfl, F2⟩
    · rw [if_pos (show z10 ≤ nI (sPd n s r) by rw [y10, i_le, nI_toInt (by omega), nI_toInt (by omega)]; omega)]
      exact ok_mk ⟨keep (by omega), rfl, F2⟩
  · rw [if_neg (show ¬ nI (sHm n s r) = z9 from fun e => c3 ((nI_eq (by omega) (by omega)).mp (e.trans y9)))]
    exact ok_mk ⟨keep (by omega), rfl, F2⟩
theorem q_mj195 {h z : Hp} {n : Inn} {q : Nat × Nat × Nat × Nat} {x5 z7 z8 z9 z10 : Int32} (hw : wI n) (X : MX z n) (hT1 : 0 < q.1 → 1 ≤ nT n) (hq : q.2.1 < 2 ^ 30) (B : bSS q z7 z8 z9 z10) (hx : iz x5 0 3 = true ∨ iz x5 10 (nG n) = true) : Okk (M_seats_j195 x5 z7 z8 z9 z10 z) (fun r => r.1 = seA n q x5 ∧ Tl z r.2) := by
  obtain ⟨b7, b0, b1⟩ := B
  have hG8 := hw.2.2.1
  have l4 : ln 274 = 8 := lnm.2.2.2.2.2.2.2.2.2.2.2.2.2.2.2.2.2.2.2.2.2.2.1
  unfold M_seats_j195 seA
  by_cases c2 : x5 = nI 2
  · rw [if_pos (show x5 = (2 : Int32) from c2), if_pos c2]
    exact ok_mk ⟨b7, tl_rfl⟩
  rw [if_neg (show ¬ x5 = (2 : Int32) from c2), if_neg c2]
  by_cases c0 : q.1 = 0
  · rw [if_pos (show z8 = (-1 : Int32) from (b0 c0).1), if_pos c0]
    exact ok_mk ⟨rfl, tl_rfl⟩
  obtain ⟨y8, y9, y10⟩ := b1 (by omega)
  rw [if_neg (show ¬ z8 = (-1 : Int32) from fun e => by
    rw [y8] at e
    have e2 : nI q.2.1 = jN 1 := e
    rw [(NJ q.2.1 1 (by omega) (by omega)).2.2.2.2.1 (by omega)] at e2
    exact e2), if_neg c0, y8]
  refine okb (q_lay X hw (hT1 (by omega)) hq) ?_
  rintro ⟨r3, h4⟩ ⟨q1, q4, q5, F1⟩
  dsimp only at q1 q4 q5 F1 ⊢
  unfold M_seats_j250
  by_cases c3 : x5 = nI 0
  · rw [if_pos (show x5 = 0 from c3), if_pos c3]
    exact ok_mk ⟨y9, tl_psm F1⟩
  rw [if_neg (show ¬ x5 = 0 from c3), if_neg c3]
  by_cases c4 : x5 = nI 1
  · rw [if_pos (show x5 = (1 : Int32) from c4), if_pos c4]
    exact ok_mk ⟨y10, tl_psm F1⟩
  rw [if_neg (show ¬ x5 = (1 : Int32) from c4), if_neg c4]
  have hx2 : iz x5 10 (nG n) = true := by
    rcases hx with hx | hx
    · rcases iz3 hx with e | e | e
      · exact absurd e c3
      · exact absurd e c4
      · exact absurd e c2
    · exact hx
  obtain ⟨u, hu, -, rfl⟩ := iz_of hx2
  have eu : nI (10 + u) - nI 10 = nI u := (pk_sub (b := 10) (by omega)).trans (by rw [show 10 + u - 10 = u by omega])
  rw [show nI (10 + u) - (10 : Int32) = nI u from eu, eu, l4, if_pos (nI_in (show u < 8 by omega) (by omega)), nI_clamp (show u < 2 ^ 31 by omega), q4 u hu]
  exact ok_mk ⟨rfl, tl_psm F1⟩
theorem q_mseats {h : Hp} {n : Inn} {s : St} {f : Nat → Pst} {m k : Nat} {x5 : Int32} (hw : wI n) (hG : nG n ≤ 6) (X : MX h n) (C : MS h s) (W : wS n s) (E : MW h k m f) (he : h.1 251 43 = nI k) (D : ∀ j, j < m → wW (f j)) (hx : iz x5 0 3 = true ∨ iz x5 10 (nG n) = true) : Okk (M_seats_j69 x5 h) (fun r => r.1 = seA n (seS n s f m (nT n ^ nG n)) x5 ∧ Tl h r.2) := by
  have hT := hw.1
  have hp6 := pw6 hT hG
  have hG1 := hw.2.1
  unfold M_seats_j69 M_seats_l75
  refine lp_for _ (nG n) (fun i y => y = (nI (nT n ^ i), nI i)) _ ?_ ?_ 0 _ (by omega) rfl
  · rintro i y hi rfl
    unfold M_seats_b75
    dsimp only
    rw [(mx_g X).1, (mx_g X).2, if_neg (show ¬ nI (nG n) ≤ nI i from fun e => by rw [i_le, nI_toInt (by omega), nI_toInt (by omega)] at e; omega), bnd_eq, bnd_eq, pk_mul, show nI i + (1 : Int32) = nI (i + 1) from nI_add _ _, ← Nat.pow_succ]
    exact ok_mk rfl
  · rintro y rfl
    unfold M_seats_b75 M_seats_j99
    dsimp only
    rw [(mx_g X).2, if_pos (show nI (nG n) ≤ nI (nG n) by rw [i_le]; omega)]
    refine okmr ?_
    unfold M_seats_l118
    refine lp_for _ (nT n ^ nG n) (fun r z => bSS (seS n s f m r) z.1 z.2.1 z.2.2.1 z.2.2.2.1 ∧ z.2.2.2.2.1 = nI r ∧ Fr pSm h z.2.2.2.2.2) _ ?_ ?_ 0 _ (by omega) ⟨⟨rfl, fun _ => ⟨rfl, rfl, rfl⟩, fun c => absurd c (Nat.lt_irrefl 0)⟩, rfl, fr_rfl⟩
    · rintro r ⟨z7, z8, z9, z10, z11, z⟩ hr ⟨B, e11, F⟩
      dsimp only at B e11 F
      subst e11
      have hT1 : 1 ≤ nT n := by
        rcases Nat.eq_zero_or_pos (nT n) with c | c
        · rw [c, Nat.zero_pow (by omega)] at hr
          omega
        · exact c
      refine okw (q_sstep hw hG X C W E he D hT1 hr hp6 B F) ?_
      rintro (y | y) hy
      · exact hy
      · exact absurd hy id
    · rintro ⟨z7, z8, z9, z10, z11, z⟩ ⟨B, e11, F⟩
      dsimp only at B e11 F
      subst e11
      unfold M_seats_b118
      dsimp only
      rw [if_pos (show nI (nT n ^ nG n) ≤ nI (nT n ^ nG n) by rw [i_le]; omega)]
      refine okmr ?_
      have hin : (seS n s f m (nT n ^ nG n)).2.1 ≤ nT n ^ nG n ∧ (0 < (seS n s f m (nT n ^ nG n)).1 → 1 ≤ nT n) := by
        rcases Nat.eq_zero_or_pos (nT n) with c | c
        · rw [c, Nat.zero_pow (by omega)]
          exact ⟨Nat.le_refl _, fun c => absurd c (Nat.lt_irrefl 0)⟩
        · exact ⟨(sS_in (fi := sFi n s f m) (hm := sHm n s) (pd := sPd n s) (sHm_le n s hG) _ (fun i _ => sPd_le hw s hG c i)).2.1, fun _ => c⟩
      refine okw (q_mj195 (h := h) hw (psm_x F X C).1 hin.2 (by omega) B hx) ?_
      rintro r ⟨r1, r2⟩
      exact ⟨r1, tl_tr (tl_psm F) r2⟩
theorem q_kseats {h : Hp} {n : Inn} {q : Nat × Nat × Nat × Nat} {x5 : Int32} (hw : wI n) (hG : nG n ≤ 6) (X : CX h n) (S : cSS n h q) (A : ∃ a, a < 50 ∧ h.1 99 7 = nI a ∧ CH h a n) (hq1 : q.1 < 2 ^ 30) : (if x5 = (2 : Int32) then (some ((h.1 99 8), h)) else (if (h.1 99 8) = 0 then (some ((-1 : Int32), h)) else (if x5 = 0 then (some ((h.1 99 9), h)) else (if x5 = (1 : Int32) then (some ((h.1 99 10), h)) else (if kd (Int32.toNatClampNeg (h.1 57 6)) = 1 then ((K_isOf x5 (10 : Int32) (h.1 (Int32.toNatClampNeg (h.1 57 6)) 6)).bind fun r17 => if r17 = 0 then ((K_seats_j154 (-1 : Int32) h)) else ((G_bestTableOf h (x5 - (10 : Int32))).bind fun r19 => (K_seats_j154 r19 h))) else none))))) = some (if iz x5 0 3 = true ∨ iz x5 10 (nG n) = true then seA n q x5 else jN 1, h) := by
  obtain ⟨e8, e9⟩ := S
  obtain ⟨a, ha, h6, H, hk, h5, hg⟩ := cx_g X
  have l6 : ln 106 = 6 := ln99.2.2.2.2.2.2.1
  have i0 : iz (nI 0) 0 3 = true := by decide +kernel
  have i1 : iz (nI 1) 0 3 = true := by decide +kernel
  have i2 : iz (nI 2) 0 3 = true := by decide +kernel
  unfold seA
  rw [e8, h6, nI_clamp (show a < 2 ^ 31 by omega), if_pos hk, hg]
  by_cases c2 : x5 = nI 2
  · rw [if_pos (show x5 = (2 : Int32) from c2), if_pos (show iz x5 0 3 = true ∨ iz x5 10 (nG n) = true from Or.inl (by rw [c2]; exact i2)), if_pos c2]
  rw [if_neg (show ¬ x5 = (2 : Int32) from c2), if_neg c2]
  by_cases c0 : q.1 = 0
  · rw [if_pos (show nI q.1 = 0 by rw [c0]; rfl), if_pos c0]
    by_cases c : iz x5 0 3 = true ∨ iz x5 10 (nG n) = true
    · rw [if_pos c]; rfl
    · rw [if_neg c]; rfl
  obtain ⟨a1, a2, a3⟩ := e9 (by omega)
  rw [if_neg (show ¬ nI q.1 = 0 from ne_nI (b := 0) (by omega) (by omega) c0), if_neg c0, a1, a2]
  by_cases c3 : x5 = nI 0
  · rw [if_pos (show x5 = 0 from c3), if_pos (show iz x5 0 3 = true ∨ iz x5 10 (nG n) = true from Or.inl (by rw [c3]; exact i0)), if_pos c3]
  rw [if_neg (show ¬ x5 = 0 from c3), if_neg c3]
  by_cases c4 : x5 = nI 1
  · rw [if_pos (show x5 = (1 : Int32) from c4), if_pos (show iz x5 0 3 = true ∨ iz x5 10 (nG n) = true from Or.inl (by rw [c4]; exact i1)), if_pos c4]
  rw [if_neg (show ¬ x5 = (1 : Int32) from c4), if_neg c4, show K_isOf x5 (10 : Int32) (nI (nG n)) = some (bI (iz x5 10 (nG n))) from q_isOf x5 (a := 10) (by omega) (by omega), sb, bI_it0]
  unfold K_seats_j154
  by_cases c : iz x5 10 (nG n) = true
  · obtain ⟨u, hu, -, rfl⟩ := iz_of c
    obtain ⟨a', ha', e7, H'⟩ := A
    have eu : nI (10 + u) - nI 10 = nI u := (pk_sub (b := 10) (by omega)).trans (by rw [show 10 + u - 10 = u by omega])
    rw [if_pos c, if_pos (show iz (nI (10 + u)) 0 3 = true ∨ iz (nI (10 + u)) 10 (nG n) = true from Or.inr c), show nI (10 + u) - (10 : Int32) = nI u from eu, eu]
    unfold G_bestTableOf G_bestTableOf_j25
    rw [e8, if_neg (show ¬ nI q.1 ≤ 0 from fun e => by rw [i_le, nI_toInt (by omega)] at e; have : (0 : Int32).toInt = 0 := rfl; omega), q_isHere hw hG ha' e7 H' (show u < 10 by omega), sb, bI_it0, if_pos (decide_eq_true hu), l6, if_pos (nI_in (show u < 6 by omega) (by omega)), sb, nI_clamp (show u < 2 ^ 31 by omega), a3 u hu]
  · rw [if_neg c, if_neg (show ¬ (iz x5 0 3 = true ∨ iz x5 10 (nG n) = true) from fun e => by
      rcases e with e | e
      · rcases iz3 e with e | e | e
        · exact c3 e
        · exact c4 e
        · exact c2 e
      · exact c e)]
    rfl
theorem t_seats {h : Hp} (I : Inv h) (x1 x2 x3 x4 x5 : Int32) : Sm (K_seats h x1 x2 x3 x4 x5) (fun h1 => M_seats h1 x1 x2 x3 x4 x5) := by
  obtain ⟨len, c, z1, z2, z3, z4, z5, z6, h7, h8, h9, h10, -⟩ := I.1 0 (by omega)
  have cc := (h7 2 (by omega)).1
  have tW : ∀ h1, Tl h h1 → Tl h (wr (wr h1 251 0 0) 251 43 x4) := fun h1 t => tl_tr (tl_tr t w251) w251
  have mod : ∀ h1, Tl h h1 → M_hasWishes (wr h1 251 0 0) x4 = some (bI (iz x4 0 (c 2)), wr (wr h1 251 0 0) 251 43 x4) := fun h1 t => q_hasW (cls_fr h7 (tl_tr t w251)) x4
  have eL : ∀ h1, Tl h h1 → D_linesAt h1 2 (2 : Int32) x4 = some (if iz x4 0 (c 2) = true then 20 + 8 * 1 + 4 * x4.toNatClampNeg else 0) := fun h1 t => q_linesAt (cls_fr h7 t) 1 (by omega) x4
  -- no wishes
  have mno : iz x4 0 (c 2) = false → ∀ h1, Tl h h1 → Okk (M_seats h1 x1 x2 x3 x4 x5) (fun q => q.1 = (-1 : Int32) ∧ Inv q.2) := fun b h1 t => by
    unfold M_seats
    rw [bnd_eq, mod h1 t, sb]
    dsimp only
    rw [bI_it0, b, if_neg (by decide)]
    exact ok_mk ⟨rfl, inv_fr I (tW h1 t)⟩
  unfold K_seats
  rcases q_reach I x1 x2 x3 with ⟨a, b⟩ | ⟨n, s, hw, W, a, b⟩
  · refine okb a ?_
    rintro ⟨r1, r2⟩ ⟨g1, g2⟩
    dsimp only at g1 g2
    subst g1
    have t1 := tl_pbg g2
    dsimp only
    rw [eL r2 t1, sb, if_pos rfl]
    refine ok_mk ?_
    show Okk (M_seats r2 x1 x2 x3 x4 x5) (fun q => q.1 = (-1 : Int32) ∧ Inv q.2)
    cases d : iz x4 0 (c 2)
    · exact mno d r2 t1
    · unfold M_seats
      rw [bnd_eq, mod r2 t1, sb]
      dsimp only
      rw [bI_it0, d, if_pos rfl]
      refine okb (b _ (tW r2 t1)) ?_
      rintro ⟨p1, p2⟩ ⟨e1, e2⟩
      dsimp only at e1 e2
      subst e1
      dsimp only
      rw [if_pos (show nI 0 = 0 from rfl)]
      exact ok_mk ⟨rfl, inv_fr I (tl_tr (tW r2 t1) (tl_plm e2))⟩
  · refine okb a ?_
    rintro ⟨r1, r2⟩ ⟨g1, X, C, g4⟩
    dsimp only at g1 X C g4
    subst g1
    have t1 := tl_pbg g4
    have I2 : Inv r2 := inv_fr I t1
    dsimp only
    rw [eL r2 t1, sb, if_neg (show ¬ (57 : Nat) = 0 by omega)]
    cases d : iz x4 0 (c 2)
    case false =>
      rw [if_neg (show ¬ false = true by decide), if_pos rfl]
      refine ok_mk ?_
      exact mno d r2 t1
    obtain ⟨e, he, he2, rfl⟩ := iz_0 d
    obtain ⟨m, f, CLe, MWe, D⟩ := h10 e he
    have hm10 := MWe.2.1
    have CL' : CL r2 (28 + 4 * e) m f := by
      have e1 : tA 0 + 18 + 8 * 1 + 4 * e = 28 + 4 * e := by show 2 + 18 + 8 * 1 + 4 * e = _; omega
      rw [e1] at CLe
      exact cl_fr CLe (by omega) (fun c i hc => g4 c i (by show ¬ ((c = 57 ∧ 6 ≤ i ∧ i ≤ 9) ∨ (59 ≤ c ∧ c ≤ 62) ∨ (70 ≤ c ∧ c < 90)); omega))
    have MW' : MW h e m f := by
      rw [show 2 * 0 + e = e by omega] at MWe
      exact MWe
    obtain ⟨a', ha', h6, H, hk, h5, hg⟩ := cx_g X
    -- what the model does once the state is there
    have mst : ∀ (P : Int32), (∀ h2, MX h2 n → MS h2 s → MW h2 e m f → h2.1 251 43 = nI e → Okk (if seatAll s = 0 then (if (6 : Int32) < (h2.1 251 25) then ((M_seats_j67 h2)) else ((M_in x5 (0 : Int32) (2 : Int32)).bind fun r34 => if r34 = 0 then ((M_in x5 (10 : Int32) ((9 : Int32) + (h2.1 251 25))).bind fun r36 => if r36 = 0 then ((M_seats_j67 h2)) else ((M_seats_j69 x5 h2))) else ((M_seats_j69 x5 h2)))) else ((M_seats_j67 h2))) (fun q => q.1 = P ∧ Tl h2 q.2)) → ∀ h1, Tl h h1 → Okk (M_seats h1 x1 x2 x3 (nI e) x5) (fun q => q.1 = P ∧ Inv q.2) := by
      intro P hP h1 t
      unfold M_seats
      rw [bnd_eq, mod h1 t, sb]
      dsimp only
      rw [bI_it0, d, if_pos rfl]
      refine okb (b _ (tW h1 t)) ?_
      rintro ⟨p1, p2⟩ ⟨e1, X2, C2, e4, -⟩
      dsimp only at e1 X2 C2 e4
      subst e1
      dsimp only
      have t3 := tl_tr (tW h1 t) (tl_plm e4)
      rw [if_neg s1_0, q_mseat C2, sb]
      have e43 : p2.1 251 43 = nI e := by
        rw [e4 251 43 (by show ¬ ((251 = 251 ∧ (43 = 0 ∨ (23 ≤ 43 ∧ 43 ≤ 26))) ∨ ((251 = 251 ∧ 38 ≤ 43 ∧ 43 ≤ 40) ∨ (263 ≤ 251 ∧ 251 ≤ 273))); omega), wr_at]
      refine okw (hP p2 X2 C2 (mw_tl MW' t3) e43) ?_
      rintro q ⟨u1, u2⟩
      exact ⟨u1, inv_fr I (tl_tr t3 u2)⟩
    rw [if_pos rfl, nI_clamp he2, if_neg (show ¬ 20 + 8 * 1 + 4 * e = 0 by omega), if_pos rfl, q_seated C, sb]
    by_cases c1 : seatAll s = 0
    case neg =>
      rw [if_neg c1]
      refine ok_mk ?_
      refine mst (-1 : Int32) (fun h2 _ _ _ _ => ?_) r2 t1
      rw [if_neg c1]
      exact ok_mk ⟨rfl, tl_rfl⟩
    rw [if_pos c1, h6, nI_clamp (show a' < 2 ^ 31 by omega), if_pos hk, hg]
    have hG8 := hw.2.2.1
    by_cases c2 : nG n ≤ 6
    case neg =>
      rw [if_neg (show ¬ nI (nG n) ≤ (6 : Int32) from fun e => c2 ((nI_leI (b := 6) (by omega) (by omega)).mp e))]
      refine ok_mk ?_
      refine mst (-1 : Int32) (fun h2 X2 _ _ _ => ?_) r2 t1
      rw [if_pos c1, (mx_g X2).2, if_pos (show (6 : Int32) < nI (nG n) from (nI_ltI (a := 6) (by omega) (by omega)).mpr (by omega))]
      exact ok_mk ⟨rfl, tl_rfl⟩
    rw [if_pos (show nI (nG n) ≤ (6 : Int32) from (nI_leI (b := 6) (by omega) (by omega)).mpr c2), show 20 + 8 * 1 + 4 * e = 28 + 4 * e by omega]
    have hc2 := cc
    refine okb (q_gsearch X hw C W c2 (show 28 + 4 * e + 4 ≤ 57 by omega) CL' hm10 D) ?_
    rintro h11 ⟨S, A, F⟩
    have tF : Tl r2 h11 := tl_fr F (fun c i hc => by
      have hc' : 99 ≤ c ∧ c ≤ 106 := hc
      omega)
    have X11 : CX h11 n := (cs_se F X C).1
    have hp6 := pw6 hw.1 c2
    have hq1 : (seS n s f m (nT n ^ nG n)).1 ≤ nT n ^ nG n := by
      rcases Nat.eq_zero_or_pos (nT n) with c | c
      · rw [c, Nat.zero_pow (by have := hw.2.1; omega)]
        exact Nat.le_refl _
      · exact (sS_in (fi := sFi n s f m) (hm := sHm n s) (pd := sPd n s) (sHm_le n s c2) _ (fun i _ => sPd_le hw s c2 c i)).1
    rw [q_kseats hw c2 X11 S A (by omega)]
    refine ok_mk ?_
    refine mst _ (fun h2 X2 C2 E2 he2 => ?_) h11 (tl_tr t1 tF)
    rw [if_pos c1, (mx_g X2).2, if_neg (show ¬ (6 : Int32) < nI (nG n) from fun e => by have := (nI_ltI (a := 6) (by omega) (by omega)).mp e; omega), show M_in x5 (0 : Int32) (2 : Int32) = some (bI (iz x5 0 3)) from q_in x5 (a := 0) (b := 2) (by omega) (by omega), sb, bI_it0, show (9 : Int32) + nI (nG n) = nI (9 + nG n) from nI_add _ _, show M_in x5 (10 : Int32) (nI (9 + nG n)) = some (bI (iz x5 10 (nG n))) from (inT x5 (by omega)).1, sb, bI_it0]
    cases d1 : iz x5 0 3
    · rw [if_neg (by decide)]
      cases d2 : iz x5 10 (nG n)
      · rw [if_neg (by decide), if_neg (show ¬ (false = true ∨ false = true) by decide)]
        exact ok_mk ⟨rfl, tl_rfl⟩
      · rw [if_pos rfl, if_pos (show false = true ∨ true = true from Or.inr rfl)]
        exact q_mseats hw c2 X2 C2 W E2 he2 D (Or.inr d2)
    · rw [if_pos rfl, if_pos (show true = true ∨ iz x5 10 (nG n) = true from Or.inl rfl)]
      exact q_mseats hw c2 X2 C2 W E2 he2 D (Or.inl d1)
