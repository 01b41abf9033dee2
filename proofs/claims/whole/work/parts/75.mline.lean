/-! ===== L3: texts: the lines of the model ===== -/
theorem cl12 : Int32.toNatClampNeg 1 = 1 ∧ Int32.toNatClampNeg 2 = 2 := by decide +kernel
theorem spk_1 {X : Tx} {p i : Nat} (h : spk X p i = true) : tK X p = 1 := by
  unfold spk at h
  rw [Bool.and_eq_true, decide_eq_true_eq] at h
  exact h.1
theorem lnI_0 (X : Tx) (S : PS) (D : Inn × Int32) : lnI X 0 S D = (nuS X 0 9 0 (nuS X 1 6 0 (nuS X 1 8 0 S)), (iT D.1 (nuV X 1 8 S) (nuV X 1 6 (nuS X 1 8 0 S)) (nuV X 0 9 (nuS X 1 6 0 (nuS X 1 8 0 S))), D.2)) := if_pos rfl
theorem lnI_1 (X : Tx) (S : PS) (D : Inn × Int32) : lnI X 1 S D = (nuS X 1 8 0 S, (iGu D.1 (nuV X 1 8 S), D.2)) := (if_neg (by decide)).trans (if_pos rfl)
theorem lnI_2 (X : Tx) (S : PS) (D : Inn × Int32) {k : Nat} (h : 2 ≤ k) : lnI X k S D = (nuS X 0 7 (sh (nI 1) (nI (nuV X 0 7 S))) (nuS X 0 7 0 S), (iCo k D.1 (nuV X 0 7 S) (nuV X 0 7 (nuS X 0 7 0 S)), D.2 ||| (sh (nI 1) (nI (nuV X 0 7 S)) ||| sh (nI 1) (nI (nuV X 0 7 (nuS X 0 7 0 S)))))) := (if_neg (by omega)).trans (if_neg (by omega))
theorem ne10 : ¬ nI 1 = (0 : Int32) := by decide +kernel
theorem q_mcpl {X : Tx} {h : Hp} {S : PS} {D : Inn × Int32} (hX : okX X) (M : MP X h S) (H : MDI h S D) (h22 : h.1 251 22 = nI 1) {k B : Nat} (hk : (k = 2 ∧ B = 17) ∨ (k = 3 ∧ B = 25)) : Okk (M_coupleLine h (nI B)) (fun r => LO X MDI h r (lnI X k S D)) := by
  have l1 := l261
  obtain ⟨c1, c2⟩ := cl12
  rw [lnI_2 X S D (show 2 ≤ k by omega)]
  unfold M_coupleLine M_coupleLine_j28 M_coupleLine_j111
  rw [cl0, c1]
  refine okb (q_take0 hX M (k := 0) (a := 0) (c := 7) (by omega) (by omega) (by omega)) ?_
  rintro ⟨r1, h1⟩ T1
  rcases to_or T1 M.2.2.2.2.1 with B1 | ⟨d1, n1, e1, M1, v1, z1⟩
  · have e : r1 = nI 0 := B1.2.1
    subst e
    dsimp only
    rw [if_pos (show nI 0 = (0 : Int32) from rfl)]
    exact ok_mk ⟨ptb_e T1.1, Or.inl (bo_1 B1)⟩
  obtain ⟨-, -, -, w1, w1'⟩ := T1.2.2 d1
  dsimp only at e1 M1 v1 w1 w1' ⊢
  subst e1
  rw [if_neg ne10]
  have o1 := ptb_o T1.1
  dsimp only at o1
  refine okb (q_takeB hX M1 (k := 1) (a := 0) (c := 7) (bar := sh (nI 1) (nI (nuV X 0 7 S))) (x4 := h1.1 262 0) (by omega) (by omega) (by omega) (fun c v hv => ?_)) ?_
  · obtain ⟨g1, g2⟩ := z1 c
    rw [v1, g1]
    exact bar_v (by omega) (by omega)
  rintro ⟨r2, h2⟩ T2
  rcases to_or T2 n1 with B2 | ⟨d2, n2, e2, M2, v2, z2⟩
  · have e : r2 = nI 0 := B2.2.1
    subst e
    dsimp only
    rw [if_pos (show nI 0 = (0 : Int32) from rfl)]
    exact ok_mk ⟨fr_tr (ptb_e T1.1) (ptb_e T2.1), Or.inl B2⟩
  obtain ⟨-, -, -, w2, w2'⟩ := T2.2.2 d2
  dsimp only at e2 M2 v2 w2 w2' ⊢
  subst e2
  rw [if_neg ne10]
  have o2 := ptb_o T2.1
  dsimp only at o2
  have v1' : h2.1 262 0 = nI (tV X S.1) := by rw [o2 _ _ (by omega), v1]
  have hv1 := tV_lt d1
  have hv2 := tV_lt d2
  have F2 : Fr pMe h h2 := fr_tr (ptb_e T1.1) (ptb_e T2.1)
  have H2 : ∀ c i, c = 261 ∨ (c = 251 ∧ i = 21) → h2.1 c i = h.1 c i := fun c i hc => by rw [o2 _ _ (by omega), o1 _ _ (by omega)]
  have up0 : (nuS X 0 7 (sh (nI 1) (nI (nuV X 0 7 S))) (nuS X 0 7 0 S)).2.1 = 0 → (nuS X 0 7 0 S).2.1 = 0 ∧ S.2.1 = 0 := fun c => ⟨(nuS_0 c).1, (nuS_0 (nuS_0 c).1).1⟩
  rw [v1', v2, q_grr, sb, q_grr, sb, bnd_eq]
  have em : (if nI (tV X S.1) ≤ nI (tV X (nuS X 0 7 0 S).1) then nI (tV X (nuS X 0 7 0 S).1) else nI (tV X S.1)) = nI (max (tV X S.1) (tV X (nuS X 0 7 0 S).1)) := by
    by_cases c : tV X S.1 ≤ tV X (nuS X 0 7 0 S).1
    · rw [if_pos (by rw [i_le, nI_toInt (by omega), nI_toInt (by omega)]; omega), Nat.max_eq_right c]
    · rw [if_neg (fun e => by rw [i_le, nI_toInt (by omega), nI_toInt (by omega)] at e; omega), Nat.max_eq_left (by omega)]
  rw [em]
  generalize ev : (if h2.1 251 21 ≤ nI (max (tV X S.1) (tV X (nuS X 0 7 0 S).1)) then nI (max (tV X S.1) (tV X (nuS X 0 7 0 S).1)) else h2.1 251 21) = v
  have oy : ∀ c i, ¬ (c = 251 ∧ i = 21) → (wr h2 251 21 v).1 c i = h2.1 c i := fun c i hc => by rw [wr_i, if_neg hc]
  have My : MP X (wr h2 251 21 v) (nuS X 0 7 (sh (nI 1) (nI (nuV X 0 7 S))) (nuS X 0 7 0 S)) := mp_fr M2 (fun c i hc => oy c i (by omega)) rfl
  have Fy : Fr pMe h (wr h2 251 21 v) := fr_tr F2 (pme_w (by omega))
  have ey21 : (wr h2 251 21 v).1 251 21 = v := wr_at _ _ _ _
  generalize wr h2 251 21 v = y at *
  obtain ⟨⟨T, hT5, hT0⟩, hd⟩ := H
  by_cases z : h2.1 251 22 = 0
  · rw [if_pos (show y.1 251 22 = 0 by rw [oy _ _ (by omega)]; exact z)]
    refine ok_mk ⟨Fy, Or.inr ⟨n2, rfl, My, ⟨T, hT5, ?_⟩, fun c => ?_⟩⟩
    · dsimp only
      rw [oy _ _ (by omega), H2 _ _ (by omega), hT0]
    · exfalso
      have a1 := w2' c
      have a2 := w1' (up0 c).1
      rw [a1, a2, h22] at z
      exact absurd z ne10
  rw [if_neg (show ¬ y.1 251 22 = 0 by rw [oy _ _ (by omega)]; exact z)]
  have r2 : h2.1 251 22 = h1.1 251 22 ∧ 0 ≤ tV X (nuS X 0 7 0 S).1 ∧ tV X (nuS X 0 7 0 S).1 ≤ 7 := by
    rcases w2 with w | w
    · exact w
    · exact absurd w z
  have r1 : tV X S.1 ≤ 7 := by
    rcases w1 with w | w
    · exact w.2.2
    · exact absurd (r2.1.trans w) z
  have r2' := r2.2.2
  have u1 : y.1 262 0 = nI (tV X S.1) := by rw [oy _ _ (by omega), v1']
  have u2 : y.1 262 1 = nI (tV X (nuS X 0 7 0 S).1) := by rw [oy _ _ (by omega), v2]
  have eB : ∀ i : Nat, nI B + nI i = nI (B + i) := fun i => nI_add _ _
  have hB : B + 7 < 121 := by omega
  rw [u1, eB, l1, if_pos (nI_in (by omega) (by omega)), if_pos (nI_in (by omega) (by omega)), nI_clamp (show B + tV X S.1 < 2 ^ 31 by omega), u2, bnd_eq]
  have f1 : ∀ q, (wr y 261 (B + tV X S.1) q).1 262 1 = nI (tV X (nuS X 0 7 0 S).1) := fun q => by rw [wr_c _ _ _ _ (by omega), u2]
  have f0 : ∀ q, (wr y 261 (B + tV X S.1) q).1 262 0 = nI (tV X S.1) := fun q => by rw [wr_c _ _ _ _ (by omega), u1]
  rw [f1, f0, eB, if_pos (nI_in (by omega) (by omega)), if_pos (nI_in (by omega) (by omega)), nI_clamp (show B + tV X (nuS X 0 7 0 S).1 < 2 ^ 31 by omega), bnd_eq]
  -- what is written
  have ow : ∀ c i, ¬ (c = 261 ∧ B ≤ i ∧ i < B + 8) → (wr (wr y 261 (B + tV X S.1) (y.1 261 (B + tV X S.1) ||| sh (1 : Int32) (nI (tV X (nuS X 0 7 0 S).1)))) 261 (B + tV X (nuS X 0 7 0 S).1) ((wr y 261 (B + tV X S.1) (y.1 261 (B + tV X S.1) ||| sh (1 : Int32) (nI (tV X (nuS X 0 7 0 S).1)))).1 261 (B + tV X (nuS X 0 7 0 S).1) ||| sh (1 : Int32) (nI (tV X S.1)))).1 c i = y.1 c i := fun c i hc => by
    rw [wr_i, if_neg (by omega), wr_i, if_neg (by omega)]
  have ec : ∀ g, g < 8 → (wr (wr y 261 (B + tV X S.1) (y.1 261 (B + tV X S.1) ||| sh (1 : Int32) (nI (tV X (nuS X 0 7 0 S).1)))) 261 (B + tV X (nuS X 0 7 0 S).1) ((wr y 261 (B + tV X S.1) (y.1 261 (B + tV X S.1) ||| sh (1 : Int32) (nI (tV X (nuS X 0 7 0 S).1)))).1 261 (B + tV X (nuS X 0 7 0 S).1) ||| sh (1 : Int32) (nI (tV X S.1)))).1 261 (B + g) = cpl (fun i => y.1 261 (B + i)) (tV X S.1) (tV X (nuS X 0 7 0 S).1) g := fun g hg => by
    unfold cpl
    by_cases e1 : g = tV X (nuS X 0 7 0 S).1
    · rw [e1, wr_at, up_at]
      by_cases e2 : tV X (nuS X 0 7 0 S).1 = tV X S.1
      · rw [e2, wr_at, up_at]; rfl
      · rw [wr_p _ _ _ _ (by omega), up_ne _ _ e2]; rfl
    · rw [wr_p _ _ _ _ (by omega), up_ne _ _ e1]
      by_cases e2 : g = tV X S.1
      · rw [e2, wr_at, up_at]; rfl
      · rw [wr_p _ _ _ _ (by omega), up_ne _ _ e2]
  refine ok_mk ⟨fr_tr Fy (fr_tr (pme_w (by omega)) (pme_w (by omega))), Or.inr ⟨n2, rfl, mp_fr My (fun c i hc => ow c i (by omega)) rfl, ⟨T, hT5, ?_⟩, fun c => ?_⟩⟩
  · dsimp only
    rw [ow _ _ (by omega), oy _ _ (by omega), H2 _ _ (by omega), hT0]
  obtain ⟨p1, p0⟩ := up0 c
  obtain ⟨a1, a2, a3, a4, a5, a6⟩ := hd p0
  have q1 := (z1 p1).1
  have q2 := (z2 c).1
  dsimp only
  rw [q1, q2]
  have eN : nT (iCo k D.1 (tV X S.1) (tV X (nuS X 0 7 0 S).1)) = nT D.1 ∧ nG (iCo k D.1 (tV X S.1) (tV X (nuS X 0 7 0 S).1)) = nG D.1 ∧ nS (iCo k D.1 (tV X S.1) (tV X (nuS X 0 7 0 S).1)) = nS D.1 ∧ nK (iCo k D.1 (tV X S.1) (tV X (nuS X 0 7 0 S).1)) = nK D.1 ∧ nP (iCo k D.1 (tV X S.1) (tV X (nuS X 0 7 0 S).1)) = nP D.1 := by
    unfold iCo
    by_cases c : k = 3
    · rw [if_pos c]; exact ⟨rfl, rfl, rfl, rfl, rfl⟩
    · rw [if_neg c]; exact ⟨rfl, rfl, rfl, rfl, rfl⟩
  obtain ⟨s1, s2, s3, s4, s5⟩ := eN
  have ol : ∀ i, ¬ (B ≤ i ∧ i < B + 8) → (wr (wr y 261 (B + tV X S.1) (y.1 261 (B + tV X S.1) ||| sh (1 : Int32) (nI (tV X (nuS X 0 7 0 S).1)))) 261 (B + tV X (nuS X 0 7 0 S).1) ((wr y 261 (B + tV X S.1) (y.1 261 (B + tV X S.1) ||| sh (1 : Int32) (nI (tV X (nuS X 0 7 0 S).1)))).1 261 (B + tV X (nuS X 0 7 0 S).1) ||| sh (1 : Int32) (nI (tV X S.1)))).1 261 i = h.1 261 i := fun i hi => by
    rw [ow _ _ (by omega), oy _ _ (by omega), H2 _ _ (by omega)]
  have oc : ∀ g, y.1 261 (B + g) = h.1 261 (B + g) := fun g => by rw [oy _ _ (by omega), H2 _ _ (by omega)]
  refine ⟨by rw [s1]; exact a1, by rw [s1, ol _ (by omega), a2], by rw [s2, ol _ (by omega), a3], fun t ht => ?_, fun g hg => ?_, ?_⟩
  · rw [s1] at ht
    rw [s3, s4, s5, ol _ (by omega), ol _ (by omega), ol _ (by omega)]
    exact a4 t ht
  · have cg : ∀ f : Nat → Int32, (∀ i, i < 8 → h.1 261 (B + i) = f i) → cpl (fun i => y.1 261 (B + i)) (tV X S.1) (tV X (nuS X 0 7 0 S).1) g = cpl f (tV X S.1) (tV X (nuS X 0 7 0 S).1) g := fun f hf => by
      unfold cpl up
      dsimp only
      rw [oc, oc, oc, hf _ (by omega), hf _ (by omega), hf g hg]
    unfold iCo
    rcases hk with ⟨rfl, rfl⟩ | ⟨rfl, rfl⟩
    · rw [if_neg (by decide)]
      refine ⟨?_, ?_⟩
      · rw [ec g hg, cg (nQ D.1) (fun i hi => (a5 i hi).1)]
        rfl
      · rw [ol _ (by omega)]
        exact (a5 g hg).2
    · rw [if_pos rfl]
      refine ⟨?_, ?_⟩
      · rw [ol _ (by omega)]
        exact (a5 g hg).1
      · rw [ec g hg, cg (nL D.1) (fun i hi => (a5 i hi).2)]
        rfl
  · rw [ow _ _ (by omega), ey21, ← ev, H2 _ _ (by omega)]
    exact mgR_s a6 (by omega) (by omega)
theorem kw_x {X : Tx} (hX : okX X) {s p : Nat} (hs : s < 4) (c : kwd s X p = 9) : ∀ i, i < kN s → ¬ lg_cmp (xw X p) (WC (kB s + i)) = 0 := fun i hi e => by
  have hb : kB s + i < 16 := by
    rcases (by omega : s = 0 ∨ s = 1 ∨ s = 2 ∨ s = 3) with rfl | rfl | rfl | rfl
    · have : i < 4 := hi
      show 0 + i < 16
      omega
    · have : i < 6 := hi
      show 4 + i < 16
      omega
    · have : i < 4 := hi
      show 10 + i < 16
      omega
    · have : i < 2 := hi
      show 14 + i < 16
      omega
  have e2 := (xw_eq hX p hb).mp ((lgc _ _).mp e)
  rcases kwd_s hs X p with ⟨-, w⟩ | ⟨w, -⟩
  · exact absurd (e2.symm.trans (w i hi)) (by decide)
  · have hn : kN s ≤ 6 := by
      rcases (by omega : s = 0 ∨ s = 1 ∨ s = 2 ∨ s = 3) with rfl | rfl | rfl | rfl <;> decide
    omega
theorem kw_y {X : Tx} (hX : okX X) {s p : Nat} (hs : s < 4) (c : kwd s X p ≠ 9) : kwd s X p < kN s ∧ xw X p = WC (kB s + kwd s X p) ∧ tK X p = 1 := by
  rcases kwd_s hs X p with ⟨w, -⟩ | ⟨w1, w2⟩
  · exact absurd w c
  have hb : kB s + kwd s X p < 16 := by
    rcases (by omega : s = 0 ∨ s = 1 ∨ s = 2 ∨ s = 3) with rfl | rfl | rfl | rfl
    · have : kwd 0 X p < 4 := w1
      show 0 + kwd 0 X p < 16
      omega
    · have : kwd 1 X p < 6 := w1
      show 4 + kwd 1 X p < 16
      omega
    · have : kwd 2 X p < 4 := w1
      show 10 + kwd 2 X p < 16
      omega
    · have : kwd 3 X p < 2 := w1
      show 14 + kwd 3 X p < 16
      omega
  exact ⟨w1, (xw_eq hX p hb).mpr w2, spk_1 w2⟩
theorem bo_fail {X : Tx} {h : Hp} {S : PS} (M : MP X h S) : BO (frm X S) (nI 0, wr h 251 16 (nI (tS X S.1))) := by
  have ef : frm X S = (0, 1, tS X S.1) := if_neg M.2.2.2.2.1
  unfold BO
  rw [ef]
  exact ⟨rfl, rfl, wr_at _ _ _ _⟩
theorem q_minn {X : Tx} {h : Hp} {S : PS} {D : Inn × Int32} (hX : okX X) (M : MP X h S) (H : MDI h S D) (h22 : h.1 251 22 = nI 1) : Okk (M_innLine h (xw X S.1) (nI (tS X S.1))) (fun r => LO X MDI h r (gI X S D)) := by
  have l1 := l261
  obtain ⟨cc1, cc2⟩ := cl12
  have hs1 := M.2.2.2.2.1
  obtain ⟨w0, w1, w2, w3, -⟩ := WC_l
  unfold M_innLine gI
  by_cases c9 : kwd 0 X S.1 = 9
  · have ne := kw_x hX (s := 0) (by omega) c9
    rw [if_pos c9, w0, w1, w2, w3, if_neg (show ¬ lg_cmp (xw X S.1) (WC 0) = 0 from ne 0 (by decide)), if_neg (show ¬ lg_cmp (xw X S.1) (WC 1) = 0 from ne 1 (by decide)), if_neg (show ¬ lg_cmp (xw X S.1) (WC 2) = 0 from ne 2 (by decide)), if_neg (show ¬ lg_cmp (xw X S.1) (WC 3) = 0 from ne 3 (by decide)), q_failM M, sb]
    show Okk (if nI 0 = (0 : Int32) ∨ nI 0 = (1 : Int32) then some (nI 0, wr h 251 16 (nI (tS X S.1))) else none) _
    rw [if_pos (show nI 0 = (0 : Int32) ∨ nI 0 = (1 : Int32) from Or.inl rfl)]
    exact ok_mk ⟨pme_w (by omega), Or.inl (bo_fail M)⟩
  obtain ⟨hk4, hx, hk1⟩ := kw_y hX (s := 0) (by omega) c9
  have hk4' : kwd 0 X S.1 < 4 := hk4
  rw [if_neg c9, hx]
  generalize kwd 0 X S.1 = k at *
  obtain ⟨⟨m, hm5, hm0⟩, hd⟩ := id H
  have tail : ∀ h1, MP X h1 (mny X (flI k D) S) → MDI h1 (mny X (flI k D) S) D → h1.1 251 22 = nI 1 → Fr pMe h h1 → Okk (M_innLine_j52 (WC (kB 0 + k)) h1) (fun r => LO X MDI h r (lnI X k (nxt X (mny X (flI k D) S)) D)) := by
    intro h1 M1 H1 z1 F1
    obtain ⟨e1, e2⟩ := mny_f (X := X) (b := flI k D) hs1
    unfold M_innLine_j52
    refine okb (q_mnext hX M1 (by rw [e2]; omega)) ?_
    rintro h2 ⟨M2, F2⟩
    have o2 := pmk_o F2
    have H2 : MDI h2 (nxt X (mny X (flI k D) S)) D := mdi_fr H1 (fun c => by rw [nxt_f] at c; exact c) (fun c i hc => o2 c i (by omega))
    have z2 : h2.1 251 22 = nI 1 := by rw [o2 _ _ (by omega), z1]
    have F : Fr pMe h h2 := fr_tr F1 (pmk_e F2)
    have hT : k = 0 → (nxt X (mny X (flI k D) S)).2.1 = 0 → nT D.1 < 5 := fun k0 c => by
      rw [nxt_f] at c
      obtain ⟨a1, a2⟩ := mny_0 c
      subst k0
      unfold flI at a2
      rw [decide_eq_true rfl, Bool.true_and, decide_eq_false_iff_not] at a2
      have := (hd a1).1
      omega
    generalize nxt X (mny X (flI k D) S) = S2 at *
    have lo_of : ∀ r, LO X MDI h2 r (lnI X k S2 D) → LO X MDI h r (lnI X k S2 D) := fun r L => ⟨fr_tr F L.1, L.2⟩
    rcases (by omega : k = 0 ∨ k = 1 ∨ k = 2 ∨ k = 3) with rfl | rfl | rfl | rfl
    · rw [if_neg (show ¬ lg_cmp (WC (kB 0 + 0)) (31935733760681324 : Int64) = 0 by decide +kernel), if_neg (show ¬ lg_cmp (WC (kB 0 + 0)) (1819244133 : Int64) = 0 by decide +kernel), if_neg (show ¬ lg_cmp (WC (kB 0 + 0)) (113753910899827 : Int64) = 0 by decide +kernel), lnI_0]
      unfold M_innLine_j160
      refine okb (q_take0 hX M2 (k := 0) (a := 1) (c := 8) (by omega) (by omega) (by omega)) ?_
      rintro ⟨r1, h3⟩ T1
      rcases to_or T1 M2.2.2.2.2.1 with B1 | ⟨d1, n1, e1, M3, v1, y1⟩
      · have e : r1 = nI 0 := B1.2.1
        subst e
        dsimp only
        rw [if_pos (show nI 0 = (0 : Int32) from rfl)]
        exact ok_mk ⟨fr_tr F (ptb_e T1.1), Or.inl (bo_1 (bo_1 B1))⟩
      dsimp only at e1 M3 v1 ⊢
      subst e1
      rw [if_neg ne10]
      have o3 := ptb_o T1.1
      dsimp only at o3
      refine okb (q_take0 hX M3 (k := 1) (a := 1) (c := 6) (by omega) (by omega) (by omega)) ?_
      rintro ⟨r2, h4⟩ T2
      rcases to_or T2 n1 with B1 | ⟨d2, n2, e1, M4, v2, y2⟩
      · have e : r2 = nI 0 := B1.2.1
        subst e
        dsimp only
        rw [if_pos (show nI 0 = (0 : Int32) from rfl)]
        exact ok_mk ⟨fr_tr F (fr_tr (ptb_e T1.1) (ptb_e T2.1)), Or.inl (bo_1 B1)⟩
      dsimp only at e1 M4 v2 ⊢
      subst e1
      rw [if_neg ne10]
      have o4 := ptb_o T2.1
      dsimp only at o4
      refine okb (q_take0 hX M4 (k := 2) (a := 0) (c := 9) (by omega) (by omega) (by omega)) ?_
      rintro ⟨r3, h5⟩ T3
      rcases to_or T3 n2 with B1 | ⟨d3, n3, e1, M5, v3, y3⟩
      · have e : r3 = nI 0 := B1.2.1
        subst e
        dsimp only
        rw [if_pos (show nI 0 = (0 : Int32) from rfl)]
        exact ok_mk ⟨fr_tr F (fr_tr (ptb_e T1.1) (fr_tr (ptb_e T2.1) (ptb_e T3.1))), Or.inl B1⟩
      dsimp only at e1 M5 v3 ⊢
      subst e1
      rw [if_neg ne10]
      have o5 := ptb_o T3.1
      dsimp only at o5
      have F5 : Fr pMe h h5 := fr_tr F (fr_tr (ptb_e T1.1) (fr_tr (ptb_e T2.1) (ptb_e T3.1)))
      have H5 : ∀ c i, c = 261 ∨ (c = 251 ∧ i = 21) → h5.1 c i = h2.1 c i := fun c i hc => by rw [o5 _ _ (by omega), o4 _ _ (by omega), o3 _ _ (by omega)]
      have u0 : h5.1 262 0 = nI (tV X S2.1) := by rw [o5 _ _ (by omega), o4 _ _ (by omega), v1]
      have u1 : h5.1 262 1 = nI (tV X (nuS X 1 8 0 S2).1) := by rw [o5 _ _ (by omega), v2]
      obtain ⟨⟨m2, hm2, hm20⟩, hd2⟩ := H2
      have up0 : (nuS X 0 9 0 (nuS X 1 6 0 (nuS X 1 8 0 S2))).2.1 = 0 → (nuS X 1 6 0 (nuS X 1 8 0 S2)).2.1 = 0 ∧ (nuS X 1 8 0 S2).2.1 = 0 ∧ S2.2.1 = 0 := fun c => ⟨(nuS_0 c).1, (nuS_0 (nuS_0 c).1).1, (nuS_0 (nuS_0 (nuS_0 c).1).1).1⟩
      refine okb (q_mkeep (h := h5) (m := m2) (k0 := 2) (wd := 3) (lim := 5) (by rw [H5 _ _ (by omega), hm20]) (by omega) (by omega) (by omega) (by omega) (by omega)) ?_
      rintro h6 ⟨g1, g2⟩
      by_cases c : m2 = 5
      · rw [g1 c]
        refine ok_mk ⟨F5, Or.inr ⟨n3, rfl, M5, ⟨m2, hm2, by dsimp only; rw [H5 _ _ (by omega), hm20]⟩, fun e => ?_⟩⟩
        exfalso
        obtain ⟨-, -, p0⟩ := up0 e
        obtain ⟨a1, a2, -⟩ := hd2 p0
        have e2 := a2.symm.trans hm20
        rw [nI_eq (by omega) (by omega)] at e2
        have := hT rfl p0
        omega
      obtain ⟨b1, b2, b3, b4⟩ := g2 (by omega)
      have b3' : ∀ c i, ¬ (c = 261 ∧ (i = 0 ∨ (2 + 3 * m2 ≤ i ∧ i < 2 + 3 * m2 + 3))) → h6.1 c i = h5.1 c i := b3
      refine ok_mk ⟨fr_tr F5 (fr_mo b3 (fun c i hc => Or.inr (Or.inl hc.1))), Or.inr ⟨n3, rfl, mp_fr M5 (fun c i hc => b3' c i (by omega)) b4, ⟨m2 + 1, by omega, b1⟩, fun e => ?_⟩⟩
      obtain ⟨p2, p1, p0⟩ := up0 e
      obtain ⟨a1, a2, a3, a4, a5, a6⟩ := hd2 p0
      have e2 := a2.symm.trans hm20
      rw [nI_eq (by omega) (by omega)] at e2
      subst e2
      have q1 := (y1 p1).1
      have q2 := (y2 p2).1
      have q3 := (y3 e).1
      dsimp only
      rw [q1, q2, q3]
      have oo : ∀ c i, ¬ (c = 261 ∧ (i = 0 ∨ (2 + 3 * nT D.1 ≤ i ∧ i < 2 + 3 * nT D.1 + 3))) → c = 261 ∨ (c = 251 ∧ i = 21) → h6.1 c i = h2.1 c i := fun c i h1 h2 => by rw [b3' c i h1, H5 c i h2]
      refine ⟨show nT D.1 + 1 ≤ 5 by omega, b1, by rw [oo _ _ (by omega) (by omega)]; exact a3, fun t ht => ?_, fun g hg => ?_, by rw [oo _ _ (by omega) (by omega)]; exact a6⟩
      · have ht' : t < nT D.1 + 1 := ht
        show _ = nI (up (nS D.1) (nT D.1) _ t) ∧ _ = nI (up (nK D.1) (nT D.1) _ t) ∧ _ = up (nP D.1) (nT D.1) _ t
        by_cases et : t = nT D.1
        · subst et
          have x0 := b2 0 (by omega)
          have x1 := b2 1 (by omega)
          have x2 := b2 2 (by omega)
          rw [Nat.add_zero] at x0
          rw [up_at, up_at, up_at, x0, x1, x2, u0, u1, v3]
          exact ⟨rfl, rfl, rfl⟩
        · rw [up_ne _ _ et, up_ne _ _ et, up_ne _ _ et, oo _ _ (by omega) (by omega), oo _ _ (by omega) (by omega), oo _ _ (by omega) (by omega)]
          exact a4 t (by omega)
      · rw [oo _ _ (by omega) (by omega), oo _ _ (by omega) (by omega)]
        exact a5 g hg
    · rw [if_neg (show ¬ lg_cmp (WC (kB 0 + 1)) (31935733760681324 : Int64) = 0 by decide +kernel), if_neg (show ¬ lg_cmp (WC (kB 0 + 1)) (1819244133 : Int64) = 0 by decide +kernel), if_pos (show lg_cmp (WC (kB 0 + 1)) (113753910899827 : Int64) = 0 by decide +kernel), lnI_1]
      refine okb (q_take0 hX M2 (k := 0) (a := 1) (c := 8) (by omega) (by omega) (by omega)) ?_
      rintro ⟨r1, h3⟩ T1
      rcases to_or T1 M2.2.2.2.2.1 with B1 | ⟨d1, n1, e1, M3, v1, y1⟩
      · have e : r1 = nI 0 := B1.2.1
        subst e
        dsimp only
        rw [if_pos (show nI 0 = (0 : Int32) from rfl)]
        exact ok_mk ⟨fr_tr F (ptb_e T1.1), Or.inl B1⟩
      dsimp only at e1 M3 v1 ⊢
      subst e1
      have o3 := ptb_o T1.1
      dsimp only at o3
      rw [if_neg ne10, cl0, cc1, v1, bnd_eq]
      have oz : ∀ c i, ¬ (c = 261 ∧ i = 1) → (wr h3 261 1 (nI (tV X S2.1))).1 c i = h3.1 c i := fun c i hc => by rw [wr_i, if_neg hc]
      obtain ⟨⟨m2, hm2, hm20⟩, hd2⟩ := H2
      refine ok_mk ⟨fr_tr F (fr_tr (ptb_e T1.1) (pme_w (by omega))), Or.inr ⟨n1, rfl, mp_fr M3 (fun c i hc => oz c i (by omega)) rfl, ⟨m2, hm2, ?_⟩, fun e => ?_⟩⟩
      · dsimp only
        rw [oz _ _ (by omega), o3 _ _ (by omega), hm20]
      obtain ⟨a1, a2, a3, a4, a5, a6⟩ := hd2 (nuS_0 e).1
      have q1 := (y1 e).1
      dsimp only
      rw [q1]
      refine ⟨a1, by rw [oz _ _ (by omega), o3 _ _ (by omega)]; exact a2, wr_at _ _ _ _, fun t ht => ?_, fun g hg => ?_, by rw [oz _ _ (by omega), o3 _ _ (by omega)]; exact a6⟩
      · rw [oz _ _ (by omega), oz _ _ (by omega), oz _ _ (by omega), o3 _ _ (by omega), o3 _ _ (by omega), o3 _ _ (by omega)]
        exact a4 t ht
      · rw [oz _ _ (by omega), oz _ _ (by omega), o3 _ _ (by omega), o3 _ _ (by omega)]
        exact a5 g hg
    · rw [if_pos (show lg_cmp (WC (kB 0 + 2)) (31935733760681324 : Int64) = 0 by decide +kernel)]
      unfold M_innLine_j72 M_innLine_j88
      rw [if_pos (show lg_cmp (WC (kB 0 + 2)) (31935733760681324 : Int64) = 0 by decide +kernel)]
      refine okb (q_mcpl hX M2 H2 z2 (k := 2) (B := 17) (Or.inl ⟨rfl, rfl⟩)) ?_
      rintro ⟨r1, h3⟩ L
      have hr : r1 = 0 ∨ r1 = 1 := by
        rcases L.2 with B | B
        · exact Or.inl B.2.1
        · exact Or.inr B.2.1
      show Okk (if r1 = 0 ∨ r1 = 1 then some (r1, h3) else none) _
      rw [if_pos hr]
      exact ok_mk (lo_of _ L)
    · rw [if_neg (show ¬ lg_cmp (WC (kB 0 + 3)) (31935733760681324 : Int64) = 0 by decide +kernel), if_pos (show lg_cmp (WC (kB 0 + 3)) (1819244133 : Int64) = 0 by decide +kernel)]
      unfold M_innLine_j72 M_innLine_j88
      rw [if_neg (show ¬ lg_cmp (WC (kB 0 + 3)) (31935733760681324 : Int64) = 0 by decide +kernel)]
      refine okb (q_mcpl hX M2 H2 z2 (k := 3) (B := 25) (Or.inr ⟨rfl, rfl⟩)) ?_
      rintro ⟨r1, h3⟩ L
      have hr : r1 = 0 ∨ r1 = 1 := by
        rcases L.2 with B | B
        · exact Or.inl B.2.1
        · exact Or.inr B.2.1
      show Okk (if r1 = 0 ∨ r1 = 1 then some (r1, h3) else none) _
      rw [if_pos hr]
      exact ok_mk (lo_of _ L)
  have skip : k ≠ 0 → mny X (flI k D) S = S := fun k0 => by
    unfold mny flI
    rw [decide_eq_false k0, Bool.false_and]
    rfl
  rcases (by omega : k = 0 ∨ k = 1 ∨ k = 2 ∨ k = 3) with rfl | rfl | rfl | rfl
  · rw [if_pos (show lg_cmp (WC (kB 0 + 0)) (499850046565 : Int64) = 0 by decide +kernel)]
    unfold M_innLine_j37
    rw [if_pos (show lg_cmp (WC (kB 0 + 0)) (499850046565 : Int64) = 0 by decide +kernel)]
    refine okb (q_mfull hX M (by omega) hm0 (by omega) (lim := 5) (by omega)) ?_
    rintro h1 ⟨M1, F1⟩
    have o1 : ∀ c i, ¬ (c = 251 ∧ 17 ≤ i ∧ i ≤ 18) → h1.1 c i = h.1 c i := F1
    have em : mny X (decide (m = 5)) S = mny X (flI 0 D) S := by
      by_cases d : S.2.1 = 0
      · have e2 := (hd d).2.1.symm.trans hm0
        rw [nI_eq (by have := (hd d).1; omega) (by omega)] at e2
        unfold flI
        rw [e2, decide_eq_true rfl, Bool.true_and]
      · rw [mny_n d, mny_n d]
    rw [em] at M1
    exact tail h1 M1 (mdi_fr H (fun c => (mny_0 c).1) (fun c i hc => o1 c i (by omega))) (by rw [o1 _ _ (by omega), h22]) (lat_e F1)
  · have t := tail h (by rw [skip (by omega)]; exact M) (by rw [skip (by omega)]; exact H) h22 fr_rfl
    rw [if_neg (show ¬ lg_cmp (WC (kB 0 + 1)) (499850046565 : Int64) = 0 by decide +kernel), if_pos (show lg_cmp (WC (kB 0 + 1)) (113753910899827 : Int64) = 0 by decide +kernel)]
    unfold M_innLine_j37
    rw [if_neg (show ¬ lg_cmp (WC (kB 0 + 1)) (499850046565 : Int64) = 0 by decide +kernel)]
    exact t
  · have t := tail h (by rw [skip (by omega)]; exact M) (by rw [skip (by omega)]; exact H) h22 fr_rfl
    rw [if_neg (show ¬ lg_cmp (WC (kB 0 + 2)) (499850046565 : Int64) = 0 by decide +kernel), if_neg (show ¬ lg_cmp (WC (kB 0 + 2)) (113753910899827 : Int64) = 0 by decide +kernel), if_pos (show lg_cmp (WC (kB 0 + 2)) (31935733760681324 : Int64) = 0 by decide +kernel)]
    unfold M_innLine_j37
    rw [if_neg (show ¬ lg_cmp (WC (kB 0 + 2)) (499850046565 : Int64) = 0 by decide +kernel)]
    exact t
  · have t := tail h (by rw [skip (by omega)]; exact M) (by rw [skip (by omega)]; exact H) h22 fr_rfl
    rw [if_neg (show ¬ lg_cmp (WC (kB 0 + 3)) (499850046565 : Int64) = 0 by decide +kernel), if_neg (show ¬ lg_cmp (WC (kB 0 + 3)) (113753910899827 : Int64) = 0 by decide +kernel), if_neg (show ¬ lg_cmp (WC (kB 0 + 3)) (31935733760681324 : Int64) = 0 by decide +kernel), if_pos (show lg_cmp (WC (kB 0 + 3)) (1819244133 : Int64) = 0 by decide +kernel)]
    unfold M_innLine_j37
    rw [if_neg (show ¬ lg_cmp (WC (kB 0 + 3)) (499850046565 : Int64) = 0 by decide +kernel)]
    exact t
