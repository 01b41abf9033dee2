/-! ===== L3: texts: the model reads a text ===== -/
theorem q_mpre {s : Nat} {X : Tx} {h : Hp} {S : PS} {D : DN} (hX : okX X) (M : MP X h S) (H : MDL s h S D) (hk : tK X S.1 = 1) {lim : Int32} (elm : lim = nI (lmT s)) {β : Type} {f : Hp → Option β} {Q : β → Prop} (hf : ∀ h', MP X h' (nxt X (mny X (flD s D) S)) → MDL s h' (nxt X (mny X (flD s D) S)) D → Fr pMe h h' → Okk (f h') Q) : Okk ((M_full h (0 : Int32) lim (nI (tS X S.1))).bind fun h1 => (M_token h1).bind f) Q := by
  subst elm
  have hl := lmT_le s
  have hs1 := M.2.2.2.2.1
  obtain ⟨⟨m, hm, hm0⟩, hd⟩ := id H
  refine okb (q_mfull hX M (by omega) hm0 (by omega) hl) ?_
  rintro h1 ⟨M1, F1⟩
  have o1 : ∀ c i, ¬ (c = 251 ∧ 17 ≤ i ∧ i ≤ 18) → h1.1 c i = h.1 c i := F1
  have em : mny X (decide (m = lmT s)) S = mny X (flD s D) S := by
    by_cases d : S.2.1 = 0
    · have e2 := (hd d).2.1.symm.trans hm0
      rw [nI_eq (by have := (hd d).1; omega) (by omega)] at e2
      unfold flD
      rw [e2]
      by_cases c : m = lmT s
      · rw [decide_eq_true c, decide_eq_true (show lmT s ≤ m by omega)]
      · rw [decide_eq_false c, decide_eq_false (show ¬ lmT s ≤ m by omega)]
    · rw [mny_n d, mny_n d]
  rw [em] at M1
  obtain ⟨e1, e2⟩ := mny_f (X := X) (b := flD s D) hs1
  refine okb (q_mnext hX M1 (by rw [e2]; omega)) ?_
  rintro h2 ⟨M2, F2⟩
  have o2 := pmk_o F2
  exact hf h2 M2 (mdl_fr H (fun c => by rw [nxt_f] at c; exact (mny_0 c).1) (fun c i hc => by rw [o2 _ _ (by omega), o1 _ _ (by omega)])) (fr_tr (lat_e F1) (pmk_e F2))
theorem fl_lt {s : Nat} {X : Tx} {S : PS} {D : DN} (c : (nxt X (mny X (flD s D) S)).2.1 = 0) : D.1 < lmT s := by
  rw [nxt_f] at c
  have a2 := (mny_0 c).2
  unfold flD at a2
  rw [decide_eq_false_iff_not] at a2
  omega
theorem lnD_k {X : Tx} {S : PS} {k : Nat} (hk : k < 6) : (lnD 1 X k S).2.1 = nI k := by
  rcases (by omega : k = 0 ∨ k = 1 ∨ k = 2 ∨ k = 3 ∨ 4 ≤ k) with rfl | rfl | rfl | rfl | hk4
  · rw [lnD_10]
  · rw [lnD_11]
  · rw [lnD_12]
  · rw [lnD_13]
  · rw [lnD_14 X S hk4]
theorem q_deedBy : ∀ k, k < 6 → M_deedBy (WC (kB 1 + k)) = some (nI k) := by decide +kernel
theorem ne_m1 {k : Nat} (hk : k < 2 ^ 31) : ¬ nI k = (-1 : Int32) := fun c => Eq.mp ((NJ k 1 (by omega) (by omega)).2.2.2.2.1 hk) c
theorem q_meve {X : Tx} {h : Hp} {S : PS} {D : DN} (hX : okX X) (M : MP X h S) (H : MDL 1 h S D) : Okk (M_eveningLine h (xw X S.1) (nI (tS X S.1))) (fun r => LO X (MDL 1) h r (gD 1 X S D)) := by
  obtain ⟨cc1, cc2⟩ := cl12
  obtain ⟨-, -, -, -, w4, w5, w6, w7, w8, w9, -⟩ := WC_l
  unfold M_eveningLine gD
  by_cases c9 : kwd 1 X S.1 = 9
  · have ne := kw_x hX (s := 1) (by omega) c9
    have e : M_deedBy (xw X S.1) = some (jN 1) := by
      unfold M_deedBy M_deedBy_j73
      rw [w4, w5, w6, w7, w8, w9, if_neg (show ¬ lg_cmp (xw X S.1) (WC 4) = 0 from ne 0 (by decide)), if_neg (show ¬ lg_cmp (xw X S.1) (WC 5) = 0 from ne 1 (by decide)), if_neg (show ¬ lg_cmp (xw X S.1) (WC 6) = 0 from ne 2 (by decide)), if_neg (show ¬ lg_cmp (xw X S.1) (WC 7) = 0 from ne 3 (by decide)), if_neg (show ¬ lg_cmp (xw X S.1) (WC 8) = 0 from ne 4 (by decide)), if_neg (show ¬ lg_cmp (xw X S.1) (WC 9) = 0 from ne 5 (by decide))]
      rfl
    rw [if_pos c9, e, sb, if_pos (show jN 1 = (-1 : Int32) from rfl), q_failM M, sb]
    show Okk (if nI 0 = (0 : Int32) ∨ nI 0 = (1 : Int32) then some (nI 0, wr h 251 16 (nI (tS X S.1))) else none) _
    rw [if_pos (show nI 0 = (0 : Int32) ∨ nI 0 = (1 : Int32) from Or.inl rfl)]
    exact ok_mk ⟨pme_w (by omega), Or.inl (bo_fail M)⟩
  obtain ⟨hk6, hx, hk1⟩ := kw_y hX (s := 1) (by omega) c9
  have hk6' : kwd 1 X S.1 < 6 := hk6
  rw [if_neg c9, hx, q_deedBy _ hk6', sb, if_neg (ne_m1 (by omega))]
  generalize kwd 1 X S.1 = k at *
  refine q_mpre hX M H hk1 (lim := (40 : Int32)) rfl ?_
  intro h2 M2 H2 F2
  have hlt := fl_lt (s := 1) (X := X) (S := S) (D := D)
  generalize nxt X (mny X (flD 1 D) S) = S2 at *
  rw [cl0, cc1, cc2, bnd_eq, bnd_eq]
  have o3 : ∀ c i, ¬ (c = 262 ∧ (i = 1 ∨ i = 2)) → (wr (wr h2 262 1 (-1)) 262 2 (-1)).1 c i = h2.1 c i := fun c i hc => by rw [wr_i, if_neg (by omega), wr_i, if_neg (by omega)]
  have M3 : MP X (wr (wr h2 262 1 (-1)) 262 2 (-1)) S2 := mp_fr M2 (fun c i hc => o3 c i (by omega)) rfl
  have i1 : (wr (wr h2 262 1 (-1)) 262 2 (-1)).1 262 1 = jN 1 := by rw [wr_p _ _ _ _ (by omega), wr_at]; rfl
  have i2 : (wr (wr h2 262 1 (-1)) 262 2 (-1)).1 262 2 = jN 1 := wr_at _ _ _ _
  have F3 : Fr pMe h (wr (wr h2 262 1 (-1)) 262 2 (-1)) := fr_tr F2 (fr_tr (pme_w (by omega)) (pme_w (by omega)))
  generalize wr (wr h2 262 1 (-1)) 262 2 (-1) = h3 at *
  refine okb (q_deedN hX M3 i1 i2 hk6') ?_
  rintro ⟨r1, h4⟩ ⟨F4, L⟩
  have o4 := pdn_o F4
  dsimp only at o4
  rcases L with B | ⟨n1, e1, M4, y1⟩
  · have e : r1 = nI 0 := B.2.1
    subst e
    dsimp only
    rw [if_pos (show nI 0 = (0 : Int32) from rfl)]
    exact ok_mk ⟨fr_tr F3 (pdn_e F4), Or.inl B⟩
  dsimp only at e1 M4 y1 ⊢
  subst e1
  rw [if_neg ne10, bnd_eq]
  have o5 : ∀ c i, ¬ (c = 262 ∧ i = 0) → (wr h4 262 0 (nI k)).1 c i = h4.1 c i := fun c i hc => by rw [wr_i, if_neg hc]
  refine okb (q_keepL (s := 1) (X := X) (S := (lnD 1 X k S2).1) (D := D) (d := (lnD 1 X k S2).2) (by omega) (by omega) (mp_fr M4 (fun c i hc => o5 c i (by omega)) rfl) (mdl_fr H2 (fun c => lnD_0 c) (fun c i hc => by rw [o5 _ _ (by omega), o4 _ _ (by omega), o3 _ _ (by omega)])) (fun c => hlt (lnD_0 c)) (fun c => ?_) (wd := (3 : Int32)) (lim := (40 : Int32)) rfl rfl) ?_
  · rw [if_neg (by omega)]
    obtain ⟨a1, a2⟩ := y1 c
    refine ⟨by rw [wr_at, lnD_k hk6'], ?_, ?_⟩
    · rw [wr_p _ _ _ _ (by omega), a1]
    · rw [wr_p _ _ _ _ (by omega), a2]
  rintro h6 ⟨M6, H6, F6⟩
  exact ok_mk ⟨fr_tr F3 (fr_tr (pdn_e F4) (fr_tr (pme_w (by omega)) F6)), Or.inr ⟨n1, rfl, M6, H6⟩⟩
theorem lnD_2 (X : Tx) (k : Nat) (S : PS) : lnD 2 X k S = if k < 2 then (nuS X 0 9 0 (nuS X 0 7 0 S), (nI k, nI (nuV X 0 7 S), nI (nuV X 0 9 (nuS X 0 7 0 S)))) else (nuS X 0 7 (sh (nI 1) (nI (nuV X 0 7 S))) (nuS X 0 7 0 S), (nI k, nI (nuV X 0 7 S), nI (nuV X 0 7 (nuS X 0 7 0 S)))) := (if_neg (by decide)).trans (if_pos rfl)
theorem lnD_3 (X : Tx) (k : Nat) (S : PS) : lnD 3 X k S = if k = 0 then (nuS X 0 7 0 S, (nI 0, nI (nuV X 0 7 S), jN 1)) else (S, (nI k, jN 1, jN 1)) := (if_neg (by decide)).trans (if_neg (by decide))
theorem q_mwis {X : Tx} {h : Hp} {S : PS} {D : DN} (hX : okX X) (M : MP X h S) (H : MDL 2 h S D) : Okk (M_wishLine h (xw X S.1) (nI (tS X S.1))) (fun r => LO X (MDL 2) h r (gD 2 X S D)) := by
  obtain ⟨cc1, cc2⟩ := cl12
  obtain ⟨-, -, -, -, -, -, -, -, -, -, w10, w11, w12, w13, -⟩ := WC_l
  unfold M_wishLine gD
  by_cases c9 : kwd 2 X S.1 = 9
  · have ne := kw_x hX (s := 2) (by omega) c9
    unfold M_wishLine_j49
    rw [if_pos c9, w10, w11, w12, w13, if_neg (show ¬ lg_cmp (xw X S.1) (WC 10) = 0 from ne 0 (by decide)), if_neg (show ¬ lg_cmp (xw X S.1) (WC 11) = 0 from ne 1 (by decide)), if_neg (show ¬ lg_cmp (xw X S.1) (WC 12) = 0 from ne 2 (by decide)), if_neg (show ¬ lg_cmp (xw X S.1) (WC 13) = 0 from ne 3 (by decide)), if_pos rfl, q_failM M, sb]
    show Okk (if nI 0 = (0 : Int32) ∨ nI 0 = (1 : Int32) then some (nI 0, wr h 251 16 (nI (tS X S.1))) else none) _
    rw [if_pos (show nI 0 = (0 : Int32) ∨ nI 0 = (1 : Int32) from Or.inl rfl)]
    exact ok_mk ⟨pme_w (by omega), Or.inl (bo_fail M)⟩
  obtain ⟨hk4, hx, hk1⟩ := kw_y hX (s := 2) (by omega) c9
  have hk4' : kwd 2 X S.1 < 4 := hk4
  rw [if_neg c9, hx]
  generalize kwd 2 X S.1 = k at *
  have body : Okk (M_wishLine_j49 (nI (tS X S.1)) (nI k) h) (fun r => LO X (MDL 2) h r ((lnD 2 X k (nxt X (mny X (flD 2 D) S))).1, ap1 D (lnD 2 X k (nxt X (mny X (flD 2 D) S))).2)) := by
    unfold M_wishLine_j49 M_wishLine_j123
    rw [if_neg (ne_m1 (by omega))]
    refine q_mpre hX M H hk1 (lim := (10 : Int32)) rfl ?_
    intro h2 M2 H2 F2
    have hlt := fl_lt (s := 2) (X := X) (S := S) (D := D)
    generalize nxt X (mny X (flD 2 D) S) = S2 at *
    refine okb (q_take0 hX M2 (k := 1) (a := 0) (c := 7) (by omega) (by omega) (by omega)) ?_
    rintro ⟨r1, h3⟩ T1
    have o3 := ptb_o T1.1
    dsimp only at o3
    rcases to_or T1 M2.2.2.2.2.1 with B | ⟨d1, n1, e1, M3, v1, y1⟩
    · have e : r1 = nI 0 := B.2.1
      subst e
      dsimp only
      rw [if_pos (show nI 0 = (0 : Int32) from rfl)]
      refine ok_mk ⟨fr_tr F2 (ptb_e T1.1), Or.inl ?_⟩
      rw [lnD_2]
      by_cases c : k < 2
      · rw [if_pos c]; exact bo_1 B
      · rw [if_neg c]; exact bo_1 B
    dsimp only at e1 M3 v1 ⊢
    subst e1
    rw [if_neg ne10]
    have fin : ∀ (c : Nat) (bar x4 : Int32), c < 10 → lnD 2 X k S2 = (nuS X 0 c bar (nuS X 0 7 0 S2), (nI k, nI (nuV X 0 7 S2), nI (nuV X 0 c (nuS X 0 7 0 S2)))) → ((nuS X 0 7 0 S2).2.1 = 0 → ∀ v, v ≤ c → (nI v = x4 ↔ bt bar v = true)) → Okk (M_wishLine_j117 (nI k) (2 : Int32) (0 : Int32) (nI c) x4 h3) (fun r => LO X (MDL 2) h r ((lnD 2 X k S2).1, ap1 D (lnD 2 X k S2).2)) := by
      intro c bar x4 hc eL hb
      have h0 := lnD_0 (s := 2) (X := X) (k := k) (S := S2)
      rw [eL] at h0 ⊢
      unfold M_wishLine_j117 M_wishLine_j123
      rw [cl0]
      refine okb (q_takeB hX M3 (k := 2) (a := 0) (c := c) (bar := bar) (x4 := x4) (by omega) (by omega) hc hb) ?_
      rintro ⟨r2, h4⟩ T2
      have o4 := ptb_o T2.1
      dsimp only at o4
      have F4 : Fr pMe h h4 := fr_tr F2 (fr_tr (ptb_e T1.1) (ptb_e T2.1))
      rcases to_or T2 n1 with B | ⟨d2, n2, e2, M4, v2, y2⟩
      · have e : r2 = nI 0 := B.2.1
        subst e
        dsimp only
        rw [if_pos (show nI 0 = (0 : Int32) from rfl)]
        exact ok_mk ⟨F4, Or.inl B⟩
      dsimp only at e2 M4 v2 ⊢
      subst e2
      rw [if_neg ne10, bnd_eq]
      have o5 : ∀ c i, ¬ (c = 262 ∧ i = 0) → (wr h4 262 0 (nI k)).1 c i = h4.1 c i := fun c i hc => by rw [wr_i, if_neg hc]
      refine okb (q_keepL (s := 2) (X := X) (S := nuS X 0 c bar (nuS X 0 7 0 S2)) (D := D) (d := (nI k, nI (nuV X 0 7 S2), nI (nuV X 0 c (nuS X 0 7 0 S2)))) (by omega) (by omega) (mp_fr M4 (fun c i hc => o5 c i (by omega)) rfl) (mdl_fr H2 (fun c => h0 c) (fun c i hc => by rw [o5 _ _ (by omega), o4 _ _ (by omega), o3 _ _ (by omega)])) (fun c => hlt (h0 c)) (fun c => ?_) (wd := (3 : Int32)) (lim := (10 : Int32)) rfl rfl) ?_
      · rw [if_neg (by omega)]
        refine ⟨wr_at _ _ _ _, ?_, ?_⟩
        · rw [wr_p _ _ _ _ (by omega), o4 _ _ (by omega), v1, (y1 (nuS_0 c).1).1]
        · rw [wr_p _ _ _ _ (by omega), v2, (y2 c).1]
      rintro h6 ⟨M6, H6, F6⟩
      exact ok_mk ⟨fr_tr F4 (fr_tr (pme_w (by omega)) F6), Or.inr ⟨n2, rfl, M6, H6⟩⟩
    unfold M_wishLine_j101
    have hv := tV_lt d1
    by_cases c : k < 2
    · have n2 : ¬ (2 : Int32) ≤ nI k := fun e => by have := (nI_leI (a := 2) (by omega) (by omega)).mp e; omega
      rw [if_neg n2, if_neg n2]
      refine fin 9 0 (-1 : Int32) (by omega) (by rw [lnD_2, if_pos c]) (fun _ v hv => ?_)
      rw [show bt 0 v = false from b_0 v]
      exact ⟨fun e => absurd e (ne_m1 (by omega)), fun e => absurd e (by decide)⟩
    · have n2 : (2 : Int32) ≤ nI k := (nI_leI (a := 2) (by omega) (by omega)).mpr (by omega)
      rw [if_pos n2, if_pos n2, cc1]
      refine fin 7 (sh (nI 1) (nI (nuV X 0 7 S2))) (h3.1 262 1) (by omega) (by rw [lnD_2, if_neg c]) (fun c v hv => ?_)
      obtain ⟨a1, a2⟩ := y1 c
      rw [v1, a1]
      exact bar_v (by omega) (by omega)
  rcases (by omega : k = 0 ∨ k = 1 ∨ k = 2 ∨ k = 3) with rfl | rfl | rfl | rfl
  · rw [if_pos (show lg_cmp (WC (kB 2 + 0)) (1751474546 : Int64) = 0 by decide +kernel)]
    exact body
  · rw [if_neg (show ¬ lg_cmp (WC (kB 2 + 1)) (1751474546 : Int64) = 0 by decide +kernel), if_pos (show lg_cmp (WC (kB 2 + 1)) (1936225646 : Int64) = 0 by decide +kernel)]
    exact body
  · rw [if_neg (show ¬ lg_cmp (WC (kB 2 + 2)) (1751474546 : Int64) = 0 by decide +kernel), if_neg (show ¬ lg_cmp (WC (kB 2 + 2)) (1936225646 : Int64) = 0 by decide +kernel), if_pos (show lg_cmp (WC (kB 2 + 2)) (418497262196 : Int64) = 0 by decide +kernel)]
    exact body
  · rw [if_neg (show ¬ lg_cmp (WC (kB 2 + 3)) (1751474546 : Int64) = 0 by decide +kernel), if_neg (show ¬ lg_cmp (WC (kB 2 + 3)) (1936225646 : Int64) = 0 by decide +kernel), if_neg (show ¬ lg_cmp (WC (kB 2 + 3)) (418497262196 : Int64) = 0 by decide +kernel), if_pos (show lg_cmp (WC (kB 2 + 3)) (108187867505765 : Int64) = 0 by decide +kernel)]
    exact body
theorem q_mhea {X : Tx} {h : Hp} {S : PS} {D : DN} (hX : okX X) (M : MP X h S) (H : MDL 3 h S D) : Okk (M_hearingLine h (xw X S.1) (nI (tS X S.1))) (fun r => LO X (MDL 3) h r (gD 3 X S D)) := by
  obtain ⟨-, -, -, -, -, -, -, -, -, -, -, -, -, -, w14, w15⟩ := WC_l
  unfold M_hearingLine gD
  by_cases c9 : kwd 3 X S.1 = 9
  · have ne := kw_x hX (s := 3) (by omega) c9
    rw [if_pos c9, w14, w15, if_neg (show ¬ lg_cmp (xw X S.1) (WC 14) = 0 from ne 0 (by decide)), if_neg (show ¬ lg_cmp (xw X S.1) (WC 15) = 0 from ne 1 (by decide)), q_failM M, sb]
    show Okk (if nI 0 = (0 : Int32) ∨ nI 0 = (1 : Int32) then some (nI 0, wr h 251 16 (nI (tS X S.1))) else none) _
    rw [if_pos (show nI 0 = (0 : Int32) ∨ nI 0 = (1 : Int32) from Or.inl rfl)]
    exact ok_mk ⟨pme_w (by omega), Or.inl (bo_fail M)⟩
  obtain ⟨hk2, hx, hk1⟩ := kw_y hX (s := 3) (by omega) c9
  have hk2' : kwd 3 X S.1 < 2 := hk2
  rw [if_neg c9, hx]
  generalize kwd 3 X S.1 = k at *
  have body : Okk (M_hearingLine_j21 (WC (kB 3 + k)) (nI (tS X S.1)) h) (fun r => LO X (MDL 3) h r ((lnD 3 X k (nxt X (mny X (flD 3 D) S))).1, ap1 D (lnD 3 X k (nxt X (mny X (flD 3 D) S))).2)) := by
    unfold M_hearingLine_j21
    rw [cl0]
    refine q_mpre hX M H hk1 (lim := (7 : Int32)) rfl ?_
    intro h2 M2 H2 F2
    have hlt := fl_lt (s := 3) (X := X) (S := S) (D := D)
    generalize nxt X (mny X (flD 3 D) S) = S2 at *
    rw [bnd_eq]
    have o3 : ∀ c i, ¬ (c = 262 ∧ i = 0) → (wr h2 262 0 (-1)).1 c i = h2.1 c i := fun c i hc => by rw [wr_i, if_neg hc]
    have M3 : MP X (wr h2 262 0 (-1)) S2 := mp_fr M2 (fun c i hc => o3 c i (by omega)) rfl
    have i0 : (wr h2 262 0 (-1)).1 262 0 = jN 1 := wr_at _ _ _ _
    have F3 : Fr pMe h (wr h2 262 0 (-1)) := fr_tr F2 (pme_w (by omega))
    generalize wr h2 262 0 (-1) = h3 at *
    have fin : ∀ h4 G, MP X h4 G.1 → lnD 3 X k S2 = G → (∀ c i, c = 261 → h4.1 c i = h2.1 c i) → Fr pMe h h4 → G.1.2.1 ≠ 1 → (G.1.2.1 = 0 → h4.1 262 0 = G.2.2.1) → Okk (M_hearingLine_j61 h4) (fun r => LO X (MDL 3) h r ((lnD 3 X k S2).1, ap1 D (lnD 3 X k S2).2)) := by
      intro h4 G M4 eL o4 F4 n1 y1
      have h0 := lnD_0 (s := 3) (X := X) (k := k) (S := S2)
      rw [eL] at h0 ⊢
      unfold M_hearingLine_j61
      refine okb (q_keepL (s := 3) (X := X) (S := G.1) (D := D) (d := G.2) (by omega) (by omega) M4 (mdl_fr H2 (fun c => h0 c) o4) (fun c => hlt (h0 c)) (fun c => ?_) (wd := (1 : Int32)) (lim := (7 : Int32)) rfl rfl) ?_
      · rw [if_pos rfl]
        exact y1 c
      rintro h6 ⟨M6, H6, F6⟩
      exact ok_mk ⟨fr_tr F4 F6, Or.inr ⟨n1, rfl, M6, H6⟩⟩
    rcases (by omega : k = 0 ∨ k = 1) with rfl | rfl
    · have eL := lnD_3 X 0 S2
      rw [if_pos rfl] at eL
      rw [if_pos (show lg_cmp (WC (kB 3 + 0)) (448377483876 : Int64) = 0 by decide +kernel)]
      refine okb (q_take0 hX M3 (k := 0) (a := 0) (c := 7) (by omega) (by omega) (by omega)) ?_
      rintro ⟨r1, h4⟩ T1
      have o4 := ptb_o T1.1
      dsimp only at o4
      rcases to_or T1 M3.2.2.2.2.1 with B | ⟨d1, n1, e1, M4, v1, y1⟩
      · have e : r1 = nI 0 := B.2.1
        subst e
        dsimp only
        rw [if_pos (show nI 0 = (0 : Int32) from rfl), eL]
        exact ok_mk ⟨fr_tr F3 (ptb_e T1.1), Or.inl B⟩
      dsimp only at e1 M4 v1 ⊢
      subst e1
      rw [if_neg ne10]
      exact fin h4 _ M4 eL (fun c i hc => by rw [o4 _ _ (by omega), o3 _ _ (by omega)]) (fr_tr F3 (ptb_e T1.1)) n1 (fun c => by rw [v1, (y1 c).1])
    · have eL := lnD_3 X 1 S2
      rw [if_neg (by decide)] at eL
      rw [if_neg (show ¬ lg_cmp (WC (kB 3 + 1)) (448377483876 : Int64) = 0 by decide +kernel)]
      exact fin h3 _ M3 eL (fun c i hc => o3 _ _ (by omega)) F3 M3.2.2.2.2.1 (fun _ => i0)
  rcases (by omega : k = 0 ∨ k = 1) with rfl | rfl
  · rw [if_pos (show lg_cmp (WC (kB 3 + 0)) (448377483876 : Int64) = 0 by decide +kernel)]
    exact body
  · rw [if_neg (show ¬ lg_cmp (WC (kB 3 + 1)) (448377483876 : Int64) = 0 by decide +kernel), if_pos (show lg_cmp (WC (kB 3 + 1)) (32485536600843109 : Int64) = 0 by decide +kernel)]
    exact body
theorem lo_r {α : Type} {X : Tx} {MI : Hp → PS → α → Prop} {h : Hp} {r : Int32 × Hp} {G : PS × α} (L : LO X MI h r G) : (if r.1 = 0 ∨ r.1 = 1 then some (r.1, r.2) else none) = some r := by
  refine if_pos ?_
  rcases L.2 with B | B
  · exact Or.inl B.2.1
  · exact Or.inr B.2.1
theorem q_mlofI {X : Tx} {h : Hp} {S : PS} {D : Inn × Int32} (hX : okX X) (M : MP X h S) (H : MDI h S D) (h22 : h.1 251 22 = nI 1) : Okk (M_lineOf h (nI 0) (xw X S.1) (nI (tS X S.1))) (fun r => LO X MDI h r (gI X S D)) := by
  unfold M_lineOf
  rw [if_pos (show nI 0 = (0 : Int32) from rfl)]
  refine okb (q_minn hX M H h22) ?_
  rintro ⟨r1, r2⟩ L
  have e := lo_r L
  dsimp only at e ⊢
  rw [e]
  exact ok_mk L
theorem q_mlofL {s : Nat} (s1 : 1 ≤ s) (s2 : s < 4) {X : Tx} {h : Hp} {S : PS} {D : DN} (hX : okX X) (M : MP X h S) (H : MDL s h S D) : Okk (M_lineOf h (nI s) (xw X S.1) (nI (tS X S.1))) (fun r => LO X (MDL s) h r (gD s X S D)) := by
  unfold M_lineOf
  rw [if_neg (show ¬ nI s = (0 : Int32) from ne_nI (b := 0) (by omega) (by omega) (by omega))]
  rcases (by omega : s = 1 ∨ s = 2 ∨ s = 3) with rfl | rfl | rfl
  · rw [if_pos (show nI 1 = (1 : Int32) from rfl)]
    refine okb (q_meve hX M H) ?_
    rintro ⟨r1, r2⟩ L
    have e := lo_r L
    dsimp only at e ⊢
    rw [e]
    exact ok_mk L
  · rw [if_neg (show ¬ nI 2 = (1 : Int32) by decide +kernel), if_pos (show nI 2 = (2 : Int32) from rfl)]
    refine okb (q_mwis hX M H) ?_
    rintro ⟨r1, r2⟩ L
    have e := lo_r L
    dsimp only at e ⊢
    rw [e]
    exact ok_mk L
  · rw [if_neg (show ¬ nI 3 = (1 : Int32) by decide +kernel), if_neg (show ¬ nI 3 = (2 : Int32) by decide +kernel)]
    refine okb (q_mhea hX M H) ?_
    rintro ⟨r1, r2⟩ L
    have e := lo_r L
    dsimp only at e ⊢
    rw [e]
    exact ok_mk L
theorem mK_i : ∀ a, a ≤ 4 → (nI (mK a) = (0 : Int32) ↔ a = 0) ∧ (nI (mK a) = (2 : Int32) ↔ a = 1) ∧ (nI (mK a) = (4 : Int32) ↔ a = 3) := by decide +kernel
theorem q_mloop {α : Type} {s : Nat} {X : Tx} (hX : okX X) (g : PS → α → PS × α) (MI : Hp → PS → α → Prop) (hfr : ∀ h h' S S' D, MI h S D → (S'.2.1 = 0 → S.2.1 = 0) → (∀ c i, c = 261 ∨ (c = 251 ∧ i = 21) → h'.1 c i = h.1 c i) → MI h' S' D) (hstep : ∀ h S D, MP X h S → MI h S D → h.1 251 22 = nI 1 → Okk (M_lineOf h (nI s) (xw X S.1) (nI (tS X S.1))) (fun r => LO X MI h r (g S D))) (hpr : ∀ S D, S.2.1 ≠ 1 → S.1 ≤ X.2 → (stp X g S D).1.2.1 = 1 ∨ (S.1 < (stp X g S D).1.1 ∧ (stp X g S D).1.1 ≤ X.2)) {h : Hp} {S : PS} {D : α} (M : MP X h S) (I : MI h S D) : Okk (M_lines h (nI s)) (fun r => Fr pMe h r.2 ∧ (BO (runN X (stp X g) 601 S D).1 r ∨ ((runN X (stp X g) 601 S D).1.2.1 ≠ 1 ∧ r.1 = nI 1 ∧ MP X r.2 (runN X (stp X g) 601 S D).1 ∧ MI r.2 (runN X (stp X g) 601 S D).1 (runN X (stp X g) 601 S D).2 ∧ tK X (runN X (stp X g) 601 S D).1.1 = 0))) := by
  have hl := hX.1
  generalize eF : runN X (stp X g) 601 S D = F
  unfold M_lines M_lines_l2
  refine lp_gh _ (fun n z => Fr pMe h z.2 ∧ (BO F.1 z ∨ ∃ S' D', z.1 = nI 1 ∧ MP X z.2 S' ∧ MI z.2 S' D' ∧ X.2 - S'.1 < n ∧ runN X (stp X g) n S' D' = F)) _ ?_ 601 _ ⟨fr_rfl, Or.inr ⟨S, D, rfl, M, I, by omega, eF⟩⟩
  rintro n ⟨z1, z2⟩ ⟨F', L⟩
  dsimp only at F'
  unfold M_lines_b2
  dsimp only
  rcases L with B | ⟨S', D', e1, M', I', hm, er⟩
  · have e : z1 = nI 0 := B.2.1
    subst e
    rw [if_pos (show nI 0 = (0 : Int32) from rfl)]
    unfold M_lines_j74
    rw [if_pos (show nI 0 = (0 : Int32) ∨ nI 0 = (1 : Int32) from Or.inl rfl)]
    exact okmr (ok_mk ⟨F', Or.inl B⟩)
  dsimp only at e1 M' I'
  subst e1
  have hk4 := tK_le X S'.1
  have hp' := M'.2.2.1
  have hn' := M'.2.2.2.2.1
  have ek : z2.1 251 13 = nI (mK (tK X S'.1)) := M'.2.1.2.2.1
  have es : z2.1 251 12 = nI (tS X S'.1) := M'.2.1.2.1
  obtain ⟨i0, i2, i4⟩ := mK_i _ hk4
  rw [if_neg ne10, ek]
  by_cases c0 : tK X S'.1 = 0
  · rw [if_pos (i0.mpr c0)]
    unfold M_lines_j74
    rw [if_pos (show nI 1 = (0 : Int32) ∨ nI 1 = (1 : Int32) from Or.inr rfl)]
    rw [run_s (Or.inr c0)] at er
    subst er
    exact okmr (ok_mk ⟨F', Or.inr ⟨hn', rfl, M', I', c0⟩⟩)
  rw [if_neg (fun e => c0 (i0.mp e)), es, bnd_eq, bnd_eq]
  have oy : ∀ c i, ¬ (c = 251 ∧ i = 22) → (wr z2 251 22 (1 : Int32)).1 c i = z2.1 c i := fun c i hc => by rw [wr_i, if_neg hc]
  have eyL : (wr z2 251 22 (1 : Int32)).2 = z2.2 := rfl
  have My : MP X (wr z2 251 22 (1 : Int32)) S' := mp_fr M' (fun c i hc => oy c i (by omega)) rfl
  have Iy : MI (wr z2 251 22 (1 : Int32)) S' D' := hfr _ _ _ _ _ I' (fun c => c) (fun c i hc => oy c i (by omega))
  have y22 : (wr z2 251 22 (1 : Int32)).1 251 22 = nI 1 := wr_at _ _ _ _
  have Fy : Fr pMe h (wr z2 251 22 (1 : Int32)) := fr_tr F' (pme_w (by omega))
  have ey : (wr z2 251 22 (1 : Int32)).1 251 13 = nI (mK (tK X S'.1)) := by rw [oy _ _ (by omega), ek]
  generalize wr z2 251 22 (1 : Int32) = y at *
  obtain ⟨n', rfl⟩ : ∃ n', n = n' + 1 := ⟨n - 1, by omega⟩
  have er2 : runN X (stp X g) n' (stp X g S' D').1 (stp X g S' D').2 = F := by
    rw [← er]
    exact (if_neg (fun c => by
      rcases c with c | c
      · exact hn' c
      · exact c0 c)).symm
  have done : Okk (M_lines_j41 (nI s) (nI (tS X S'.1)) (nI s) (xw X S'.1) y) (Sum.elim (fun s' : Int32 × Hp => ∃ m, m < n' + 1 ∧ (Fr pMe h s'.2 ∧ (BO F.1 s' ∨ ∃ S' D', s'.1 = nI 1 ∧ MP X s'.2 S' ∧ MI s'.2 S' D' ∧ X.2 - S'.1 < m ∧ runN X (stp X g) m S' D' = F))) (fun r => Fr pMe h r.2 ∧ (BO F.1 r ∨ (F.1.2.1 ≠ 1 ∧ r.1 = nI 1 ∧ MP X r.2 F.1 ∧ MI r.2 F.1 F.2 ∧ tK X F.1.1 = 0)))) := by
    unfold M_lines_j41 M_lines_j63 M_lines_j71
    refine okb (hstep y S' D' My Iy y22) ?_
    rintro ⟨r1, h1⟩ ⟨F1, L⟩
    have F2 : Fr pMe h h1 := fr_tr Fy F1
    rcases L with B | ⟨n1, e1, M1, I1⟩
    · have e : r1 = nI 0 := B.2.1
      subst e
      dsimp only
      rw [if_pos (show nI 0 = (0 : Int32) from rfl), if_pos (show nI 0 = (0 : Int32) from rfl)]
      have e2 : (stp X g S' D').1 = (g S' D').1 := fns_1 B.1
      have e3 : F.1 = (g S' D').1 := by
        rw [← er2, run_s (Or.inl (by rw [e2]; exact B.1)), e2]
      exact ok_mk ⟨n', by omega, F2, Or.inl (by rw [e3]; exact B)⟩
    dsimp only at e1 M1 I1 ⊢
    subst e1
    have hk4' := tK_le X (g S' D').1.1
    have ek1 : h1.1 251 13 = nI (mK (tK X (g S' D').1.1)) := M1.2.1.2.2.1
    obtain ⟨-, -, j4⟩ := mK_i _ hk4'
    rw [if_neg ne10, ek1]
    by_cases c3 : tK X (g S' D').1.1 = 3
    · rw [if_pos (j4.mpr c3), if_neg ne10]
      refine okb (q_mnext hX M1 (by omega)) ?_
      rintro h2 ⟨M2, F3⟩
      have o3 := pmk_o F3
      have e2 : (stp X g S' D').1 = nxt X (g S' D').1 := by
        show fnS X (g S' D').1 = _
        unfold fnS
        rw [if_neg n1, if_pos c3]
      have e3 : (stp X g S' D').2 = (g S' D').2 := rfl
      refine ok_mk ⟨n', by omega, fr_tr F2 (pmk_e F3), Or.inr ⟨(stp X g S' D').1, (stp X g S' D').2, rfl, by rw [e2]; exact M2, by rw [e2, e3]; exact hfr _ _ _ _ _ I1 (fun c => by rw [nxt_f] at c; exact c) (fun c i hc => o3 c i (by omega)), ?_, er2⟩⟩
      rcases hpr S' D' hn' hp' with q | q
      · rw [e2, nxt_f] at q
        exact absurd q n1
      · omega
    · rw [if_neg (fun e => c3 (j4.mp e)), q_failM M1, sb]
      dsimp only
      rw [if_pos (show nI 0 = (0 : Int32) from rfl)]
      have e2 : (stp X g S' D').1 = frm X (g S' D').1 := by
        show fnS X (g S' D').1 = _
        unfold fnS
        rw [if_neg n1, if_neg c3]
      have e3 : F.1 = frm X (g S' D').1 := by
        rw [← er2, run_s (Or.inl (by rw [e2]; exact frm_1 X _)), e2]
      exact ok_mk ⟨n', by omega, fr_tr F2 (pme_w (by omega)), Or.inl (by rw [e3]; exact bo_fail M1)⟩
  rw [ey]
  by_cases c1 : tK X S'.1 = 1
  · have ew : y.2 = xw X S'.1 := by
      rw [eyL, M'.2.1.2.2.2.2 c1]
      exact (if_pos c1).symm
    rw [if_pos (i2.mpr c1), ew]
    exact done
  · have ew : (0 : Int64) = xw X S'.1 := (if_neg c1).symm
    rw [if_neg (fun e => c1 (i2.mp e)), ew]
    exact done
