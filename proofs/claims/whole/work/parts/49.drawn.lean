/-! ===== L3: drawn asked ===== -/
theorem tl_pdr {h h' : Hp} (F : Fr pdr h h') : Tl h h' := tl_fr F (fun c i hc => by
  have hc' : (c = 57 ∧ 6 ≤ i ∧ i ≤ 9) ∨ (59 ≤ c ∧ c ≤ 63) ∨ (70 ≤ c ∧ c < 90) := hc
  omega)
/-- what is answered of a state after drawn nights -/
def dA (n : Inn) (s : St) (u : Nat) (x : Int32) : Int32 := if x = nI 0 then sF s else if x = nI 1 then sJ s else if x = nI 2 then sT (sP s) 8 else if x = nI 3 then nI u else if iz x 10 (nG n) = true then sH s (x.toNatClampNeg - 10) else if iz x 20 (nT n) = true then (if bL (sB s (x.toNatClampNeg - 20)) = 0 then nI 0 else (bR (sB s (x.toNatClampNeg - 20)) (bL (sB s (x.toNatClampNeg - 20)) - 1)).1) else if iz x 30 (nT n) = true then nI (bU (sB s (x.toNatClampNeg - 30))) else jN 2
theorem q_kdA {h : Hp} {n : Inn} {s : St} {u : Nat} (X : CX h n) (hw : wI n) (C : CS h s) (W : wS n s) (x : Int32) : (if x = (0 : Int32) then (some ((h.1 57 8), h)) else (if x = (1 : Int32) then (some ((h.1 57 9), h)) else (if x = (2 : Int32) then ((S_paidByAll h).bind fun r12 => some (r12, h)) else (if x = (3 : Int32) then (some (nI u, h)) else ((K_drawnFact h 57 x).bind fun r14 => some (r14, h)))))) = some (dA n s u x, h) := by
  obtain ⟨a, ha, h6, H, hk, h5, hg⟩ := cx_g X
  have hT5 := hw.1
  have hG := hw.2.2.1
  unfold dA
  by_cases c0 : x = nI 0
  · rw [if_pos (show x = (0 : Int32) from c0), if_pos c0, C.2.2.2.2.1]
  rw [if_neg (show ¬ x = (0 : Int32) from c0), if_neg c0]
  by_cases c1 : x = nI 1
  · rw [if_pos (show x = (1 : Int32) from c1), if_pos c1, C.2.2.2.2.2]
  rw [if_neg (show ¬ x = (1 : Int32) from c1), if_neg c1]
  by_cases c2 : x = nI 2
  · rw [if_pos (show x = (2 : Int32) from c2), if_pos c2, q_paidAll C]; rfl
  rw [if_neg (show ¬ x = (2 : Int32) from c2), if_neg c2]
  by_cases c3 : x = nI 3
  · rw [if_pos (show x = (3 : Int32) from c3), if_pos c3]
  rw [if_neg (show ¬ x = (3 : Int32) from c3), if_neg c3]
  have eK : ∀ v, K_drawnFact h 57 x = some v → ((K_drawnFact h 57 x).bind fun r14 => some (r14, h)) = some (v, h) := fun v e => by rw [e]; rfl
  refine eK _ ?_
  unfold K_drawnFact K_drawnFact_j71 K_drawnFact_j97 K_drawnFact_j110
  rw [if_pos rfl, h6, nI_clamp (by omega), if_pos hk, hg, h5, show K_isOf x (10 : Int32) (nI (nG n)) = some (bI (iz x 10 (nG n))) from q_isOf x (a := 10) (by omega) (by omega), sb, bI_it0]
  by_cases b1 : iz x 10 (nG n) = true
  · obtain ⟨g, hg1, -, rfl⟩ := iz_of b1
    rw [if_pos b1, if_pos b1, show nI (10 + g) - (10 : Int32) = nI g from (pk_sub (b := 10) (by omega)).trans (by rw [show 10 + g - 10 = g by omega]), (q_byG X hw C hg1).1, sb, nI_clamp (by omega), show 10 + g - 10 = g by omega]
  rw [if_neg b1, if_neg b1, show K_isOf x (20 : Int32) (nI (nT n)) = some (bI (iz x 20 (nT n))) from q_isOf x (a := 20) (by omega) (by omega), sb, bI_it0]
  by_cases b2 : iz x 20 (nT n) = true
  · obtain ⟨t, ht, -, rfl⟩ := iz_of b2
    obtain ⟨e1, e2⟩ := el_st t (by omega)
    have Ct := C.1 t (by omega)
    have Wt := (W.1 t (by omega)).1
    have hk6 := kp_le hw t
    obtain ⟨hl, hu⟩ := wB_u Wt (by omega)
    rw [if_pos b2, if_pos b2, show nI (20 + t) - (20 : Int32) = nI t from (pk_sub (b := 20) (by omega)).trans (by rw [show 20 + t - 20 = t by omega]), q_bat X hw ht, sb, if_neg (by omega), if_pos e2, nI_clamp (by omega), show 20 + t - 20 = t by omega, Ct.1]
    by_cases c : bL (sB s t) = 0
    · rw [if_pos c, (q_bget e2 Ct hl _).1, sb, c, if_neg (by
        rw [show nI 0 - (1 : Int32) = jN 1 from by decide +kernel, iz_jN 0 0 (by omega) (by omega)]
        exact Bool.false_ne_true)]
    · rw [if_neg c, show nI (bL (sB s t)) - (1 : Int32) = nI (bL (sB s t) - 1) from pk_sub (b := 1) (by omega), (q_bnI e2 Ct hl (show bL (sB s t) - 1 < bL (sB s t) by omega)).1, sb]
  rw [if_neg b2, if_neg b2, show K_isOf x (30 : Int32) (nI (nT n)) = some (bI (iz x 30 (nT n))) from q_isOf x (a := 30) (by omega) (by omega), sb, bI_it0]
  by_cases b3 : iz x 30 (nT n) = true
  · obtain ⟨t, ht, -, rfl⟩ := iz_of b3
    obtain ⟨e1, e2⟩ := el_st t (by omega)
    rw [if_pos b3, if_pos b3, show nI (30 + t) - (30 : Int32) = nI t from (pk_sub (b := 30) (by omega)).trans (by rw [show 30 + t - 30 = t by omega]), q_bat X hw ht, sb, if_neg (by omega), if_pos e2, nI_clamp (by omega), show 30 + t - 30 = t by omega, (C.1 t (by omega)).2.1]
  · rw [if_neg b3, if_neg b3, if_pos rfl]; rfl
theorem q_mdA {h : Hp} {n : Inn} {s : St} {u : Nat} (X : MX h n) (hw : wI n) (C : MS h s) (W : wS n s) (hu : h.1 251 56 = nI u) {x : Int32} (hx : iz x 0 4 = true ∨ iz x 10 (nG n) = true ∨ iz x 20 (nT n) = true ∨ iz x 30 (nT n) = true) : M_drawn_j127 x h = some (dA n s u x, h) := by
  have hT5 := hw.1
  have hG := hw.2.2.1
  have l0 : ln 270 = 8 ∧ ln 266 = 5 ∧ ln 263 = 80 ∧ ln 267 = 5 := by decide +kernel
  have lt : ∀ a k, k < 2 ^ 31 → a < 2 ^ 31 → (nI k < nI a ↔ k < a) := fun a k h1 h2 => nI_ltI h1 h2
  unfold M_drawn_j127 M_drawn_j255 M_drawn_j193
  rcases hx with hx | hx | hx | hx
  · obtain ⟨v, hv, -, rfl⟩ := iz_0 hx
    rw [if_pos (show nI v < (30 : Int32) from (lt 30 v (by omega) (by omega)).mpr (by omega)), if_pos (show nI v < (20 : Int32) from (lt 20 v (by omega) (by omega)).mpr (by omega))]
    unfold dA
    rcases (by omega : v = 0 ∨ v = 1 ∨ v = 2 ∨ v = 3) with rfl | rfl | rfl | rfl
    · rw [if_pos (show nI 0 = (0 : Int32) from rfl), if_pos rfl, C.2.2.2.2.1]
    · rw [if_neg (show ¬ nI 1 = (0 : Int32) by decide +kernel), if_pos (show nI 1 = (1 : Int32) from rfl), if_neg (show ¬ nI 1 = nI 0 by decide +kernel), if_pos rfl, C.2.2.2.2.2]
    · rw [if_neg (show ¬ nI 2 = (0 : Int32) by decide +kernel), if_neg (show ¬ nI 2 = (1 : Int32) by decide +kernel), if_pos (show nI 2 = (2 : Int32) from rfl), if_neg (show ¬ nI 2 = nI 0 by decide +kernel), if_neg (show ¬ nI 2 = nI 1 by decide +kernel), if_pos rfl, q_mpaid C]; rfl
    · rw [if_neg (show ¬ nI 3 = (0 : Int32) by decide +kernel), if_neg (show ¬ nI 3 = (1 : Int32) by decide +kernel), if_neg (show ¬ nI 3 = (2 : Int32) by decide +kernel), if_pos (show nI 3 = (3 : Int32) from rfl), if_neg (show ¬ nI 3 = nI 0 by decide +kernel), if_neg (show ¬ nI 3 = nI 1 by decide +kernel), if_neg (show ¬ nI 3 = nI 2 by decide +kernel), if_pos rfl, hu]
  · obtain ⟨g, hg1, -, rfl⟩ := iz_of hx
    rw [if_pos (show nI (10 + g) < (30 : Int32) from (lt 30 _ (by omega) (by omega)).mpr (by omega)), if_pos (show nI (10 + g) < (20 : Int32) from (lt 20 _ (by omega) (by omega)).mpr (by omega)), if_neg (show ¬ nI (10 + g) = (0 : Int32) from ne_nI (b := 0) (by omega) (by omega) (by omega)), if_neg (show ¬ nI (10 + g) = (1 : Int32) from ne_nI (b := 1) (by omega) (by omega) (by omega)), if_neg (show ¬ nI (10 + g) = (2 : Int32) from ne_nI (b := 2) (by omega) (by omega) (by omega)), if_neg (show ¬ nI (10 + g) = (3 : Int32) from ne_nI (b := 3) (by omega) (by omega) (by omega)), show nI (10 + g) - (10 : Int32) = nI g from (pk_sub (b := 10) (by omega)).trans (by rw [show 10 + g - 10 = g by omega]), l0.1, if_pos (nI_in (show g < 8 by omega) (by omega)), nI_clamp (by omega), (C.2.1 g (by omega)).1]
    unfold dA
    rw [if_neg (ne_nI (by omega) (by omega) (by omega)), if_neg (ne_nI (by omega) (by omega) (by omega)), if_neg (ne_nI (by omega) (by omega) (by omega)), if_neg (ne_nI (by omega) (by omega) (by omega)), if_pos hx, nI_clamp (by omega), show 10 + g - 10 = g by omega]
  · obtain ⟨t, ht, -, rfl⟩ := iz_of hx
    obtain ⟨c3, c4, c5, c6, cR⟩ := C.1 t (by omega)
    have Wt := (W.1 t (by omega)).1
    have hk6 := kp_le hw t
    obtain ⟨hl, hu2⟩ := wB_u Wt (by omega)
    have b1 : iz (nI (20 + t)) 10 (nG n) = false := by rw [iz_nI _ _ (by omega), decide_eq_false (by omega)]
    rw [if_pos (show nI (20 + t) < (30 : Int32) from (lt 30 _ (by omega) (by omega)).mpr (by omega)), if_neg (show ¬ nI (20 + t) < (20 : Int32) from fun c => by have := (lt 20 _ (by omega) (by omega)).mp c; omega), bnd_eq, show nI (20 + t) - (20 : Int32) = nI t from (pk_sub (b := 20) (by omega)).trans (by rw [show 20 + t - 20 = t by omega]), l0.2.1, if_pos (nI_in (show t < 5 by omega) (by omega)), if_pos (nI_in (show t < 5 by omega) (by omega))]
    have ec : h.1 266 (nI t).toNatClampNeg = nI (bL (sB s t)) := by rw [nI_clamp (by omega), c3]
    unfold dA
    rw [if_neg (ne_nI (by omega) (by omega) (by omega)), if_neg (ne_nI (by omega) (by omega) (by omega)), if_neg (ne_nI (by omega) (by omega) (by omega)), if_neg (ne_nI (by omega) (by omega) (by omega)), if_neg (show ¬ iz (nI (20 + t)) 10 (nG n) = true by rw [b1]; exact Bool.false_ne_true), if_pos hx, nI_clamp (show 20 + t < 2 ^ 31 by omega), show 20 + t - 20 = t by omega]
    by_cases c : bL (sB s t) = 0
    · rw [if_pos (show h.1 266 (nI t).toNatClampNeg = 0 by rw [ec, c]; rfl), if_pos c]; rfl
    · rw [if_neg (show ¬ h.1 266 (nI t).toNatClampNeg = 0 by rw [ec]; exact ne_nI (b := 0) (by omega) (by omega) c), if_neg c]
      have ei : (16 : Int32) * nI t + h.1 266 (nI t).toNatClampNeg - (1 : Int32) = nI (16 * t + (bL (sB s t) - 1)) := by
        rw [ec, show (16 : Int32) * nI t = nI (16 * t) from pk_mul 16 t, nI_add, show nI (16 * t + bL (sB s t)) - (1 : Int32) = nI (16 * t + bL (sB s t) - 1) from pk_sub (b := 1) (by omega), show 16 * t + bL (sB s t) - 1 = 16 * t + (bL (sB s t) - 1) by omega]
      rw [ei, l0.2.2.1, if_pos (nI_in (by omega) (by omega)), nI_clamp (show 16 * t + (bL (sB s t) - 1) < 2 ^ 31 by omega), (cR (bL (sB s t) - 1) (by omega)).1]
  · obtain ⟨t, ht, -, rfl⟩ := iz_of hx
    have b1 : iz (nI (30 + t)) 10 (nG n) = false := by rw [iz_nI _ _ (by omega), decide_eq_false (by omega)]
    have b2 : iz (nI (30 + t)) 20 (nT n) = false := by rw [iz_nI _ _ (by omega), decide_eq_false (by omega)]
    rw [if_neg (show ¬ nI (30 + t) < (30 : Int32) from fun c => by have := (lt 30 _ (by omega) (by omega)).mp c; omega), show nI (30 + t) - (30 : Int32) = nI t from (pk_sub (b := 30) (by omega)).trans (by rw [show 30 + t - 30 = t by omega]), l0.2.2.2, if_pos (nI_in (show t < 5 by omega) (by omega)), nI_clamp (show t < 2 ^ 31 by omega), (C.1 t (by omega)).2.1]
    unfold dA
    rw [if_neg (ne_nI (by omega) (by omega) (by omega)), if_neg (ne_nI (by omega) (by omega) (by omega)), if_neg (ne_nI (by omega) (by omega) (by omega)), if_neg (ne_nI (by omega) (by omega) (by omega)), if_neg (show ¬ iz (nI (30 + t)) 10 (nG n) = true by rw [b1]; exact Bool.false_ne_true), if_neg (show ¬ iz (nI (30 + t)) 20 (nT n) = true by rw [b2]; exact Bool.false_ne_true), if_pos hx, nI_clamp (show 30 + t < 2 ^ 31 by omega), show 30 + t - 30 = t by omega]
theorem dA_no {n : Inn} {s : St} {u : Nat} {x : Int32} (h0 : ¬ iz x 0 4 = true) (h1 : ¬ iz x 10 (nG n) = true) (h2 : ¬ iz x 20 (nT n) = true) (h3 : ¬ iz x 30 (nT n) = true) : dA n s u x = jN 2 := by
  have nv : ∀ i, i < 4 → ¬ x = nI i := by
    rintro i hi rfl
    rw [iz_nI 0 4 (by omega), decide_eq_true_eq] at h0
    omega
  unfold dA
  rw [if_neg (nv 0 (by omega)), if_neg (nv 1 (by omega)), if_neg (nv 2 (by omega)), if_neg (nv 3 (by omega)), if_neg h1, if_neg h2, if_neg h3]
theorem c40 (x : Int32) : (iz x 1 40 = true ↔ ¬ x < (1 : Int32) ∧ x ≤ (40 : Int32)) := by
  have e1 : (1 : Int32).toInt = 1 := rfl
  have e3 : (40 : Int32).toInt = 40 := rfl
  rw [iz_iff, i_lt, i_le, e1, e3]
  omega
theorem t_drawn {h : Hp} (I : Inv h) (x1 x2 x3 x4 : Int32) : Sm (K_drawn h x1 x2 x3 x4) (fun h1 => M_drawn h1 x1 x2 x3 x4) := by
  obtain ⟨len, c, z1, z2, z3, z4, z5, z6, h7, h8, -⟩ := I.1 0 (by omega)
  have c0 := (h7 0 (by omega)).1
  have eI := q_innAt h7 x1
  have em : M_in x3 (1 : Int32) (40 : Int32) = some (bI (iz x3 1 40)) := q_in x3 (a := 1) (b := 40) (by omega) (by omega)
  -- both say no at once
  have no : K_drawn h x1 x2 x3 x4 = some (jN 2, h) → Okk (M_drawn h x1 x2 x3 x4) (fun q => q.1 = jN 2 ∧ Inv q.2) → Sm (K_drawn h x1 x2 x3 x4) (fun h1 => M_drawn h1 x1 x2 x3 x4) := by
    intro e1 e2
    unfold Sm
    rw [e1]
    exact ok_mk e2
  by_cases b3 : iz x3 1 40 = true
  case neg =>
    refine no ?_ ?_
    · unfold K_drawn K_drawn_j34
      rw [eI, sb]
      by_cases b : iz x1 0 (c 0) = true
      · obtain ⟨k, hk, hk2, rfl⟩ := iz_0 b
        obtain ⟨n, hw, CHk, MHk⟩ := h8 k hk
        have H : CH h (8 + 6 * k) n := CHk
        rw [if_pos b, nI_clamp hk2, if_neg (by omega), if_pos H.1]
        by_cases cz : h.1 (8 + 6 * k) 5 = 0
        · rw [if_pos cz]; rfl
        · rw [if_neg cz]
          by_cases c1 : x3 < (1 : Int32)
          · rw [if_pos c1]; rfl
          · rw [if_neg c1, if_neg (fun c2 => b3 ((c40 x3).mpr ⟨c1, c2⟩))]; rfl
      · rw [if_neg b, if_pos rfl]; rfl
    · unfold M_drawn M_drawn_j91
      rw [bnd_eq, em, sb, bI_it0, if_neg b3]
      exact ok_mk ⟨rfl, inv_fr I w251⟩
  obtain ⟨c31, c32⟩ := (c40 x3).mp b3
  by_cases b : iz x1 0 (c 0) = true
  case neg =>
    refine no ?_ ?_
    · unfold K_drawn K_drawn_j34
      rw [eI, sb, if_neg b, if_pos rfl]; rfl
    · obtain ⟨h2, e1, e2⟩ := hand_no h7 w251 (eq_false_of_ne_true b) (h1 := wr h 251 0 0)
      unfold M_drawn M_drawn_j91
      rw [bnd_eq, em, sb, bI_it0, if_pos b3, e1, sb]
      exact ok_mk ⟨rfl, inv_fr I (tl_tr w251 e2)⟩
  obtain ⟨k, hk, hk2, rfl⟩ := iz_0 b
  obtain ⟨n, hw, CHk, MHk⟩ := h8 k hk
  have H : CH h (8 + 6 * k) n := CHk
  have MH' : MH h k n := by
    rw [show 2 * 0 + k = k by omega] at MHk
    exact MHk
  have hT5 := hw.1
  have hG := hw.2.2.1
  have ek : K_drawn h (nI k) x2 x3 x4 = if nI (nT n) = (0 : Int32) then some (jN 2, h) else ((S_draw h (8 + 6 * k) x2 x3).bind fun (r7, h8) => if x4 = (0 : Int32) then (some ((h8.1 57 8), h8)) else (if x4 = (1 : Int32) then (some ((h8.1 57 9), h8)) else (if x4 = (2 : Int32) then ((S_paidByAll h8).bind fun r12 => some (r12, h8)) else (if x4 = (3 : Int32) then (some (r7, h8)) else ((K_drawnFact h8 57 x4).bind fun r14 => some (r14, h8)))))) := by
    unfold K_drawn K_drawn_j34
    rw [eI, sb, if_pos b, nI_clamp hk2, if_neg (by omega), if_pos H.1, H.2.1, if_neg c31, if_pos c32]
    rfl
  by_cases cz : nT n = 0
  · refine no ?_ ?_
    · rw [ek, if_pos (show nI (nT n) = (0 : Int32) by rw [cz]; rfl)]
    · obtain ⟨h2, e1, X2, -, e3⟩ := hand_yes h7 hk MH' w251 (h1 := wr h 251 0 0)
      unfold M_drawn M_drawn_j91
      rw [bnd_eq, em, sb, bI_it0, if_pos b3, e1, sb]
      dsimp only
      rw [if_neg s1_0, (mx_g X2).1, if_pos (show nI (nT n) = 0 by rw [cz]; rfl)]
      exact ok_mk ⟨rfl, inv_fr I (tl_tr w251 e3)⟩
  obtain ⟨N, hN, hN2, rfl⟩ := iz_of b3
  unfold Sm
  rw [ek, if_neg (show ¬ nI (nT n) = (0 : Int32) from ne_nI (b := 0) (by omega) (by omega) cz)]
  refine okb (q_draw (x := x2) hw (by omega) (by omega) H (show 1 + N ≤ 40 by omega)) ?_
  rintro ⟨r1, g⟩ ⟨e1, e2, e3, e4⟩
  dsimp only at e1 e2 e3 e4
  subst e1
  have W := (dn_ok hw x2 (1 + N)).1
  dsimp only
  rw [q_kdA e2 hw e3 W x4]
  refine ok_mk ?_
  dsimp only
  have t1 : Tl h (wr g 251 0 0) := tl_tr (tl_pdr e4) w251
  obtain ⟨h2, d1, X2, -, d3⟩ := hand_yes h7 hk MH' t1
  obtain ⟨g4, g5⟩ := mx_g X2
  have I2 : Inv h2 := inv_fr I (tl_tr t1 d3)
  have play : iz x4 0 4 = true ∨ iz x4 10 (nG n) = true ∨ iz x4 20 (nT n) = true ∨ iz x4 30 (nT n) = true → Okk (M_drawn_j94 x2 (nI (1 + N)) x4 h2) (fun q => q.1 = dA n (dn n x2 (1 + N)).2.2 (dn n x2 (1 + N)).2.1 x4 ∧ Inv q.2) := by
    intro hv
    refine q_mdraws X2 hw (by omega) (by omega) ?_
    intro g' y1 y2 y3 y4
    rw [q_mdA y1 hw y2 W y3 hv]
    exact ok_mk ⟨rfl, inv_fr I2 (tl_pmd y4)⟩
  unfold M_drawn M_drawn_j91
  rw [bnd_eq, em, sb, bI_it0, if_pos b3, d1, sb]
  dsimp only
  rw [if_neg s1_0, g4, if_neg (show ¬ nI (nT n) = (0 : Int32) from ne_nI (b := 0) (by omega) (by omega) cz), show M_in x4 (0 : Int32) (3 : Int32) = some (bI (iz x4 0 4)) from q_in x4 (a := 0) (b := 3) (by omega) (by omega), sb, bI_it0]
  by_cases v0 : iz x4 0 4 = true
  · rw [if_pos v0]
    exact play (Or.inl v0)
  rw [if_neg v0, g5, show (9 : Int32) + nI (nG n) = nI (9 + nG n) from nI_add _ _, show M_in x4 (10 : Int32) (nI (9 + nG n)) = some (bI (iz x4 10 (nG n))) from (inT x4 (by omega)).1, sb, bI_it0]
  by_cases v1 : iz x4 10 (nG n) = true
  · rw [if_pos v1]
    exact play (Or.inr (Or.inl v1))
  rw [if_neg v1, show (19 : Int32) + nI (nT n) = nI (19 + nT n) from nI_add _ _, show M_in x4 (20 : Int32) (nI (19 + nT n)) = some (bI (iz x4 20 (nT n))) from (inT x4 (by omega)).2.1, sb, bI_it0]
  by_cases v2 : iz x4 20 (nT n) = true
  · rw [if_pos v2]
    exact play (Or.inr (Or.inr (Or.inl v2)))
  rw [if_neg v2, show (29 : Int32) + nI (nT n) = nI (29 + nT n) from nI_add _ _, show M_in x4 (30 : Int32) (nI (29 + nT n)) = some (bI (iz x4 30 (nT n))) from (inT x4 (by omega)).2.2.1, sb, bI_it0]
  by_cases v3 : iz x4 30 (nT n) = true
  · rw [if_pos v3]
    exact play (Or.inr (Or.inr (Or.inr v3)))
  rw [if_neg v3, dA_no v0 v1 v2 v3]
  exact ok_mk ⟨rfl, I2⟩
