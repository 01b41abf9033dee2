/-! ===== L3: what is told, asked ===== -/
/-- as Sm, of a call that changes nothing in the code -/
def Sp (h : Hp) (K : Option Int32) (M : Hp → Option (Int32 × Hp)) : Prop := Okk K (fun r => Okk (M h) (fun q => q.1 = r ∧ Inv q.2))
theorem t_fault {h : Hp} (I : Inv h) (x1 : Int32) : Sp h (K_fault h x1) (fun h1 => M_fault h1 x1) := by
  obtain ⟨len, c, z1, z2, z3, z4, z5, z6, h7, -⟩ := I.1 0 (by omega)
  have e5 : h.1 2 4 = h.1 254 0 := z5
  have e6 : h.1 2 5 = h.1 255 0 := z6 rfl
  have fin : ∀ v, M_fault h x1 = some (v, wr h 251 0 0) → Okk (M_fault h x1) (fun q => q.1 = v ∧ Inv q.2) := fun v e => by
    rw [e]
    exact ok_mk ⟨rfl, inv_fr I w251⟩
  have cl0 : Int32.toNatClampNeg 0 = 0 := by decide +kernel
  unfold K_fault K_fault_j28
  by_cases c0 : x1 = 0
  · rw [if_pos c0]
    refine ok_mk (fin _ ?_)
    unfold M_fault M_fault_j33
    rw [bnd_eq, if_pos c0, wr_c _ _ _ _ (by omega), cl0, e5]
  · rw [if_neg c0]
    by_cases c1 : x1 = (1 : Int32)
    · rw [if_pos c1]
      refine ok_mk (fin _ ?_)
      unfold M_fault M_fault_j33
      rw [bnd_eq, if_neg c0, if_pos c1, wr_c _ _ _ _ (by omega), cl0, e6]
    · rw [if_neg c1]
      refine ok_mk (fin _ ?_)
      unfold M_fault M_fault_j33
      rw [bnd_eq, if_neg c0, if_neg c1]
theorem t_count {h : Hp} (I : Inv h) (x1 : Int32) : Sp h (K_count h x1) (fun h1 => M_count h1 x1) := by
  obtain ⟨len, c, z1, z2, z3, z4, z5, z6, h7, -⟩ := I.1 0 (by omega)
  unfold K_count K_count_j22
  rw [show K_isOf x1 (0 : Int32) (4 : Int32) = some (bI (iz x1 0 4)) from q_isOf x1 (a := 0) (n := 4) (by omega) (by omega), sb, bI_it0]
  have em : M_in x1 (0 : Int32) (3 : Int32) = some (bI (iz x1 0 4)) := q_in x1 (a := 0) (b := 3) (by omega) (by omega)
  by_cases b : iz x1 0 4 = true
  · obtain ⟨s, hs, -, rfl⟩ := iz_0 b
    have e : D_countOf h 2 (nI s) = some (nI (c s)) := q_count (r := 0) (by omega) hs h7
    rw [if_pos b, e, sb]
    refine ok_mk ?_
    show Okk (M_count h (nI s)) _
    unfold M_count M_count_j25
    have e3 : h.1 256 s = nI (c s) := by
      have := (h7 s hs).2.2
      rw [show 4 * 0 + s = s by omega] at this
      exact this
    rw [bnd_eq, em, b, sb, if_neg bt_0, if_pos (show inb (nI s) (ln 256) by rw [show ln 256 = 16 by decide +kernel]; exact nI_in (by omega) (by omega)), nI_clamp (by omega), wr_c _ _ _ _ (by omega), e3]
    exact ok_mk ⟨rfl, inv_fr I w251⟩
  · rw [if_neg b]
    refine ok_mk ?_
    show Okk (M_count h x1) _
    unfold M_count M_count_j25
    rw [bnd_eq, em, sb, bI_it0, if_neg b]
    exact ok_mk ⟨rfl, inv_fr I w251⟩
theorem t_heard {h : Hp} (I : Inv h) (x1 x2 : Int32) : Sp h (K_heard h x1 x2) (fun h1 => M_heard h1 x1 x2) := by
  obtain ⟨len, c, z1, z2, z3, z4, z5, z6, h7, h8, h9, h10, h11, -⟩ := I.1 0 (by omega)
  have c3 := (h7 3 (by omega)).1
  have eL : D_linesAt h 2 (3 : Int32) x1 = some (if iz x1 0 (c 3) = true then 20 + 8 * 2 + 4 * x1.toNatClampNeg else 0) := q_linesAt h7 2 (by omega) x1
  have t1 : Tl h (wr (wr h 251 0 0) 251 49 x1) := tl_tr w251 w251
  have mod : M_heard h x1 x2 = if iz x1 0 (c 3) = true then (if x2 = (-1 : Int32) then ((M_rowsHeard (wr (wr h 251 0 0) 251 49 x1)).bind fun r6 => (M_heard_j52 r6 (wr (wr h 251 0 0) 251 49 x1))) else ((M_rowsHeard (wr (wr h 251 0 0) 251 49 x1)).bind fun r7 => (M_in x2 (0 : Int32) (r7 - (1 : Int32))).bind fun r8 => if r8 = 0 then ((M_heard_j52 (-2 : Int32) (wr (wr h 251 0 0) 251 49 x1))) else ((M_heardIn (wr (wr h 251 0 0) 251 49 x1) x2).bind fun r10 => (M_heard_j52 r10 (wr (wr h 251 0 0) 251 49 x1))))) else some (jN 2, wr (wr h 251 0 0) 251 49 x1) := by
    unfold M_heard
    rw [bnd_eq, q_hasH (cls_fr h7 w251) x1, sb]
    dsimp only
    rw [bI_it0]
    rfl
  have fin : ∀ v, M_heard h x1 x2 = some (v, wr (wr h 251 0 0) 251 49 x1) → Okk (M_heard h x1 x2) (fun q => q.1 = v ∧ Inv q.2) := fun v e => by
    rw [e]
    exact ok_mk ⟨rfl, inv_fr I t1⟩
  unfold K_heard K_heard_j45
  rw [eL, sb]
  by_cases b : iz x1 0 (c 3) = true
  case neg =>
    rw [if_neg b, if_pos rfl]
    refine ok_mk (fin _ ?_)
    rw [mod, if_neg b]; rfl
  obtain ⟨e, he, he2, rfl⟩ := iz_0 b
  obtain ⟨m, f, CLe, MGe, D⟩ := h11 e he
  have hm7 := MGe.2.1
  have CL' : CL h (20 + 8 * 2 + 4 * e) m f := by
    have e1 : tA 0 + 18 + 8 * 2 + 4 * e = 20 + 8 * 2 + 4 * e := by show 2 + 18 + 8 * 2 + 4 * e = _; omega
    rw [e1] at CLe
    exact CLe
  have MG' : MG h e m f := by
    rw [show 2 * 0 + e = e by omega] at MGe
    exact MGe
  obtain ⟨eR, eH⟩ := q_rowsH (mg_tl MG' t1) (wr_at _ _ _ _)
  rw [if_pos b] at mod
  unfold M_heard_j52 at mod
  rw [eR] at mod
  rw [if_pos b, nI_clamp he2, if_neg (by omega), CL'.2.1]
  by_cases c1 : x2 = jN 1
  · rw [if_pos (show x2 = (-1 : Int32) from c1), if_pos CL'.1]
    rw [if_pos (show x2 = (-1 : Int32) from c1)] at mod
    exact ok_mk (fin _ mod)
  · rw [if_neg (show ¬ x2 = (-1 : Int32) from c1), if_pos CL'.1, q_lhas CL', sb, bI_it0]
    rw [if_neg (show ¬ x2 = (-1 : Int32) from c1), sb, show M_in x2 (0 : Int32) (nI m - (1 : Int32)) = some (bI (iz x2 0 m)) from q_in0 x2 (by omega), sb, bI_it0] at mod
    by_cases b2 : iz x2 0 m = true
    · obtain ⟨i, hi, hi2, rfl⟩ := iz_0 b2
      rw [if_pos b2, (q_lget CL' hi).2.1, sb]
      rw [if_pos b2, eH i hi, sb] at mod
      exact ok_mk (fin _ mod)
    · rw [if_neg b2]
      rw [if_neg b2] at mod
      exact ok_mk (fin _ mod)
theorem q_lineOf {h : Hp} {a m : Nat} {f : Nat → Pst} (C : CL h a m f) (ha : a ≠ 0) (x y : Int32) : K_lineOf h a x y = some (if x = jN 1 then (if y = nI 0 then nI m else jN 2) else if iz x 0 m = true then (if y = nI 0 then (f x.toNatClampNeg).1 else if y = nI 1 then (f x.toNatClampNeg).2.1 else if y = nI 2 then (f x.toNatClampNeg).2.2 else jN 2) else jN 2) := by
  unfold K_lineOf K_lineOf_j25
  rw [if_neg ha, C.2.1]
  by_cases c1 : x = jN 1
  · rw [if_pos (show x = (-1 : Int32) from c1), if_pos c1]
    by_cases c2 : y = nI 0
    · rw [if_pos (show y = (0 : Int32) from c2), if_pos C.1, if_pos c2]
    · rw [if_neg (show ¬ y = (0 : Int32) from c2), if_neg c2]; rfl
  · rw [if_neg (show ¬ x = (-1 : Int32) from c1), if_neg c1, if_pos C.1, q_lhas C, sb, bI_it0]
    by_cases b2 : iz x 0 m = true
    · obtain ⟨i, hi, hi2, rfl⟩ := iz_0 b2
      obtain ⟨l1, l2, l3⟩ := q_lget C hi
      rw [if_pos b2, if_pos b2, l1, l2, l3, nI_clamp hi2]
      by_cases c2 : y = nI 0
      · rw [if_pos (show y = (0 : Int32) from c2), if_pos c2]; rfl
      · rw [if_neg (show ¬ y = (0 : Int32) from c2), if_neg c2]
        by_cases c3 : y = nI 1
        · rw [if_pos (show y = (1 : Int32) from c3), if_pos c3]; rfl
        · rw [if_neg (show ¬ y = (1 : Int32) from c3), if_neg c3]
          by_cases c4 : y = nI 2
          · rw [if_pos (show y = (2 : Int32) from c4), if_pos c4]; rfl
          · rw [if_neg (show ¬ y = (2 : Int32) from c4), if_neg c4]; rfl
    · rw [if_neg b2, if_neg b2]; rfl
theorem q_wishOf {h : Hp} {k m : Nat} {f : Nat → Pst} (E : MW h k m f) (he : h.1 251 43 = nI k) : M_wishMany h = some (nI m) ∧ ∀ i, i < m → M_wishOf h (nI i) (nI 0) = some (f i).1 ∧ M_wishOf h (nI i) (nI 1) = some (f i).2.1 ∧ M_wishOf h (nI i) (nI 2) = some (f i).2.2 := by
  obtain ⟨hk, hm, h0, hR⟩ := E
  constructor
  · unfold M_wishMany
    rw [he]
    simp (disch := omega) only [KK, K1, K2, NN, bnd_eq, sb, smr, bI_ite, if_pos, if_neg, if_true, if_false, or_true, true_or, true_and, and_true, g01, lnm, h0]
  · intro i hi
    obtain ⟨e1, e2, e3⟩ := hR i hi
    unfold M_wishOf
    rw [he]
    simp (disch := omega) only [KK, K1, K2, NN, bnd_eq, sb, smr, bI_ite, if_pos, if_neg, if_true, if_false, or_true, true_or, true_and, and_true, g01, lnm]
    rw [show 31 * k + 1 + 3 * i + 0 = 31 * k + (1 + 3 * i) by omega, show 31 * k + 1 + 3 * i + 1 = 31 * k + (1 + 3 * i + 1) by omega, show 31 * k + 1 + 3 * i + 2 = 31 * k + (1 + 3 * i + 2) by omega, e1, e2, e3]
    exact ⟨rfl, rfl, rfl⟩
/-- the model's answer about a line, of evenings and of wishes -/
theorem mline {x y : Int32} {m : Nat} {f : Nat → Pst} {h2 : Hp} {many : Option Int32} {of : Int32 → Int32 → Option Int32} (hm : m < 2 ^ 30) (e1 : many = some (nI m)) (e2 : ∀ i, i < m → of (nI i) (nI 0) = some (f i).1 ∧ of (nI i) (nI 1) = some (f i).2.1 ∧ of (nI i) (nI 2) = some (f i).2.2) : (if x = (-1 : Int32) then (if y = 0 then (many.bind fun r7 => some (r7, h2)) else some ((-2 : Int32), h2)) else (many.bind fun r8 => (M_in x (0 : Int32) (r8 - (1 : Int32))).bind fun r9 => if r9 = 0 then some ((-2 : Int32), h2) else ((M_in y (0 : Int32) (2 : Int32)).bind fun r11 => if r11 = 0 then some ((-2 : Int32), h2) else ((of x y).bind fun r13 => some (r13, h2))))) = some ((if x = jN 1 then (if y = nI 0 then nI m else jN 2) else if iz x 0 m = true then (if y = nI 0 then (f x.toNatClampNeg).1 else if y = nI 1 then (f x.toNatClampNeg).2.1 else if y = nI 2 then (f x.toNatClampNeg).2.2 else jN 2) else jN 2), h2) := by
  rw [e1]
  by_cases c1 : x = jN 1
  · rw [if_pos (show x = (-1 : Int32) from c1), if_pos c1]
    by_cases c2 : y = nI 0
    · rw [if_pos (show y = (0 : Int32) from c2), if_pos c2]; rfl
    · rw [if_neg (show ¬ y = (0 : Int32) from c2), if_neg c2]; rfl
  · rw [if_neg (show ¬ x = (-1 : Int32) from c1), if_neg c1, sb, show M_in x (0 : Int32) (nI m - (1 : Int32)) = some (bI (iz x 0 m)) from q_in0 x (by omega), sb, bI_it0]
    by_cases b2 : iz x 0 m = true
    case neg =>
      rw [if_neg b2, if_neg b2]; rfl
    obtain ⟨i, hi, hi2, rfl⟩ := iz_0 b2
    obtain ⟨l1, l2, l3⟩ := e2 i hi
    rw [if_pos b2, if_pos b2, nI_clamp hi2, q_in2, sb, bI_it0]
    by_cases b3 : iz y 0 3 = true
    · obtain ⟨v, hv, -, rfl⟩ := iz_0 b3
      rw [if_pos b3]
      rcases Nat.lt_or_ge v 1 with c | c
      · have : v = 0 := by omega
        subst this
        rw [l1, if_pos rfl]; rfl
      · rcases Nat.lt_or_ge v 2 with c2 | c2
        · have : v = 1 := by omega
          subst this
          rw [l2, if_neg (ne_nI (by omega) (by omega) (by omega)), if_pos rfl]; rfl
        · have : v = 2 := by omega
          subst this
          rw [l3, if_neg (ne_nI (by omega) (by omega) (by omega)), if_neg (ne_nI (by omega) (by omega) (by omega)), if_pos rfl]; rfl
    · have nv : ∀ i, i < 3 → ¬ y = nI i := by
        rintro i hi rfl
        rw [iz_nI 0 3 (by omega), decide_eq_true_eq] at b3
        omega
      rw [if_neg b3, if_neg (nv 0 (by omega)), if_neg (nv 1 (by omega)), if_neg (nv 2 (by omega))]; rfl
theorem t_deed {h : Hp} (I : Inv h) (x1 x2 x3 : Int32) : Sp h (K_deed h x1 x2 x3) (fun h1 => M_deed h1 x1 x2 x3) := by
  obtain ⟨len, c, z1, z2, z3, z4, z5, z6, h7, h8, h9, -⟩ := I.1 0 (by omega)
  have c1 := (h7 1 (by omega)).1
  have eL : D_linesAt h 2 (1 : Int32) x1 = some (if iz x1 0 (c 1) = true then 20 + 8 * 0 + 4 * x1.toNatClampNeg else 0) := q_linesAt h7 0 (by omega) x1
  have t1 : Tl h (wr (wr h 251 0 0) 251 26 x1) := tl_tr w251 w251
  have fin : ∀ v, M_deed h x1 x2 x3 = some (v, wr (wr h 251 0 0) 251 26 x1) → Okk (M_deed h x1 x2 x3) (fun q => q.1 = v ∧ Inv q.2) := fun v e => by
    rw [e]
    exact ok_mk ⟨rfl, inv_fr I t1⟩
  unfold K_deed
  rw [eL, sb]
  by_cases b : iz x1 0 (c 1) = true
  case neg =>
    rw [if_neg b]
    unfold K_lineOf
    rw [if_pos rfl, sb]
    refine ok_mk (fin _ ?_)
    unfold M_deed
    rw [bnd_eq, q_evenings (cls_fr h7 w251) x1, sb]
    dsimp only
    rw [bI_it0, if_neg b]
  obtain ⟨e, he, he2, rfl⟩ := iz_0 b
  obtain ⟨m, f, CLe, MEe, D⟩ := h9 e he
  have hm40 := MEe.2.1
  have CL' : CL h (20 + 8 * 0 + 4 * e) m f := by
    have e1 : tA 0 + 18 + 8 * 0 + 4 * e = 20 + 8 * 0 + 4 * e := by show 2 + 18 + 8 * 0 + 4 * e = _; omega
    rw [e1] at CLe
    exact CLe
  have ME' : ME h e m f := by
    rw [show 2 * 0 + e = e by omega] at MEe
    exact MEe
  rw [if_pos b, nI_clamp he2, q_lineOf CL' (by omega), sb]
  refine ok_mk (fin _ ?_)
  have E2 := me_tl ME' t1
  have e26 : (wr (wr h 251 0 0) 251 26 (nI e)).1 251 26 = nI e := wr_at _ _ _ _
  unfold M_deed M_deed_j34 M_deed_j67 M_deed_j69
  rw [bnd_eq, q_evenings (cls_fr h7 w251) (nI e), sb]
  dsimp only
  rw [bI_it0, if_pos b]
  exact mline (by omega) (q_deeds E2 e26) (fun i hi => q_deedOf E2 e26 hi)
theorem t_wish {h : Hp} (I : Inv h) (x1 x2 x3 : Int32) : Sp h (K_wish h x1 x2 x3) (fun h1 => M_wish h1 x1 x2 x3) := by
  obtain ⟨len, c, z1, z2, z3, z4, z5, z6, h7, h8, h9, h10, -⟩ := I.1 0 (by omega)
  have c1 := (h7 2 (by omega)).1
  have eL : D_linesAt h 2 (2 : Int32) x1 = some (if iz x1 0 (c 2) = true then 20 + 8 * 1 + 4 * x1.toNatClampNeg else 0) := q_linesAt h7 1 (by omega) x1
  have t1 : Tl h (wr (wr h 251 0 0) 251 43 x1) := tl_tr w251 w251
  have fin : ∀ v, M_wish h x1 x2 x3 = some (v, wr (wr h 251 0 0) 251 43 x1) → Okk (M_wish h x1 x2 x3) (fun q => q.1 = v ∧ Inv q.2) := fun v e => by
    rw [e]
    exact ok_mk ⟨rfl, inv_fr I t1⟩
  unfold K_wish
  rw [eL, sb]
  by_cases b : iz x1 0 (c 2) = true
  case neg =>
    rw [if_neg b]
    unfold K_lineOf
    rw [if_pos rfl, sb]
    refine ok_mk (fin _ ?_)
    unfold M_wish
    rw [bnd_eq, q_hasW (cls_fr h7 w251) x1, sb]
    dsimp only
    rw [bI_it0, if_neg b]
  obtain ⟨e, he, he2, rfl⟩ := iz_0 b
  obtain ⟨m, f, CLe, MWe, D⟩ := h10 e he
  have hm10 := MWe.2.1
  have CL' : CL h (20 + 8 * 1 + 4 * e) m f := by
    have e1 : tA 0 + 18 + 8 * 1 + 4 * e = 20 + 8 * 1 + 4 * e := by show 2 + 18 + 8 * 1 + 4 * e = _; omega
    rw [e1] at CLe
    exact CLe
  have MW' : MW h e m f := by
    rw [show 2 * 0 + e = e by omega] at MWe
    exact MWe
  rw [if_pos b, nI_clamp he2, q_lineOf CL' (by omega), sb]
  refine ok_mk (fin _ ?_)
  obtain ⟨g1, g2⟩ := q_wishOf (mw_tl MW' t1) (wr_at _ _ _ _)
  unfold M_wish M_wish_j34 M_wish_j67 M_wish_j69
  rw [bnd_eq, q_hasW (cls_fr h7 w251) (nI e), sb]
  dsimp only
  rw [bI_it0, if_pos b]
  exact mline (by omega) g1 g2
theorem t_inn {h : Hp} (I : Inv h) (x1 x2 : Int32) : Sp h (K_inn h x1 x2) (fun h1 => M_inn h1 x1 x2) := by
  obtain ⟨len, c, z1, z2, z3, z4, z5, z6, h7, h8, -⟩ := I.1 0 (by omega)
  have c0 := (h7 0 (by omega)).1
  have eI := q_innAt h7 x1
  unfold K_inn
  rw [eI, sb]
  by_cases b : iz x1 0 (c 0) = true
  case neg =>
    rw [if_neg b, if_pos rfl]
    refine ok_mk ?_
    show Okk (M_inn h x1 x2) (fun q => q.1 = jN 1 ∧ Inv q.2)
    obtain ⟨h2, e1, e2⟩ := hand_no h7 w251 (eq_false_of_ne_true b) (h1 := wr h 251 0 0)
    unfold M_inn
    rw [bnd_eq, e1, sb]
    exact ok_mk ⟨rfl, inv_fr I (tl_tr w251 e2)⟩
  obtain ⟨k, hk, hk2, rfl⟩ := iz_0 b
  obtain ⟨n, hw, CHk, MHk⟩ := h8 k hk
  have H : CH h (8 + 6 * k) n := CHk
  have MH' : MH h k n := by
    rw [show 2 * 0 + k = k by omega] at MHk
    exact MHk
  have hT5 := hw.1
  have hG := hw.2.2.1
  rw [if_pos b, nI_clamp hk2, if_neg (by omega), H.2.1, H.2.2.1]
  obtain ⟨h2, e1, X2, -, e3⟩ := hand_yes h7 hk MH' w251 (h1 := wr h 251 0 0)
  obtain ⟨g4, g5⟩ := mx_g X2
  have fin : ∀ v, M_inn h (nI k) x2 = some (v, h2) → Okk (M_inn h (nI k) x2) (fun q => q.1 = v ∧ Inv q.2) := fun v e => by
    rw [e]
    exact ok_mk ⟨rfl, inv_fr I (tl_tr w251 e3)⟩
  have mod : M_inn h (nI k) x2 = (if iz x2 10 (nT n) = true then M_inn_j63 x2 h2 else if iz x2 20 (nT n) = true then M_inn_j63 x2 h2 else if iz x2 30 (nT n) = true then M_inn_j63 x2 h2 else if iz x2 40 (nG n) = true then ((M_of h2 (((17 : Int32) + x2) - (40 : Int32))).bind fun r20 => some (r20, h2)) else if iz x2 0 2 = true then ((M_of h2 x2).bind fun r19 => some (r19, h2)) else if iz x2 50 (nG n) = true then ((M_of h2 (((25 : Int32) + x2) - (50 : Int32))).bind fun r18 => some (r18, h2)) else some (jN 1, h2)) := by
    unfold M_inn M_inn_j154
    rw [bnd_eq, e1, sb]
    dsimp only
    rw [if_neg s1_0, g4, g5, show (9 : Int32) + nI (nT n) = nI (9 + nT n) from nI_add _ _, show (19 : Int32) + nI (nT n) = nI (19 + nT n) from nI_add _ _, show (29 : Int32) + nI (nT n) = nI (29 + nT n) from nI_add _ _, show (39 : Int32) + nI (nG n) = nI (39 + nG n) from nI_add _ _, show (49 : Int32) + nI (nG n) = nI (49 + nG n) from nI_add _ _]
    rw [show M_in x2 (10 : Int32) (nI (9 + nT n)) = some (bI (iz x2 10 (nT n))) from (inT x2 (by omega)).1, sb, bI_it0]
    rw [show M_in x2 (20 : Int32) (nI (19 + nT n)) = some (bI (iz x2 20 (nT n))) from (inT x2 (by omega)).2.1, sb, bI_it0]
    rw [show M_in x2 (30 : Int32) (nI (29 + nT n)) = some (bI (iz x2 30 (nT n))) from (inT x2 (by omega)).2.2.1, sb, bI_it0]
    rw [show M_in x2 (40 : Int32) (nI (39 + nG n)) = some (bI (iz x2 40 (nG n))) from (inT x2 (by omega)).2.2.2.1, sb, bI_it0]
    rw [show M_in x2 (0 : Int32) (1 : Int32) = some (bI (iz x2 0 2)) from q_in x2 (a := 0) (b := 1) (by omega) (by omega), sb, bI_it0]
    rw [show M_in x2 (50 : Int32) (nI (49 + nG n)) = some (bI (iz x2 50 (nG n))) from (inT x2 (by omega)).2.2.2.2, sb, bI_it0]
    rfl
  have m01 : M_of h2 (nI 0) = some (nI (nT n)) ∧ M_of h2 (nI 1) = some (nI (nG n)) := by
    obtain ⟨kk, hkk, f3, -, -, M0, M1, -⟩ := X2
    unfold M_of
    rw [f3]
    constructor
    · simp (disch := omega) only [KK, K1, K2, NN, bnd_eq, sb, smr, bI_ite, if_pos, if_neg, if_true, if_false, or_true, true_or, true_and, and_true, g01, lnm]
      rw [show 33 * kk + 0 = 33 * kk by omega, M0]
    · simp (disch := omega) only [KK, K1, K2, NN, bnd_eq, sb, smr, bI_ite, if_pos, if_neg, if_true, if_false, or_true, true_or, true_and, and_true, g01, lnm]
      rw [M1]
  have j63 : ∀ q t, q < 3 → t < nT n → M_inn_j63 (nI (10 * (q + 1) + t)) h2 = (M_ofTable h2 (nI t) (nI q)).bind fun r1 => some (r1, h2) := by
    intro q t hq ht
    unfold M_inn_j63
    rw [show rm (nI (10 * (q + 1) + t)) (10 : Int32) = nI t from (pk_rem (d := 10) (by omega) (by omega) (by omega)).trans (by rw [show (10 * (q + 1) + t) % 10 = t by omega]), show nI (10 * (q + 1) + t) / (10 : Int32) = nI (q + 1) from (pk_div (d := 10) (by omega) (by omega) (by omega)).trans (by rw [show (10 * (q + 1) + t) / 10 = q + 1 by omega]), show nI (q + 1) - (1 : Int32) = nI q from pk_sub (b := 1) (by omega)]
  by_cases d0 : x2 = nI 0
  · subst d0
    rw [if_pos (show nI 0 = (0 : Int32) from rfl), if_pos H.1]
    refine ok_mk (fin _ (mod.trans ?_))
    rw [if_neg (by rw [iz_nI _ _ (by omega)]; simp), if_neg (by rw [iz_nI _ _ (by omega)]; simp), if_neg (by rw [iz_nI _ _ (by omega)]; simp), if_neg (by rw [iz_nI _ _ (by omega)]; simp), if_pos (by decide +kernel), m01.1, sb]
  rw [if_neg (show ¬ x2 = (0 : Int32) from d0)]
  by_cases d1 : x2 = nI 1
  · subst d1
    rw [if_pos (show nI 1 = (1 : Int32) from rfl), if_pos H.1]
    refine ok_mk (fin _ (mod.trans ?_))
    rw [if_neg (by rw [iz_nI _ _ (by omega)]; simp), if_neg (by rw [iz_nI _ _ (by omega)]; simp), if_neg (by rw [iz_nI _ _ (by omega)]; simp), if_neg (by rw [iz_nI _ _ (by omega)]; simp), if_pos (by decide +kernel), m01.2, sb]
  have d2 : ¬ iz x2 0 2 = true := by
    intro hx
    obtain ⟨v, hv, -, rfl⟩ := iz_0 hx
    rcases Nat.lt_or_ge v 1 with c | c
    · have : v = 0 := by omega
      subst this; exact d0 rfl
    · have : v = 1 := by omega
      subst this; exact d1 rfl
  rw [if_neg (show ¬ x2 = (1 : Int32) from d1), if_pos H.1, show K_isOf x2 (10 : Int32) (nI (nT n)) = some (bI (iz x2 10 (nT n))) from q_isOf x2 (a := 10) (by omega) (by omega), sb, bI_it0]
  by_cases b1 : iz x2 10 (nT n) = true
  · obtain ⟨t, ht, -, rfl⟩ := iz_of b1
    rw [if_pos b1, show nI (10 + t) - (10 : Int32) = nI t from (pk_sub (b := 10) (by omega)).trans (by rw [show 10 + t - 10 = t by omega]), q_seatsOf H hw ht, sb]
    refine ok_mk (fin _ (mod.trans ?_))
    rw [if_pos b1, show 10 + t = 10 * (0 + 1) + t by omega, j63 0 t (by omega) ht, (q_ofT X2 hw ht).1, sb]
  rw [if_neg b1, show K_isOf x2 (20 : Int32) (nI (nT n)) = some (bI (iz x2 20 (nT n))) from q_isOf x2 (a := 20) (by omega) (by omega), sb, bI_it0]
  rw [if_neg b1] at mod
  by_cases b2 : iz x2 20 (nT n) = true
  · obtain ⟨t, ht, -, rfl⟩ := iz_of b2
    rw [if_pos b2, show nI (20 + t) - (20 : Int32) = nI t from (pk_sub (b := 20) (by omega)).trans (by rw [show 20 + t - 20 = t by omega]), q_keepsOf H hw (show t < 5 by omega), sb]
    refine ok_mk (fin _ (mod.trans ?_))
    rw [if_pos b2, show 20 + t = 10 * (1 + 1) + t by omega, j63 1 t (by omega) ht, (q_ofT X2 hw ht).2.1, sb]
    unfold kp
    rw [if_pos ht]
  rw [if_neg b2, show K_isOf x2 (30 : Int32) (nI (nT n)) = some (bI (iz x2 30 (nT n))) from q_isOf x2 (a := 30) (by omega) (by omega), sb, bI_it0]
  rw [if_neg b2] at mod
  by_cases b3 : iz x2 30 (nT n) = true
  · obtain ⟨t, ht, -, rfl⟩ := iz_of b3
    rw [if_pos b3, show nI (30 + t) - (30 : Int32) = nI t from (pk_sub (b := 30) (by omega)).trans (by rw [show 30 + t - 30 = t by omega]), q_priceOf H hw ht, sb]
    refine ok_mk (fin _ (mod.trans ?_))
    rw [if_pos b3, show 30 + t = 10 * (2 + 1) + t by omega, j63 2 t (by omega) ht, (q_ofT X2 hw ht).2.2, sb]
  rw [if_neg b3, show K_isOf x2 (40 : Int32) (nI (nG n)) = some (bI (iz x2 40 (nG n))) from q_isOf x2 (a := 40) (by omega) (by omega), sb, bI_it0]
  rw [if_neg b3] at mod
  by_cases b4 : iz x2 40 (nG n) = true
  · obtain ⟨g, hg, -, rfl⟩ := iz_of b4
    rw [if_pos b4, show nI (40 + g) - (40 : Int32) = nI g from (pk_sub (b := 40) (by omega)).trans (by rw [show 40 + g - 40 = g by omega]), q_quarrelsOf H hw hg, sb]
    refine ok_mk (fin _ (mod.trans ?_))
    rw [if_pos b4, show (17 : Int32) + nI (40 + g) - (40 : Int32) = nI 17 + nI g by rw [show (17 : Int32) + nI (40 + g) = nI (17 + (40 + g)) from nI_add _ _, show nI (17 + (40 + g)) - (40 : Int32) = nI (17 + (40 + g) - 40) from pk_sub (b := 40) (by omega), nI_add, show 17 + (40 + g) - 40 = 17 + g by omega], (q_ofG X2 (show g < 8 by omega)).1, sb]
  rw [if_neg b4, show K_isOf x2 (50 : Int32) (nI (nG n)) = some (bI (iz x2 50 (nG n))) from q_isOf x2 (a := 50) (by omega) (by omega), sb, bI_it0]
  rw [if_neg b4, if_neg d2] at mod
  by_cases b5 : iz x2 50 (nG n) = true
  · obtain ⟨g, hg, -, rfl⟩ := iz_of b5
    unfold K_inn_j147
    rw [if_pos b5, show nI (50 + g) - (50 : Int32) = nI g from (pk_sub (b := 50) (by omega)).trans (by rw [show 50 + g - 50 = g by omega]), q_lovesOf H hw hg, sb]
    refine ok_mk (fin _ (mod.trans ?_))
    rw [if_pos b5, show (25 : Int32) + nI (50 + g) - (50 : Int32) = nI 25 + nI g by rw [show (25 : Int32) + nI (50 + g) = nI (25 + (50 + g)) from nI_add _ _, show nI (25 + (50 + g)) - (50 : Int32) = nI (25 + (50 + g) - 50) from pk_sub (b := 50) (by omega), nI_add, show 25 + (50 + g) - 50 = 25 + g by omega], (q_ofG X2 (show g < 8 by omega)).2, sb]
  unfold K_inn_j147
  rw [if_neg b5]
  refine ok_mk (fin _ (mod.trans ?_))
  rw [if_neg b5]
  rfl
