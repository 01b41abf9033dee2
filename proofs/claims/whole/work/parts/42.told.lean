/-! ===== L3: what is told, asked ===== -/
/-- as Sm, of a call that changes nothing in the code -/
def Sp (h : Hp) (K : Option Int32) (M : Hp → Option (Int32 × Hp)) : Prop := Okk K (fun r => Okk (M h) (fun q => q.1 = r ∧ Inv q.2))
theorem t_fault {h : Hp} (I : Inv h) (x1 : Int32) : Sp h (K_fault h x1) (fun h1 => M_fault h1 x1) := by
  obtain ⟨len, c, z1, z2, z3, z4, z5, z6, h7, -⟩ := I.1 0 (by omega)
  have e5 : h.1 2 4 = h.1 254 0 := z5
  have e6 : h.1 2 5 = h.1 255 0 := z6
  have fin : ∀ v, M_fault h x1 = some (v, wr h 251 0 0) → Okk (M_fault h x1) (fun q => q.1 = v ∧ Inv q.2) := fun v e => by
    rw [e]
    exact ok_mk ⟨rfl, inv_fr I w251⟩
  have cl0 : Int32.toNatClampNeg 0 = 0 := by decide +kernel
  unfold K_fault K_fault_j28
  by_cases c0 : x1 = 0
  · rw [if_pos c0]
    refine ok_mk (fin _ ?_)
    unfold M_fault M_fault_j33
    rw [bnd_eq, if_pos c0, wr_c _ _ _ _ (by omega), cl0, e5]
  · rw [if_neg c0]
    by_cases c1 : x1 = (1 : Int32)
    · rw [if_pos c1]
      refine ok_mk (fin _ ?_)
      unfold M_fault M_fault_j33
      rw [bnd_eq, if_neg c0, if_pos c1, wr_c _ _ _ _ (by omega), cl0, e6]
    · rw [if_neg c1]
      refine ok_mk (fin _ ?_)
      unfold M_fault M_fault_j33
      rw [bnd_eq, if_neg c0, if_neg c1]
theorem t_count {h : Hp} (I : Inv h) (x1 : Int32) : Sp h (K_count h x1) (fun h1 => M_count h1 x1) := by
  obtain ⟨len, c, z1, z2, z3, z4, z5, z6, h7, -⟩ := I.1 0 (by omega)
  unfold K_count K_count_j22
  rw [show K_isOf x1 (0 : Int32) (4 : Int32) = some (bI (iz x1 0 4)) from q_isOf x1 (a := 0) (n := 4) (by omega) (by omega), sb, bI_it0]
  have em : M_in x1 (0 : Int32) (3 : Int32) = some (bI (iz x1 0 4)) := q_in x1 (a := 0) (b := 3) (by omega) (by omega)
  by_cases b : iz x1 0 4 = true
  · obtain ⟨s, hs, -, rfl⟩ := iz_0 b
    have e : D_countOf h 2 (nI s) = some (nI (c s)) := q_count (r := 0) (by omega) hs h7
    rw [if_pos b, e, sb]
    refine ok_mk ?_
    show Okk (M_count h (nI s)) _
    unfold M_count M_count_j25
    have e3 : h.1 256 s = nI (c s) := by
      have := (h7 s hs).2.2
      rw [show 4 * 0 + s = s by omega] at this
      exact this
    rw [bnd_eq, em, b, sb, if_neg bt_0, if_pos (show inb (nI s) (ln 256) by rw [show ln 256 = 16 by decide +kernel]; exact nI_in (by omega) (by omega)), nI_clamp (by omega), wr_c _ _ _ _ (by omega), e3]
    exact ok_mk ⟨rfl, inv_fr I w251⟩
  · rw [if_neg b]
    refine ok_mk ?_
    show Okk (M_count h x1) _
    unfold M_count M_count_j25
    rw [bnd_eq, em, sb, bI_it0, if_neg b]
    exact ok_mk ⟨rfl, inv_fr I w251⟩
theorem t_heard {h : Hp} (I : Inv h) (x1 x2 : Int32) : Sp h (K_heard h x1 x2) (fun h1 => M_heard h1 x1 x2) := by
  obtain ⟨len, c, z1, z2, z3, z4, z5, z6, h7, h8, h9, h10, h11, -⟩ := I.1 0 (by omega)
  have c3 := (h7 3 (by omega)).1
  have eL : D_linesAt h 2 (3 : Int32) x1 = some (if iz x1 0 (c 3) = true then 20 + 8 * 2 + 4 * x1.toNatClampNeg else 0) := q_linesAt h7 2 (by omega) x1
  have t1 : Tl h (wr (wr h 251 0 0) 251 49 x1) := tl_tr w251 w251
  have mod : M_heard h x1 x2 = if iz x1 0 (c 3) = true then (if x2 = (-1 : Int32) then ((M_rowsHeard (wr (wr h 251 0 0) 251 49 x1)).bind fun r6 => (M_heard_j52 r6 (wr (wr h 251 0 0) 251 49 x1))) else ((M_rowsHeard (wr (wr h 251 0 0) 251 49 x1)).bind fun r7 => (M_in x2 (0 : Int32) (r7 - (1 : Int32))).bind fun r8 => if r8 = 0 then ((M_heard_j52 (-2 : Int32) (wr (wr h 251 0 0) 251 49 x1))) else ((M_heardIn (wr (wr h 251 0 0) 251 49 x1) x2).bind fun r10 => (M_heard_j52 r10 (wr (wr h 251 0 0) 251 49 x1))))) else some (jN 2, wr (wr h 251 0 0) 251 49 x1) := by
    unfold M_heard
    rw [bnd_eq, q_hasH (cls_fr h7 w251) x1, sb]
    dsimp only
    rw [bI_it0]
    rfl
  have fin : ∀ v, M_heard h x1 x2 = some (v, wr (wr h 251 0 0) 251 49 x1) → Okk (M_heard h x1 x2) (fun q => q.1 = v ∧ Inv q.2) := fun v e => by
    rw [e]
    exact ok_mk ⟨rfl, inv_fr I t1⟩
  unfold K_heard K_heard_j45
  rw [eL, sb]
  by_cases b : iz x1 0 (c 3) = true
  case neg =>
    rw [if_neg b, if_pos rfl]
    refine ok_mk (fin _ ?_)
    rw [mod, if_neg b]; rfl
  obtain ⟨e, he, he2, rfl⟩ := iz_0 b
  obtain ⟨m, f, CLe, MGe, D⟩ := h11 e he
  have hm7 := MGe.2.1
  have CL' : CL h (20 + 8 * 2 + 4 * e) m f := by
    have e1 : tA 0 + 18 + 8 * 2 + 4 * e = 20 + 8 * 2 + 4 * e := by show 2 + 18 + 8 * 2 + 4 * e = _; omega
    rw [e1] at CLe
    exact CLe
  have MG' : MG h e m f := by
    rw [show 2 * 0 + e = e by omega] at MGe
    exact MGe
  obtain ⟨eR, eH⟩ := q_rowsH (mg_tl MG' t1) (wr_at _ _ _ _)
  rw [if_pos b] at mod
  unfold M_heard_j52 at mod
  rw [eR] at mod
  rw [if_pos b, nI_clamp he2, if_neg (by omega), CL'.2.1]
  by_cases c1 : x2 = jN 1
  · rw [if_pos (show x2 = (-1 : Int32) from c1), if_pos CL'.1]
    rw [if_pos (show x2 = (-1 : Int32) from c1)] at mod
    exact ok_mk (fin _ mod)
  · rw [if_neg (show ¬ x2 = (-1 : Int32) from c1), if_pos CL'.1, q_lhas CL', sb, bI_it0]
    rw [if_neg (show ¬ x2 = (-1 : Int32) from c1), sb, show (0 : Int32) = nI 0 from rfl, show (1 : Int32) = nI 1 from rfl, q_in0 x2 (by omega), sb, bI_ite] at mod
    by_cases b2 : iz x2 0 m = true
    · obtain ⟨i, hi, hi2, rfl⟩ := iz_0 b2
      rw [if_pos b2, (q_lget CL' hi).2.1, sb]
      rw [if_pos b2, eH i hi, sb] at mod
      exact ok_mk (fin _ mod)
    · rw [if_neg b2]
      rw [if_neg b2] at mod
      exact ok_mk (fin _ mod)
theorem q_lineOf {h : Hp} {a m : Nat} {f : Nat → Pst} (C : CL h a m f) (ha : a ≠ 0) (x y : Int32) : K_lineOf h a x y = some (if x = jN 1 then (if y = nI 0 then nI m else jN 2) else if iz x 0 m = true then (if y = nI 0 then (f x.toNatClampNeg).1 else if y = nI 1 then (f x.toNatClampNeg).2.1 else if y = nI 2 then (f x.toNatClampNeg).2.2 else jN 2) else jN 2) := by
  unfold K_lineOf K_lineOf_j25
  rw [if_neg ha, C.2.1]
  by_cases c1 : x = jN 1
  · rw [if_pos (show x = (-1 : Int32) from c1), if_pos c1]
    by_cases c2 : y = nI 0
    · rw [if_pos (show y = (0 : Int32) from c2), if_pos C.1, if_pos c2]
    · rw [if_neg (show ¬ y = (0 : Int32) from c2), if_neg c2]; rfl
  · rw [if_neg (show ¬ x = (-1 : Int32) from c1), if_neg c1, if_pos C.1, q_lhas C, sb, bI_it0]
    by_cases b2 : iz x 0 m = true
    · obtain ⟨i, hi, hi2, rfl⟩ := iz_0 b2
      obtain ⟨l1, l2, l3⟩ := q_lget C hi
      rw [if_pos b2, if_pos b2, l1, l2, l3, nI_clamp hi2]
      by_cases c2 : y = nI 0
      · rw [if_pos (show y = (0 : Int32) from c2), if_pos c2]; rfl
      · rw [if_neg (show ¬ y = (0 : Int32) from c2), if_neg c2]
        by_cases c3 : y = nI 1
        · rw [if_pos (show y = (1 : Int32) from c3), if_pos c3]; rfl
        · rw [if_neg (show ¬ y = (1 : Int32) from c3), if_neg c3]
          by_cases c4 : y = nI 2
          · rw [if_pos (show y = (2 : Int32) from c4), if_pos c4]; rfl
          · rw [if_neg (show ¬ y = (2 : Int32) from c4), if_neg c4]; rfl
    · rw [if_neg b2, if_neg b2]; rfl
theorem q_wishOf {h : Hp} {k m : Nat} {f : Nat → Pst} (E : MW h k m f) (he : h.1 251 43 = nI k) : M_wishMany h = some (nI m) ∧ ∀ i, i < m → M_wishOf h (nI i) (nI 0) = some (f i).1 ∧ M_wishOf h (nI i) (nI 1) = some (f i).2.1 ∧ M_wishOf h (nI i) (nI 2) = some (f i).2.2 := by
  obtain ⟨hk, hm, h0, hR⟩ := E
  constructor
  · unfold M_wishMany
    rw [he]
    simp (disch := omega) only [KK, K1, K2, NN, bnd_eq, sb, smr, bI_ite, if_pos, if_neg, if_true, if_false, or_true, true_or, true_and, and_true, g01, lnm, h0]
  · intro i hi
    obtain ⟨e1, e2, e3⟩ := hR i hi
    unfold M_wishOf
    rw [he]
    simp (disch := omega) only [KK, K1, K2, NN, bnd_eq, sb, smr, bI_ite, if_pos, if_neg, if_true, if_false, or_true, true_or, true_and, and_true, g01, lnm]
    rw [show 31 * k + 1 + 3 * i + 0 = 31 * k + (1 + 3 * i) by omega, show 31 * k + 1 + 3 * i + 1 = 31 * k + (1 + 3 * i + 1) by omega, show 31 * k + 1 + 3 * i + 2 = 31 * k + (1 + 3 * i + 2) by omega, e1, e2, e3]
    exact ⟨rfl, rfl, rfl⟩
/-- the model's answer about a line, of evenings and of wishes -/
theorem mline {x y : Int32} {m : Nat} {f : Nat → Pst} {h2 : Hp} {many : Option Int32} {of : Int32 → Int32 → Option Int32} (hm : m < 2 ^ 30) (e1 : many = some (nI m)) (e2 : ∀ i, i < m → of (nI i) (nI 0) = some (f i).1 ∧ of (nI i) (nI 1) = some (f i).2.1 ∧ of (nI i) (nI 2) = some (f i).2.2) : (if x = (-1 : Int32) then (if y = 0 then (many.bind fun r7 => some (r7, h2)) else some ((-2 : Int32), h2)) else (many.bind fun r8 => (M_in x (0 : Int32) (r8 - (1 : Int32))).bind fun r9 => if r9 = 0 then some ((-2 : Int32), h2) else ((M_in y (0 : Int32) (2 : Int32)).bind fun r11 => if r11 = 0 then some ((-2 : Int32), h2) else ((of x y).bind fun r13 => some (r13, h2))))) = some ((if x = jN 1 then (if y = nI 0 then nI m else jN 2) else if iz x 0 m = true then (if y = nI 0 then (f x.toNatClampNeg).1 else if y = nI 1 then (f x.toNatClampNeg).2.1 else if y = nI 2 then (f x.toNatClampNeg).2.2 else jN 2) else jN 2), h2) := by
  rw [e1]
  by_cases c1 : x = jN 1
  · rw [if_pos (show x = (-1 : Int32) from c1), if_pos c1]
    by_cases c2 : y = nI 0
    · rw [if_pos (show y = (0 : Int32) from c2), if_pos c2]; rfl
    · rw [if_neg (show ¬ y = (0 : Int32) from c2), if_neg c2]; rfl
  · rw [if_neg (show ¬ x = (-1 : Int32) from c1), if_neg c1, sb, show M_in x (0 : Int32) (nI m - (1 : Int32)) = some (bI (iz x 0 m)) from q_in0 x (by omega), sb, bI_it0]
    by_cases b2 : iz x 0 m = true
    case neg =>
      rw [if_neg b2, if_neg b2]; rfl
    obtain ⟨i, hi, hi2, rfl⟩ := iz_0 b2
    obtain ⟨l1, l2, l3⟩ := e2 i hi
    rw [if_pos b2, if_pos b2, nI_clamp hi2, q_in2, sb, bI_it0]
    by_cases b3 : iz y 0 3 = true
    · obtain ⟨v, hv, -, rfl⟩ := iz_0 b3
      rw [if_pos b3]
      rcases Nat.lt_or_ge v 1 with c | c
      · have : v = 0 := by omega
        subst this
        rw [l1, if_pos rfl]; rfl
      · rcases Nat.lt_or_ge v 2 with c2 | c2
        · have : v = 1 := by omega
          subst this
          rw [l2, if_neg (ne_nI (by omega) (by omega) (by omega)), if_pos rfl]; rfl
        · have : v = 2 := by omega
          subst this
          rw [l3, if_neg (ne_nI (by omega) (by omega) (by omega)), if_neg (ne_nI (by omega) (by omega) (by omega)), if_pos rfl]; rfl
    · have nv : ∀ i, i < 3 → ¬ y = nI i := by
        rintro i hi rfl
        rw [iz_nI 0 3 (by omega), decide_eq_true_eq] at b3
        omega
      rw [if_neg b3, if_neg (nv 0 (by omega)), if_neg (nv 1 (by omega)), if_neg (nv 2 (by omega))]; rfl
theorem t_deed {h : Hp} (I : Inv h) (x1 x2 x3 : Int32) : Sp h (K_deed h x1 x2 x3) (fun h1 => M_deed h1 x1 x2 x3) := by
  obtain ⟨len, c, z1, z2, z3, z4, z5, z6, h7, h8, h9, -⟩ := I.1 0 (by omega)
  have c1 := (h7 1 (by omega)).1
  have eL : D_linesAt h 2 (1 : Int32) x1 = some (if iz x1 0 (c 1) = true then 20 + 8 * 0 + 4 * x1.toNatClampNeg else 0) := q_linesAt h7 0 (by omega) x1
  have t1 : Tl h (wr (wr h 251 0 0) 251 26 x1) := tl_tr w251 w251
  have fin : ∀ v, M_deed h x1 x2 x3 = some (v, wr (wr h 251 0 0) 251 26 x1) → Okk (M_deed h x1 x2 x3) (fun q => q.1 = v ∧ Inv q.2) := fun v e => by
    rw [e]
    exact ok_mk ⟨rfl, inv_fr I t1⟩
  unfold K_deed
  rw [eL, sb]
  by_cases b : iz x1 0 (c 1) = true
  case neg =>
    rw [if_neg b]
    unfold K_lineOf
    rw [if_pos rfl, sb]
    refine ok_mk (fin _ ?_)
    unfold M_deed
    rw [bnd_eq, q_evenings (cls_fr h7 w251) x1, sb]
    dsimp only
    rw [bI_it0, if_neg b]
  obtain ⟨e, he, he2, rfl⟩ := iz_0 b
  obtain ⟨m, f, CLe, MEe, D⟩ := h9 e he
  have hm40 := MEe.2.1
  have CL' : CL h (20 + 8 * 0 + 4 * e) m f := by
    have e1 : tA 0 + 18 + 8 * 0 + 4 * e = 20 + 8 * 0 + 4 * e := by show 2 + 18 + 8 * 0 + 4 * e = _; omega
    rw [e1] at CLe
    exact CLe
  have ME' : ME h e m f := by
    rw [show 2 * 0 + e = e by omega] at MEe
    exact MEe
  rw [if_pos b, nI_clamp he2, q_lineOf CL' (by omega), sb]
  refine ok_mk (fin _ ?_)
  have E2 := me_tl ME' t1
  have e26 : (wr (wr h 251 0 0) 251 26 (nI e)).1 251 26 = nI e := wr_at _ _ _ _
  unfold M_deed M_deed_j34 M_deed_j67 M_deed_j69
  rw [bnd_eq, q_evenings (cls_fr h7 w251) (nI e), sb]
  dsimp only
  rw [bI_it0, if_pos b]
  exact mline (by omega) (q_deeds E2 e26) (fun i hi => q_deedOf E2 e26 hi)
theorem t_wish {h : Hp} (I : Inv h) (x1 x2 x3 : Int32) : Sp h (K_wish h x1 x2 x3) (fun h1 => M_wish h1 x1 x2 x3) := by
  obtain ⟨len, c, z1, z2, z3, z4, z5, z6, h7, h8, h9, h10, -⟩ := I.1 0 (by omega)
  have c1 := (h7 2 (by omega)).1
  have eL : D_linesAt h 2 (2 : Int32) x1 = some (if iz x1 0 (c 2) = true then 20 + 8 * 1 + 4 * x1.toNatClampNeg else 0) := q_linesAt h7 1 (by omega) x1
  have t1 : Tl h (wr (wr h 251 0 0) 251 43 x1) := tl_tr w251 w251
  have fin : ∀ v, M_wish h x1 x2 x3 = some (v, wr (wr h 251 0 0) 251 43 x1) → Okk (M_wish h x1 x2 x3) (fun q => q.1 = v ∧ Inv q.2) := fun v e => by
    rw [e]
    exact ok_mk ⟨rfl, inv_fr I t1⟩
  unfold K_wish
  rw [eL, sb]
  by_cases b : iz x1 0 (c 2) = true
  case neg =>
    rw [if_neg b]
    unfold K_lineOf
    rw [if_pos rfl, sb]
    refine ok_mk (fin _ ?_)
    unfold M_wish
    rw [bnd_eq, q_hasW (cls_fr h7 w251) x1, sb]
    dsimp only
    rw [bI_it0, if_neg b]
  obtain ⟨e, he, he2, rfl⟩ := iz_0 b
  obtain ⟨m, f, CLe, MWe, D⟩ := h10 e he
  have hm10 := MWe.2.1
  have CL' : CL h (20 + 8 * 1 + 4 * e) m f := by
    have e1 : tA 0 + 18 + 8 * 1 + 4 * e = 20 + 8 * 1 + 4 * e := by show 2 + 18 + 8 * 1 + 4 * e = _; omega
    rw [e1] at CLe
    exact CLe
  have MW' : MW h e m f := by
    rw [show 2 * 0 + e = e by omega] at MWe
    exact MWe
  rw [if_pos b, nI_clamp he2, q_lineOf CL' (by omega), sb]
  refine ok_mk (fin _ ?_)
  obtain ⟨g1, g2⟩ := q_wishOf (mw_tl MW' t1) (wr_at _ _ _ _)
  unfold M_wish M_wish_j34 M_wish_j67 M_wish_j69
  rw [bnd_eq, q_hasW (cls_fr h7 w251) (nI e), sb]
  dsimp only
  rw [bI_it0, if_pos b]
  exact mline (by omega) g1 g2
