/-! ===== the makers: what the constructors lay, cell by cell, in the order of making ===== -/
def H0T : List (Nat × List (Nat × Int32)) := [(2, [(5, (-1))]), (8, [(6, 4)]), (14, [(6, 4)]), (46, [(4, (-1))]), (47, [(6, 4)]), (57, [(6, 64), (11, (-1))]), (64, [(6, 4)]), (90, [(5, (-1)), (6, (-1)), (8, 1), (9, (-1))]), (99, [(7, 107)]), (107, [(6, 4)]), (113, [(3, 117), (4, (-1))]), (117, [(6, 4)]), (125, [(5, (-1))]), (131, [(6, 4)]), (137, [(6, 4)]), (167, [(5, (-1))]), (173, [(6, 4)]), (179, [(6, 4)]), (209, [(5, (-1))]), (215, [(6, 4)]), (221, [(6, 4)]), (255, [(0, (-1))])]
def lkp : List (Nat × Int32) → Nat → Int32
  | [], _ => 0
  | q :: r, j => if q.1 = j then q.2 else lkp r j
def lkH : List (Nat × List (Nat × Int32)) → Nat → List (Nat × Int32)
  | [], _ => []
  | q :: r, k => if q.1 = k then q.2 else lkH r k
/-- the first heap -/
def hp0 : Hp := (fun k j => lkp (lkH H0T k) j, 0)
/-- class links: file, entry, class -/
def CLX : List ((Nat × Nat × Nat) × Nat) := [((13, 7, 11), 22), ((11, 7, 9), 30), ((9, 9, 8), 36), ((9, 18, 1), 51), ((9, 24, 2), 53), ((11, 24, 4), 145), ((4, 9, 1), 151), ((4, 18, 2), 153), ((11, 37, 7), 188), ((7, 9, 0), 194), ((7, 33, 1), 196), ((11, 44, 5), 282), ((5, 9, 0), 288), ((11, 51, 6), 324), ((6, 33, 1), 330), ((11, 58, 10), 369), ((10, 21, 1), 375), ((11, 65, 3), 394), ((13, 10, 12), 1223)]
/-- links to constructors: file, entry, class; 13: Object's -/
def IVX : List ((Nat × Nat × Nat) × Nat) := [((13, 9, 11), 24), ((11, 1, 13), 27), ((11, 9, 9), 32), ((9, 3, 13), 35), ((9, 11, 8), 38), ((8, 3, 13), 41), ((9, 41, 1), 56), ((1, 3, 13), 59), ((9, 46, 2), 98), ((2, 3, 13), 101), ((11, 30, 4), 147), ((4, 3, 13), 150), ((4, 11, 1), 152), ((4, 20, 2), 154), ((11, 39, 7), 190), ((7, 3, 13), 193), ((7, 35, 1), 197), ((7, 56, 0), 199), ((0, 3, 13), 202), ((11, 46, 5), 284), ((5, 3, 13), 287), ((5, 11, 0), 289), ((11, 53, 6), 326), ((6, 3, 13), 329), ((6, 35, 1), 331), ((11, 60, 10), 371), ((10, 3, 13), 374), ((10, 23, 1), 376), ((11, 67, 3), 396), ((3, 3, 13), 399), ((13, 12, 12), 1225), ((12, 1, 13), 1228)]
def CLT : List (Nat × Nat × Nat) := CLX.map Prod.fst
def IVT : List (Nat × Nat × Nat) := IVX.map Prod.fst
def ymI (c : Nat) : MethodName := match c with
  | 0 => yX0_init
  | 1 => yX1_init
  | 2 => yX2_init
  | 3 => yX3_init
  | 4 => yX4_init
  | 5 => yX5_init
  | 6 => yX6_init
  | 7 => yX7_init
  | 8 => yX8_init
  | 9 => yX9_init
  | 10 => yX10_init
  | 11 => yX11_init
  | 12 => yX12_init
  | _ => Lib.objectInit
def ccI (c : Nat) : ByteArray := match c with
  | 0 => cX0_init
  | 1 => cX1_init
  | 2 => cX2_init
  | 3 => cX3_init
  | 4 => cX4_init
  | 5 => cX5_init
  | 6 => cX6_init
  | 7 => cX7_init
  | 8 => cX8_init
  | 9 => cX9_init
  | 10 => cX10_init
  | 11 => cX11_init
  | 12 => cX12_init
  | _ => ⟨#[0xb1]⟩
def mlI (c : Nat) : Nat := [1, 1, 2, 1, 2, 1, 1, 2, 1, 2, 1, 2, 1].getD c 1
def IWX : List (Nat × Nat × Nat × Nat × Nat) := [(0, 198, 9, 201, 200), (1, 55, 4, 58, 57), (2, 94, 5, 100, 99), (3, 395, 13, 398, 397), (4, 146, 7, 149, 148), (5, 283, 10, 286, 285), (6, 325, 11, 328, 327), (7, 189, 8, 192, 191), (8, 37, 3, 40, 39), (9, 31, 2, 34, 33), (10, 370, 12, 373, 372), (11, 23, 1, 26, 25), (12, 1224, 14, 1227, 1226)]
theorem clx_all : CLX.all (fun x => match tables_1[x.2]? with
  | some (.classLink a i b) => decide (a = RN x.1.1) && decide (i = x.1.2.1) && decide (b = RN x.1.2.2)
  | _ => false) = true := by decide +kernel
theorem clt_ok {q : Nat × Nat × Nat} (h : q ∈ CLT) : Cond.classLink (RN q.1) q.2.1 (RN q.2.2) ∈ W0 := by
  obtain ⟨⟨q', p⟩, hm, rfl⟩ := List.mem_map.mp h
  have h1 := List.all_eq_true.mp clx_all _ hm
  dsimp only at h1 ⊢
  cases ht : tables_1[p]? with
  | none => rw [ht] at h1; cases h1
  | some w =>
    rw [ht] at h1
    have hw := tb_in ht
    cases w <;> first
      | (cases h1; done)
      | (dsimp only at h1
         simp only [Bool.and_eq_true, decide_eq_true_eq] at h1
         obtain ⟨⟨rfl, rfl⟩, rfl⟩ := h1
         exact w0_in hw rfl)
theorem ivx_all : IVX.all (fun x => match tables_1[x.2]? with
  | some (.methodLink a i y) => decide (a = RN x.1.1) && decide (i = x.1.2.1) && decide (y = ymI x.1.2.2)
  | some (.methodLinkNest a i y _) => decide (a = RN x.1.1) && decide (i = x.1.2.1) && decide (y = ymI x.1.2.2)
  | _ => false) = true := by decide +kernel
theorem ivt_ok {q : Nat × Nat × Nat} (h : q ∈ IVT) : Lk q.1 q.2.1 (ymI q.2.2) := by
  obtain ⟨⟨q', p⟩, hm, rfl⟩ := List.mem_map.mp h
  have h1 := List.all_eq_true.mp ivx_all _ hm
  dsimp only at h1 ⊢
  unfold Lk
  cases ht : tables_1[p]? with
  | none => rw [ht] at h1; cases h1
  | some w =>
    rw [ht] at h1
    have hw := tb_in ht
    cases w <;> first
      | (cases h1; done)
      | (dsimp only at h1
         simp only [Bool.and_eq_true, decide_eq_true_eq] at h1
         obtain ⟨⟨rfl, rfl⟩, rfl⟩ := h1
         first
           | exact Or.inl (w0_in hw rfl)
           | exact Or.inr ⟨_, nw_in hw rfl⟩)
theorem iwx_all : IWX.all (fun x => decide (tables_1[x.2.1]? = some (Cond.instantiable (RN x.1) (nf x.1))) && decide (tables_1[x.2.2.1]? = some (Cond.initialized (RN x.1))) && decide (tables_1[x.2.2.2.1]? = some (Cond.code (ymI x.1) (ccI x.1) (mlI x.1) none)) && decide (tables_1[x.2.2.2.2]? = some (Cond.instanceMethod (ymI x.1)))) = true := by decide +kernel
theorem iw_ok {c : Nat} (hc : c < 13) : Cond.instantiable (RN c) (nf c) ∈ W0 ∧ Cond.initialized (RN c) ∈ W0 ∧ Cond.code (ymI c) (ccI c) (mlI c) none ∈ W0 ∧ Cond.instanceMethod (ymI c) ∈ W0 := by
  have key : ∀ x ∈ IWX, Cond.instantiable (RN x.1) (nf x.1) ∈ W0 ∧ Cond.initialized (RN x.1) ∈ W0 ∧ Cond.code (ymI x.1) (ccI x.1) (mlI x.1) none ∈ W0 ∧ Cond.instanceMethod (ymI x.1) ∈ W0 := by
    intro x hx
    have h1 := List.all_eq_true.mp iwx_all x hx
    simp only [Bool.and_eq_true, decide_eq_true_eq] at h1
    obtain ⟨⟨⟨a1, a2⟩, a3⟩, a4⟩ := h1
    exact ⟨w0_in (tb_in a1) rfl, w0_in (tb_in a2) rfl, w0_in (tb_in a3) rfl, w0_in (tb_in a4) rfl⟩
  have hm : ∀ c, c < 13 → ∃ x ∈ IWX, x.1 = c := by decide +kernel
  obtain ⟨x, hx, rfl⟩ := hm c hc
  exact key x hx
theorem w_obj : Cond.instanceMethod Lib.objectInit ∈ W0 ∧ Cond.code Lib.objectInit ⟨#[0xb1]⟩ 1 none ∈ W0 := ⟨w0_in (tb_in (i := 28) (by decide +kernel)) rfl, w0_in (tb_in (i := 29) (by decide +kernel)) rfl⟩
theorem w_arr : Cond.arrayClass .int ∈ W0 ∧ Cond.arrayClass .byte ∈ W0 ∧ Cond.arrayClass .boolean ∈ W0 := ⟨w0_in (tb_in (i := 50) (by decide +kernel)) rfl, w0_in (tb_in (i := 670) (by decide +kernel)) rfl, w0_in (tb_in (i := 187) (by decide +kernel)) rfl⟩
