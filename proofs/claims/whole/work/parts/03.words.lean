/-! ===== the tables' words are words of the Statement ===== -/
theorem tb_in {w : Cond} {i : Nat} (h : tables_1[i]? = some w) : w ∈ lw_tbl := List.mem_append_right _ (List.mem_of_getElem? h)
def W0 : List Cond := lw_tbl.filter goodWord
def isNest : Cond → Bool
  | .fieldLinkNest .. => true
  | .methodLinkNest .. => true
  | _ => false
def NWL : List Cond := lw_tbl.filter isNest
theorem w0_in {w : Cond} (h : w ∈ lw_tbl) (hg : goodWord w = true) : w ∈ W0 := List.mem_filter.mpr ⟨h, hg⟩
theorem nw_in {w : Cond} (h : w ∈ lw_tbl) (hg : isNest w = true) : w ∈ NWL := List.mem_filter.mpr ⟨h, hg⟩
def fchk (q : Nat × Nat × Nat × Nat) (p : Nat) : Bool := match tables_1[p]? with
  | some (.fieldLink a i b n d) => decide (a = RN q.1) && decide (i = q.2.1) && decide (b = (TN q.2.2.1 q.2.2.2).1) && decide (n = (TN q.2.2.1 q.2.2.2).2.1) && decide (d = (TN q.2.2.1 q.2.2.2).2.2.1)
  | some (.fieldLinkNest a i b n d _) => decide (a = RN q.1) && decide (i = q.2.1) && decide (b = (TN q.2.2.1 q.2.2.2).1) && decide (n = (TN q.2.2.1 q.2.2.2).2.1) && decide (d = (TN q.2.2.1 q.2.2.2).2.2.1)
  | _ => false
theorem flx_all : FLX.all (fun x => fchk x.1 x.2) = true := by decide +kernel
theorem flt_rng : FLX.all (fun x => decide (x.1.1 < 14) && decide (x.1.2.2.1 < 13) && decide (x.1.2.2.2 < nf x.1.2.2.1) && decide (x.1.2.2.2 < 100)) = true := by decide +kernel
theorem flt_ok {q : Nat × Nat × Nat × Nat} (h : q ∈ FLT) : ((Cond.fieldLink (RN q.1) q.2.1 (TN q.2.2.1 q.2.2.2).1 (TN q.2.2.1 q.2.2.2).2.1 (TN q.2.2.1 q.2.2.2).2.2.1) ∈ W0 ∨ ∃ host, (Cond.fieldLinkNest (RN q.1) q.2.1 (TN q.2.2.1 q.2.2.2).1 (TN q.2.2.1 q.2.2.2).2.1 (TN q.2.2.1 q.2.2.2).2.2.1 host) ∈ NWL) ∧ q.2.2.1 < 13 ∧ q.2.2.2 < nf q.2.2.1 ∧ q.2.2.2 < 100 := by
  obtain ⟨⟨q', p⟩, hm, rfl⟩ := List.mem_map.mp h
  have h1 := List.all_eq_true.mp flx_all _ hm
  have h2 := List.all_eq_true.mp flt_rng _ hm
  simp only [Bool.and_eq_true, decide_eq_true_eq] at h2
  refine ⟨?_, h2.1.1.2, h2.1.2, h2.2⟩
  dsimp only [fchk] at h1 ⊢
  cases ht : tables_1[p]? with
  | none => rw [ht] at h1; cases h1
  | some w =>
    rw [ht] at h1
    have hw := tb_in ht
    cases w <;> first
      | (cases h1; done)
      | (dsimp only at h1
         simp only [Bool.and_eq_true, decide_eq_true_eq] at h1
         obtain ⟨⟨⟨⟨rfl, rfl⟩, e3⟩, e4⟩, e5⟩ := h1
         rw [← e3, ← e4, ← e5]
         first
           | exact Or.inl (w0_in hw rfl)
           | exact Or.inr ⟨_, nw_in hw rfl⟩)
def xnm (k : Nat) : MethodName := if k = 1 then Lib.Math.max.name else if k = 2 then Lib.Math.min.name else arraycopyName
def xchk (q : Nat × Nat × Nat) (p : Nat) : Bool := match tables_1[p]? with
  | some (.methodLink a i y) => decide (a = RN q.1) && decide (i = q.2.1) && decide (y = xnm q.2.2)
  | _ => false
theorem xlx_all : XLX.all (fun x => xchk x.1 x.2) = true := by decide +kernel
theorem xlt_ok {q : Nat × Nat × Nat} (h : q ∈ XLT) : (Cond.methodLink (RN q.1) q.2.1 (xnm q.2.2)) ∈ W0 := by
  obtain ⟨⟨q', p⟩, hm, rfl⟩ := List.mem_map.mp h
  have h1 := List.all_eq_true.mp xlx_all _ hm
  dsimp only [xchk] at h1 ⊢
  cases ht : tables_1[p]? with
  | none => rw [ht] at h1; cases h1
  | some w =>
    rw [ht] at h1
    have hw := tb_in ht
    cases w <;> first
      | (cases h1; done)
      | (dsimp only at h1
         simp only [Bool.and_eq_true, decide_eq_true_eq] at h1
         obtain ⟨⟨rfl, rfl⟩, rfl⟩ := h1
         exact w0_in hw rfl)
def cchk (q : Nat × Nat × Int32) (p : Nat) : Bool := match tables_1[p]? with
  | some (.constant a i v) => decide (a = RN q.1) && decide (i = q.2.1) && decide (v = q.2.2)
  | _ => false
theorem lcx_all : LCX.all (fun x => cchk x.1 x.2) = true := by decide +kernel
theorem ldc_ok {q : Nat × Nat × Int32} (h : q ∈ LDC) : (Cond.constant (RN q.1) q.2.1 q.2.2) ∈ W0 := by
  obtain ⟨⟨q', p⟩, hm, rfl⟩ := List.mem_map.mp h
  have h1 := List.all_eq_true.mp lcx_all _ hm
  dsimp only [cchk] at h1 ⊢
  cases ht : tables_1[p]? with
  | none => rw [ht] at h1; cases h1
  | some w =>
    rw [ht] at h1
    have hw := tb_in ht
    cases w <;> first
      | (cases h1; done)
      | (dsimp only at h1
         simp only [Bool.and_eq_true, decide_eq_true_eq] at h1
         obtain ⟨⟨rfl, rfl⟩, rfl⟩ := h1
         exact w0_in hw rfl)
def lchk (q : Nat × Nat × Int64) (p : Nat) : Bool := match tables_1[p]? with
  | some (.constantLong a i v) => decide (a = RN q.1) && decide (i = q.2.1) && decide (v = q.2.2)
  | _ => false
theorem llx_all : LLX.all (fun x => lchk x.1 x.2) = true := by decide +kernel
theorem ldl_ok {q : Nat × Nat × Int64} (h : q ∈ LDL) : (Cond.constantLong (RN q.1) q.2.1 q.2.2) ∈ W0 := by
  obtain ⟨⟨q', p⟩, hm, rfl⟩ := List.mem_map.mp h
  have h1 := List.all_eq_true.mp llx_all _ hm
  dsimp only [lchk] at h1 ⊢
  cases ht : tables_1[p]? with
  | none => rw [ht] at h1; cases h1
  | some w =>
    rw [ht] at h1
    have hw := tb_in ht
    cases w <;> first
      | (cases h1; done)
      | (dsimp only at h1
         simp only [Bool.and_eq_true, decide_eq_true_eq] at h1
         obtain ⟨⟨rfl, rfl⟩, rfl⟩ := h1
         exact w0_in hw rfl)
theorem uws_b : (List.range 13).all (fun c => match vwCl[c]? with
    | some r => (u_ws r.1 r.2.1 r.2.2).all (fun w => decide (w ∈ lw_tbl) && goodWord w) && decide (r.1 = RN c) && decide (r.2.2 = nf c)
    | none => false) = true := by decide +kernel
theorem uws_ok {c : Nat} (hc : c < 13) : ∃ T, vwCl[c]? = some (RN c, T, nf c) ∧ (∀ w ∈ u_ws (RN c) T (nf c), w ∈ W0) := by
  have h := List.all_eq_true.mp uws_b c (List.mem_range.mpr hc)
  cases hv : vwCl[c]? with
  | none => rw [hv] at h; cases h
  | some r =>
    obtain ⟨a, T, n⟩ := r
    rw [hv] at h
    simp only [Bool.and_eq_true, decide_eq_true_eq] at h
    obtain ⟨⟨h1, rfl⟩, rfl⟩ := h
    refine ⟨T, rfl, fun w hw => ?_⟩
    have := List.all_eq_true.mp h1 w hw
    simp only [Bool.and_eq_true, decide_eq_true_eq] at this
    exact w0_in this.1 this.2
theorem tn_ok {c : Nat} (hc : c < 13) : vwCl[c]? = some (RN c, TN c, nf c) := by
  rcases (by omega : c = 0 ∨ c = 1 ∨ c = 2 ∨ c = 3 ∨ c = 4 ∨ c = 5 ∨ c = 6 ∨ c = 7 ∨ c = 8 ∨ c = 9 ∨ c = 10 ∨ c = 11 ∨ c = 12) with rfl | rfl | rfl | rfl | rfl | rfl | rfl | rfl | rfl | rfl | rfl | rfl | rfl <;> rfl
theorem uws_in {c : Nat} (hc : c < 13) : ∀ w ∈ u_ws (RN c) (TN c) (nf c), w ∈ W0 := by
  obtain ⟨T, h1, h2⟩ := uws_ok hc
  rw [tn_ok hc] at h1
  cases h1
  exact h2
def tyN (c j : Nat) : FieldType := match c with
  | 0 => tyX0 j
  | 1 => tyX1 j
  | 2 => tyX2 j
  | 3 => tyX3 j
  | 4 => tyX4 j
  | 5 => tyX5 j
  | 6 => tyX6 j
  | 7 => tyX7 j
  | 8 => tyX8 j
  | 9 => tyX9 j
  | 10 => tyX10 j
  | 11 => tyX11 j
  | _ => tyX12 j
theorem tyn_ok {c : Nat} (hc : c < 13) : ∀ k, k < nf c → parseFieldDescriptor (TN c k).2.2.1 = some (tyN c k) := by
  rcases (by omega : c = 0 ∨ c = 1 ∨ c = 2 ∨ c = 3 ∨ c = 4 ∨ c = 5 ∨ c = 6 ∨ c = 7 ∨ c = 8 ∨ c = 9 ∨ c = 10 ∨ c = 11 ∨ c = 12) with rfl | rfl | rfl | rfl | rfl | rfl | rfl | rfl | rfl | rfl | rfl | rfl | rfl
  · exact tyX0_ok
  · exact tyX1_ok
  · exact tyX2_ok
  · exact tyX3_ok
  · exact tyX4_ok
  · exact tyX5_ok
  · exact tyX6_ok
  · exact tyX7_ok
  · exact tyX8_ok
  · exact tyX9_ok
  · exact tyX10_ok
  · exact tyX11_ok
  · exact tyX12_ok
theorem nmn_ok {c : Nat} (hc : c < 13) : ∀ a, a < nf c → ∀ b, b < nf c → a ≠ b → (TN c a).2.1 ≠ (TN c b).2.1 := by
  rcases (by omega : c = 0 ∨ c = 1 ∨ c = 2 ∨ c = 3 ∨ c = 4 ∨ c = 5 ∨ c = 6 ∨ c = 7 ∨ c = 8 ∨ c = 9 ∨ c = 10 ∨ c = 11 ∨ c = 12) with rfl | rfl | rfl | rfl | rfl | rfl | rfl | rfl | rfl | rfl | rfl | rfl | rfl
  · exact nmX0
  · exact nmX1
  · exact nmX2
  · exact nmX3
  · exact nmX4
  · exact nmX5
  · exact nmX6
  · exact nmX7
  · exact nmX8
  · exact nmX9
  · exact nmX10
  · exact nmX11
  · exact nmX12
/-! ===== the layout's own facts ===== -/
theorem kd_rng {k : Nat} (h : kd k ≠ 99) : 1 ≤ k ∧ k ≤ 280 := by
  refine ⟨?_, ?_⟩
  · rcases Nat.eq_zero_or_pos k with rfl | q
    · exact absurd rfl h
    · exact q
  · apply Nat.le_of_lt_succ
    apply Nat.lt_of_not_le
    intro q
    apply h
    have hl : KD.length = 281 := by decide +kernel
    unfold kd
    rw [List.getD_eq_getElem?_getD, List.getElem?_eq_none (by omega)]
    rfl
theorem oft_b : (List.range 281).all (fun k => OFT.all (fun r => decide (kd k ≠ r.1 / 100) || decide (rf k (r.1 % 100) = ofs k r.2))) = true := by decide +kernel
theorem oft_ok {k q o : Nat} (hk : kd k = q / 100) (hq : (q, o) ∈ OFT) (h9 : kd k ≠ 99) : rf k (q % 100) = ofs k o := by
  have h := List.all_eq_true.mp (List.all_eq_true.mp oft_b k (List.mem_range.mpr (by have := kd_rng h9; omega))) (q, o) hq
  simp only [Bool.or_eq_true, decide_eq_true_eq, ne_eq] at h
  rcases h with h | h
  · exact absurd hk h
  · exact h
theorem sl3_b : (List.range 13).all (fun c => decide (c = 12) || (List.range 100).all (fun j => decide (sl c j ≠ 3))) = true := by decide +kernel
theorem sl_len : SL.all (fun r => decide (r.length < 100)) = true := by decide +kernel
theorem sl3 {c j : Nat} (hc : c ≠ 12) : sl c j ≠ 3 := by
  intro h
  by_cases h1 : c < 13
  · have h2 := List.all_eq_true.mp sl3_b c (List.mem_range.mpr h1)
    simp only [Bool.or_eq_true, decide_eq_true_eq] at h2
    rcases h2 with h2 | h2
    · exact hc h2
    · by_cases hj : j < 100
      · have := List.all_eq_true.mp h2 j (List.mem_range.mpr hj)
        simp only [decide_eq_true_eq] at this
        exact this h
      · unfold sl at h
        cases hs : SL[c]? with
        | none => rw [List.getD_eq_getElem?_getD (l := SL), hs] at h; simp at h
        | some r =>
          have hl := List.all_eq_true.mp sl_len r (List.mem_of_getElem? hs)
          simp only [decide_eq_true_eq] at hl
          rw [List.getD_eq_getElem?_getD (l := SL), hs] at h
          rw [Option.getD_some, List.getD_eq_getElem?_getD, List.getElem?_eq_none (by omega)] at h
          cases h
  · unfold sl at h
    have hl : SL.length = 13 := by decide +kernel
    rw [List.getD_eq_getElem?_getD (l := SL), List.getElem?_eq_none (by omega)] at h
    simp at h
theorem kd_b : KD.all (fun c => decide (c < 13) || (decide (20 ≤ c) && decide (c < 27)) || decide (c = 99)) = true := by decide +kernel
theorem kd_cases (k : Nat) : kd k < 13 ∨ (20 ≤ kd k ∧ kd k < 27) ∨ kd k = 99 := by
  unfold kd
  cases hs : KD[k]? with
  | none => rw [List.getD_eq_getElem?_getD, hs]; exact Or.inr (Or.inr rfl)
  | some c =>
    have h := List.all_eq_true.mp kd_b c (List.mem_of_getElem? hs)
    rw [List.getD_eq_getElem?_getD, hs]
    simp only [Bool.or_eq_true, Bool.and_eq_true, decide_eq_true_eq] at h
    simp only [Option.getD_some]
    omega
