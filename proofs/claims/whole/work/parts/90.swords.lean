/-! ===== the start: words of the tables and of the Statement ===== -/
theorem w_over : ∀ t, t < 4 → Cond.arrayOver (.object (tyC (3 + t))) ∈ lw_tbl := by
  intro t ht
  rcases (by omega : t = 0 ∨ t = 1 ∨ t = 2 ∨ t = 3) with rfl | rfl | rfl | rfl
  · exact tb_in (i := 52) (by decide +kernel)
  · exact tb_in (i := 54) (by decide +kernel)
  · exact tb_in (i := 195) (by decide +kernel)
  · exact tb_in (i := 144) (by decide +kernel)
theorem w_strs : ∀ i, i < 16 → tables_1[STP.getD i 0]? = some (Cond.stringRef (RN 4) (STI.getD i 0) (STX.getD i "")) := by decide +kernel
theorem w_lds : ∀ r ∈ LDS, r.2.2 < 16 ∧ r.1 = 4 ∧ r.2.1 = STI.getD r.2.2 0 := by decide +kernel
theorem w_str : ∀ r ∈ LDS, Cond.stringRef (RN r.1) r.2.1 (STX.getD r.2.2 "") ∈ lw_tbl := by
  intro r hr
  obtain ⟨a1, a2, a3⟩ := w_lds r hr
  rw [a2, a3]
  exact tb_in (w_strs _ a1)
theorem w_cs : Cond.laysStatic "java/lang/String" "COMPACT_STRINGS" "Z" ∈ lw_tbl ∧ Cond.initialized "java/lang/String" ∈ lw_tbl := ⟨tb_in (i := 525) (by decide +kernel), tb_in (i := 16) (by decide +kernel)⟩
theorem w_sf : Cond.laysStatic "jdk/internal/util/Preconditions" "SIOOBE_FORMATTER" "Ljava/util/function/BiFunction;" ∈ lw_tbl ∧ Cond.initialized "jdk/internal/util/Preconditions" ∈ lw_tbl := ⟨tb_in (i := 541) (by decide +kernel), tb_in (i := 18) (by decide +kernel)⟩
def fgn : List Cond := flatC (Jvm.Cond.and given_1 narrow_1)
def tmS (i : Nat) : Term := .string "GrainInn$Reader" (STI.getD i 0)
theorem f_cs : Cond.eq (.static "java/lang/String" "COMPACT_STRINGS" "Z") (.int 1) ∈ fgn ∧ Cond.isRef (.static "jdk/internal/util/Preconditions" "SIOOBE_FORMATTER" "Ljava/util/function/BiFunction;") ∈ fgn := ⟨by decide +kernel, by decide +kernel⟩
theorem f_s1 : ∀ i, i < 16 → Cond.exactly (tmS i) "java/lang/String" ∈ fgn ∧ Cond.eq (.field (tmS i) "java/lang/String" "coder" "B") (.int 0) ∈ fgn ∧ Cond.arrayOf (.field (tmS i) "java/lang/String" "value" "[B") .byte ∈ fgn ∧ Cond.eq (.length (.field (tmS i) "java/lang/String" "value" "[B")) (.int (Int32.ofNat (SLEN.getD i 0))) ∈ fgn := by decide +kernel
/-- two constants that are told to be apart -/
def pkN (c : Cond) : Option (Nat × Nat) := match c with
  | .not (.eq (.string o a) (.string o2 b)) => if o = "GrainInn$Reader" ∧ o2 = "GrainInn$Reader" then some (a, b) else none
  | _ => none
theorem pkN_e {c : Cond} {a b : Nat} (h : pkN c = some (a, b)) : c = .not (.eq (.string "GrainInn$Reader" a) (.string "GrainInn$Reader" b)) := by
  unfold pkN at h
  split at h
  · split at h
    · rename_i hc
      obtain ⟨rfl, rfl⟩ := hc
      cases h
      rfl
    · cases h
  · cases h
/-- a byte of a constant -/
def pkE (c : Cond) : Option (Nat × Int32 × Int32) := match c with
  | .eq (.elem (.field (.string o a) o2 n d) (.int j)) (.int v) => if o = "GrainInn$Reader" ∧ o2 = "java/lang/String" ∧ n = "value" ∧ d = "[B" then some (a, j, v) else none
  | _ => none
theorem pkE_e {c : Cond} {a : Nat} {j v : Int32} (h : pkE c = some (a, j, v)) : c = .eq (.elem (.field (.string "GrainInn$Reader" a) "java/lang/String" "value" "[B") (.int j)) (.int v) := by
  unfold pkE at h
  split at h
  · split at h
    · rename_i hc
      obtain ⟨rfl, rfl, rfl, rfl⟩ := hc
      cases h
      rfl
    · cases h
  · cases h
def prN : List (Nat × Nat) := [(118, 124), (118, 126), (124, 126), (118, 128), (124, 128), (126, 128), (118, 130), (124, 130), (126, 130), (128, 130), (118, 132), (124, 132), (126, 132), (128, 132), (130, 132), (118, 134), (124, 134), (126, 134), (128, 134), (130, 134), (132, 134), (118, 136), (124, 136), (126, 136), (128, 136), (130, 136), (132, 136), (134, 136), (118, 138), (124, 138), (126, 138), (128, 138), (130, 138), (132, 138), (134, 138), (136, 138), (118, 140), (124, 140), (126, 140), (128, 140), (130, 140), (132, 140), (134, 140), (136, 140), (138, 140), (118, 142), (124, 142), (126, 142), (128, 142), (130, 142), (132, 142), (134, 142), (136, 142), (138, 142), (140, 142), (118, 144), (124, 144), (126, 144), (128, 144), (130, 144), (132, 144), (134, 144), (136, 144), (138, 144), (140, 144), (142, 144), (118, 146), (124, 146), (126, 146), (128, 146), (130, 146), (132, 146), (134, 146), (136, 146), (138, 146), (140, 146), (142, 146), (144, 146), (118, 148), (124, 148), (126, 148), (128, 148), (130, 148), (132, 148), (134, 148), (136, 148), (138, 148), (140, 148), (142, 148), (144, 148), (146, 148), (118, 150), (124, 150), (126, 150), (128, 150), (130, 150), (132, 150), (134, 150), (136, 150), (138, 150), (140, 150), (142, 150), (144, 150), (146, 150), (148, 150), (118, 152), (124, 152), (126, 152), (128, 152), (130, 152), (132, 152), (134, 152), (136, 152), (138, 152), (140, 152), (142, 152), (144, 152), (146, 152), (148, 152), (150, 152)]
def prE : List (Nat × Int32 × Int32) := [(118, 0, 116), (118, 1, 97), (118, 2, 98), (118, 3, 108), (118, 4, 101), (124, 0, 103), (124, 1, 117), (124, 2, 101), (124, 3, 115), (124, 4, 116), (124, 5, 115), (126, 0, 113), (126, 1, 117), (126, 2, 97), (126, 3, 114), (126, 4, 114), (126, 5, 101), (126, 6, 108), (128, 0, 108), (128, 1, 111), (128, 2, 118), (128, 3, 101), (130, 0, 115), (130, 1, 105), (130, 2, 116), (132, 0, 115), (132, 1, 97), (132, 2, 121), (134, 0, 110), (134, 1, 105), (134, 2, 103), (134, 3, 104), (134, 4, 116), (136, 0, 115), (136, 1, 99), (136, 2, 114), (136, 3, 117), (136, 4, 98), (138, 0, 106), (138, 1, 111), (138, 2, 105), (138, 3, 110), (140, 0, 115), (140, 1, 112), (140, 2, 108), (140, 3, 105), (140, 4, 116), (142, 0, 104), (142, 1, 101), (142, 2, 97), (142, 3, 114), (144, 0, 115), (144, 1, 104), (144, 2, 117), (144, 3, 110), (146, 0, 97), (146, 1, 112), (146, 2, 97), (146, 3, 114), (146, 4, 116), (148, 0, 98), (148, 1, 101), (148, 2, 115), (148, 3, 105), (148, 4, 100), (148, 5, 101), (150, 0, 104), (150, 1, 101), (150, 2, 97), (150, 3, 114), (150, 4, 100), (152, 0, 115), (152, 1, 105), (152, 2, 108), (152, 3, 101), (152, 4, 110), (152, 5, 99), (152, 6, 101)]
theorem prN_e : fgn.filterMap pkN = prN := by decide +kernel
theorem prE_e : fgn.filterMap pkE = prE := by decide +kernel
theorem f_s2 : ∀ i, i < 16 → ∀ j, j < SLEN.getD i 0 → Cond.eq (.elem (.field (tmS i) "java/lang/String" "value" "[B") (.int (Int32.ofNat j))) (.int ((SBYT.getD i []).getD j 0)) ∈ fgn := by
  have h : ∀ i, i < 16 → ∀ j, j < SLEN.getD i 0 → (STI.getD i 0, Int32.ofNat j, (SBYT.getD i []).getD j 0) ∈ prE := by decide +kernel
  intro i hi j hj
  have h1 := h i hi j hj
  rw [← prE_e] at h1
  obtain ⟨c, h2, h3⟩ := List.mem_filterMap.mp h1
  rw [pkE_e h3] at h2
  exact h2
theorem f_s3 : ∀ i, i < 16 → ∀ j, j < 16 → i ≠ j → Cond.not (Cond.eq (tmS i) (tmS j)) ∈ fgn ∨ Cond.not (Cond.eq (tmS j) (tmS i)) ∈ fgn := by
  have h : ∀ i, i < 16 → ∀ j, j < 16 → i = j ∨ (STI.getD i 0, STI.getD j 0) ∈ prN ∨ (STI.getD j 0, STI.getD i 0) ∈ prN := by decide +kernel
  intro i hi j hj hij
  have key : ∀ a b, (a, b) ∈ prN → Cond.not (Cond.eq (.string "GrainInn$Reader" a) (.string "GrainInn$Reader" b)) ∈ fgn := by
    intro a b h1
    rw [← prN_e] at h1
    obtain ⟨c, h2, h3⟩ := List.mem_filterMap.mp h1
    rw [pkN_e h3] at h2
    exact h2
  exact ((h i hi j hj).resolve_left hij).imp (fun w => key _ _ w) (fun w => key _ _ w)
theorem f_sl : ∀ i, i < 16 → SLEN.getD i 0 < 2 ^ 31 := by decide +kernel
