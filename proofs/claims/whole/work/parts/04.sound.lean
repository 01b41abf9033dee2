theorem kd_pos {k : Nat} (h : kd k ≠ 99) : k ≠ 0 := fun z => by
  subst z
  exact h rfl
theorem sl_b : SL.all (fun r => r.all (fun x => decide (x < 4))) = true := by decide +kernel
theorem sl_lt (c j : Nat) : sl c j < 4 := by
  unfold sl
  rw [List.getD_eq_getElem?_getD (l := SL), List.getD_eq_getElem?_getD]
  cases h1 : SL[c]? with
  | none => simp
  | some r =>
    rw [Option.getD_some]
    cases h2 : r[j]? with
    | none => simp
    | some x =>
      have := List.all_eq_true.mp (List.all_eq_true.mp sl_b r (List.mem_of_getElem? h1)) x (List.mem_of_getElem? h2)
      simpa using this
theorem sl2_b : (List.range 13).all (fun c => (List.range (nf c)).all (fun j => decide (sl c j ≠ 2) || decide (parseFieldDescriptor (TN c j).2.2.1 = some (.object "GrainInn$House")))) = true := by decide +kernel
theorem sl2_ty {c j : Nat} (hc : c < 13) (hj : j < nf c) (h : sl c j = 2) : ∃ n, parseFieldDescriptor (TN c j).2.2.1 = some (.object n) := by
  have := List.all_eq_true.mp (List.all_eq_true.mp sl2_b c (List.mem_range.mpr hc)) j (List.mem_range.mpr hj)
  simp only [Bool.or_eq_true, decide_eq_true_eq] at this
  rcases this with q | q
  · exact absurd h q
  · exact ⟨_, q⟩
theorem sl3_c : (List.range 100).all (fun j => decide (sl 12 j ≠ 3) || (decide (j = 15) && decide (parseFieldDescriptor (TN 12 j).2.2.1 = some .long))) = true := by decide +kernel
theorem kd12 : (List.range 281).all (fun k => decide (kd k ≠ 12) || decide (k = 251)) = true := by decide +kernel
theorem kd12_ok {k : Nat} (h : kd k = 12) : k = 251 := by
  have hr := kd_rng (k := k) (by omega)
  have := List.all_eq_true.mp kd12 k (List.mem_range.mpr (by omega))
  simp only [Bool.or_eq_true, decide_eq_true_eq] at this
  rcases this with q | q
  · exact absurd h q
  · exact q
theorem sl3_j {j : Nat} (h : sl 12 j = 3) : j = 15 ∧ parseFieldDescriptor (TN 12 j).2.2.1 = some .long := by
  by_cases hj : j < 100
  · have := List.all_eq_true.mp sl3_c j (List.mem_range.mpr hj)
    simp only [Bool.or_eq_true, Bool.and_eq_true, decide_eq_true_eq] at this
    rcases this with q | q
    · exact absurd h q
    · exact q
  · exfalso
    have hl : (SL.getD 12 []).length = 61 := by decide +kernel
    unfold sl at h
    rw [List.getD_eq_getElem?_getD, List.getElem?_eq_none (by omega)] at h
    cases h
theorem sl3_only {c j k : Nat} (hc : c < 13) (hj : j < nf c) (h : sl c j = 3) (hk : kd k = c) : c = 12 ∧ (∀ i, sl c i = 3 → i = j) ∧ (∀ q, kd q = 12 → q = k) ∧ parseFieldDescriptor (TN c j).2.2.1 = some .long := by
  have h12 : c = 12 := by
    by_cases q : c = 12
    · exact q
    · exact absurd h (sl3 q)
  subst h12
  obtain ⟨h1, h2⟩ := sl3_j h
  exact ⟨rfl, fun i hi => by rw [(sl3_j hi).1, h1], fun q hq => by rw [kd12_ok hq, kd12_ok hk], h2⟩
theorem cpy_ne {h : Hp} {a i b j n q : Nat} (hq : q ≠ b) : (cpy h a i b j n).1 q = h.1 q := by
  funext z
  unfold cpy
  exact if_neg (fun e => hq e.1)
theorem cpy_row (h : Hp) (a i b j n : Nat) : (cpy h a i b j n).1 b = va_cpy (h.1 a) (h.1 b) i j n := by
  funext z
  unfold cpy va_cpy
  by_cases hz : j ≤ z ∧ z < j + n
  · simp [hz]
  · rw [if_neg hz]
    exact if_neg (fun e => hz e.2)
theorem w_maxs : Cond.static Lib.Math.max.name ∈ W0 := w0_in (tb_in (i := 103) (by decide +kernel)) (by decide +kernel)
theorem w_maxc : Cond.code Lib.Math.max.name Lib.Math.max.code 2 (some .int) ∈ W0 := w0_in (tb_in (i := 104) (by decide +kernel)) (by decide +kernel)
theorem w_mins : Cond.static Lib.Math.min.name ∈ W0 := w0_in (tb_in (i := 1015) (by decide +kernel)) (by decide +kernel)
theorem w_minc : Cond.code Lib.Math.min.name Lib.Math.min.code 2 (some .int) ∈ W0 := w0_in (tb_in (i := 1016) (by decide +kernel)) (by decide +kernel)
theorem w_mathi : Cond.initialized "java/lang/Math" ∈ W0 := w0_in (tb_in (i := 6) (by decide +kernel)) (by decide +kernel)
theorem w_sysi : Cond.initialized "java/lang/System" ∈ W0 := w0_in (tb_in (i := 20) (by decide +kernel)) (by decide +kernel)
theorem w_copyn : Cond.native arraycopyName ∈ W0 := w0_in (tb_in (i := 669) (by decide +kernel)) (by decide +kernel)
theorem w_copys : Cond.static arraycopyName ∈ W0 := w0_in (tb_in (i := 668) (by decide +kernel)) (by decide +kernel)
/-! ===== the world of the fixed layout on the machine's heap; each instruction is sound ===== -/
def vm (al : Nat → Nat) (v : Value) : Value := match v with
  | .ref k => if k = 0 then .null else .ref (al k)
  | v => v
theorem vm_int (al : Nat → Nat) (x : Int32) : vm al (.int x) = .int x := rfl
theorem vm_long (al : Nat → Nat) (x : Int64) : vm al (.long x) = .long x := rfl
theorem vm_0 (al : Nat → Nat) : vm al (.ref 0) = .null := rfl
theorem vm_ref (al : Nat → Nat) {k : Nat} (h : k ≠ 0) : vm al (.ref k) = .ref (al k) := if_neg h
theorem vm_cat (al : Nat → Nat) (v : Value) : (vm al v).category = v.category := by
  cases v <;> try rfl
  unfold vm
  dsimp only
  split <;> rfl
def vmp (al : Nat → Nat) (q : Nat × Value) : Nat × Value := (q.1, vm al q.2)
def fv (al : Nat → Nat) (h : Hp) (k j : Nat) : Value := if sl (kd k) j = 0 then .int (h.1 k j) else if sl (kd k) j = 1 then vm al (.ref (rf k j)) else if sl (kd k) j = 2 then vm al (.ref (h.1 k j).toNatClampNeg) else .long h.2
def elr (al : Nat → Nat) (k j : Nat) : Option Nat := if el k j = 0 then none else some (al (el k j))
def cel (cy : Nat → ClassId) (al : Nat → Nat) (h : Hp) (k : Nat) : va_E := if kd k < 13 then .inr (kd k, (List.range (nf (kd k))).map (fv al h k)) else if kd k < 23 then .inl (cy (kd k), ln k, .inl (h.1 k)) else .inl (cy (kd k), ln k, .inr (.inr (.inr (.inr (elr al k)))))
def wsp (cy : Nat → ClassId) (al : Nat → Nat) (h : Hp) : va_W := (List.range 280).map fun k => (al (k + 1), cel cy al h (k + 1))
theorem wsp_at (cy : Nat → ClassId) (al : Nat → Nat) (h : Hp) {i : Nat} (hi : i < 280) : (wsp cy al h)[i]? = some (al (i + 1), cel cy al h (i + 1)) := by
  unfold wsp
  rw [List.getElem?_map, List.getElem?_range hi]
  rfl
theorem wsp_len (cy : Nat → ClassId) (al : Nat → Nat) (h : Hp) : (wsp cy al h).length = 280 := by simp [wsp]
theorem wsp_get (cy : Nat → ClassId) (al : Nat → Nat) (h : Hp) {k : Nat} (h1 : kd k ≠ 99) : (wsp cy al h)[k - 1]? = some (al k, cel cy al h k) := by
  obtain ⟨a, b⟩ := kd_rng h1
  have := wsp_at cy al h (i := k - 1) (by omega)
  rw [this]
  rw [show k - 1 + 1 = k by omega]
theorem wsp_set (cy : Nat → ClassId) (al : Nat → Nat) {h h' : Hp} {k : Nat} (h1 : kd k ≠ 99) {e : va_E} (he : e = cel cy al h' k) (ho : ∀ q, q ≠ k → cel cy al h' q = cel cy al h q) : (wsp cy al h).set (k - 1) (al k, e) = wsp cy al h' := by
  obtain ⟨a, b⟩ := kd_rng h1
  subst he
  apply List.ext_getElem?
  intro i
  by_cases hi : i = k - 1
  · subst hi
    rw [List.getElem?_set_self (by rw [wsp_len]; omega), wsp_get cy al h' h1]
  · rw [List.getElem?_set_ne (Ne.symm hi)]
    by_cases hl : i < 280
    · rw [wsp_at cy al h hl, wsp_at cy al h' hl, ho (i + 1) (by omega)]
    · rw [List.getElem?_eq_none (by rw [wsp_len]; omega), List.getElem?_eq_none (by rw [wsp_len]; omega)]
theorem cel_ne (cy : Nat → ClassId) (al : Nat → Nat) {h h' : Hp} {q : Nat} (h1 : h'.1 q = h.1 q) (h2 : h'.2 = h.2 ∨ kd q ≠ 12) : cel cy al h' q = cel cy al h q := by
  have hf : fv al h' q = fv al h q := by
    funext j
    unfold fv
    rw [h1]
    rcases h2 with h2 | h2
    · rw [h2]
    · by_cases a : sl (kd q) j = 0
      · rw [if_pos a, if_pos a]
      · rw [if_neg a, if_neg a]
        by_cases b : sl (kd q) j = 1
        · rw [if_pos b, if_pos b]
        · rw [if_neg b, if_neg b]
          by_cases c : sl (kd q) j = 2
          · rw [if_pos c, if_pos c]
          · exfalso
            have hd : sl (kd q) j < 4 := sl_lt _ _
            have h33 : sl (kd q) j ≠ 3 := sl3 h2
            omega
  unfold cel
  rw [hf, h1]
theorem wr_ne {h : Hp} {k j q : Nat} {v : Int32} (hq : q ≠ k) : (wr h k j v).1 q = h.1 q := by
  funext b
  unfold wr
  exact if_neg (fun e => hq e.1)
theorem wr_row (h : Hp) (k j : Nat) (v : Int32) : (wr h k j v).1 k = upd (h.1 k) j v := by
  funext b
  unfold wr upd
  simp
theorem map_set_range {n j : Nat} (hj : j < n) {f g : Nat → Value} (hf : ∀ i, i ≠ j → g i = f i) : ((List.range n).map f).set j (g j) = (List.range n).map g := by
  apply List.ext_getElem?
  intro i
  by_cases hi : i = j
  · subst hi
    rw [List.getElem?_set_self (by simpa using hj), List.getElem?_map, List.getElem?_range hj]
    rfl
  · rw [List.getElem?_set_ne (Ne.symm hi), List.getElem?_map, List.getElem?_map]
    by_cases hl : i < n
    · rw [List.getElem?_range hl]
      simp [hf i hi]
    · rw [List.getElem?_eq_none (by simpa using hl)]
      rfl
theorem lg_mem {lv : Lv} {i : Nat} {v : Value} (h : lg lv i = v) (hv : ∀ n, v ≠ .retAddr n) : (i, v) ∈ lv := by
  induction lv with
  | nil => exact absurd h.symm (hv 0)
  | cons q r ih =>
    unfold lg at h
    by_cases hq : q.1 = i
    · rw [if_pos hq] at h
      obtain ⟨a, b⟩ := q
      cases hq
      cases h
      exact List.mem_cons_self
    · rw [if_neg hq] at h
      exact List.mem_cons_of_mem _ (ih h)
theorem lg_at {al : Nat → Nat} {ls : Array Slot} {nL : Nat} {lv : Lv} (hl : lv_has ls nL (lv.map (vmp al))) {i : Nat} {v : Value} (h : lg lv i = v) (hv : ∀ n, v ≠ .retAddr n) : ls[i]? = some (.val (vm al v)) :=
  hl.2.2 (i, vm al v) (List.mem_map.mpr ⟨(i, v), lg_mem h hv, rfl⟩)
theorem ls1_map (al : Nat → Nat) (lv : Lv) (i : Nat) (v : Value) : (ls1 lv i v).map (vmp al) = (i, vm al v) :: (lv.map (vmp al)).filter (fun q => !(q.1 == i) && !(q.1 + 1 == i && q.2.category == 2)) := by
  unfold ls1
  rw [List.map_cons, List.filter_map]
  congr 2
  apply List.filter_congr
  intro q _
  simp [vmp, vm_cat]
theorem ls2_map (al : Nat → Nat) (lv : Lv) (i : Nat) (v : Value) : (ls2 lv i v).map (vmp al) = (i, vm al v) :: (lv.map (vmp al)).filter (fun q => !(q.1 == i) && (!(q.1 == i + 1) && !(q.1 + 1 == i && q.2.category == 2))) := by
  unfold ls2
  rw [List.map_cons, List.filter_map]
  congr 2
  apply List.filter_congr
  intro q _
  simp [vmp, vm_cat]
theorem sm_map (al : Nat → Nat) (st : List Value) : ((st.map (vm al)).map fun v => v.category).sum = sm st := by
  induction st with
  | nil => rfl
  | cons v r ih =>
    rw [List.map_cons, List.map_cons, List.sum_cons, ih, vm_cat]
    rfl
def tyA (t : Nat) : FieldType := if t = 0 then .int else if t = 1 then .byte else if t = 2 then .boolean else if t = 3 then .object "GrainInn$House" else if t = 4 then .object "GrainInn$Lines" else if t = 5 then .object "GrainInn$Bench" else .object "GrainInn$Told"
/-- what holds while a method's body runs -/
def Cx (p : Program) (R : Room) (s : State) (m : MethodId) (args : Array Value) (c : Code) (cc : ByteArray) (nL on : Nat) (cells slots : Nat) (A : Nat → Prop) (D : va_G) (tys : List (ClassId × FieldType)) (cy : Nat → ClassId) (al : Nat → Nat) (sc : Sc) : Prop :=
  (p.tables.exec = Jvm.exec ∧ c.code = cc ∧ c.maxLocals = nL ∧ s.vm.findClass (RN on) = some m.cls ∧ (∀ w ∈ W0, w.before args s = true) ∧ (∀ w ∈ NWL, va_Nw w s)) ∧
  (va_K D vwCl tys s ∧ (∀ h, va_D A (wsp cy al h)) ∧ (∀ t, t < 7 → tys[t]? = some (cy (20 + t), tyA t))) ∧
  ((∀ r ∈ LDS, vk_R (RN r.1) r.2.1 (STX.getD r.2.2 "") (al (400 + r.2.2)) s) ∧ va_X (al 300) sc.2 sc.1 s s.heap ∧ al 300 < s.heap.size ∧ ¬ A (al 300)) ∧
  (1 ≤ R.frames ∧ 100 ≤ R.locals ∧ cells ≤ R.cells ∧ slots ≤ R.slots)
section SND
variable {p : Program} {l : Launch} {e : Env} {R : Room} {s : State} {m : MethodId} {args : Array Value} {below : List Frame} {meth : Method} {c : Code} {cells slots : Nat} {Q : State → Prop}
variable {cc : ByteArray} {nL on : Nat} {A : Nat → Prop} {D : va_G} {tys : List (ClassId × FieldType)} {cy : Nat → ClassId} {al : Nat → Nat} {sc : Sc}
/-- the road from this place on is good -/
def GM (p : Program) (l : Launch) (e : Env) (R : Room) (s : State) (m : MethodId) (args : Array Value) (below : List Frame) (meth : Method) (c : Code) (cells slots : Nat) (Q : State → Prop) (nL : Nat) (A : Nat → Prop) (D : va_G) (cy : Nat → ClassId) (al : Nat → Nat) (pc : Nat) (lv : Lv) (st : List Value) (h : Hp) : Prop :=
  ∀ (ls : Array Slot) (H : Heap) (locs : List Loc), lv_has ls nL (lv.map (vmp al)) → va_P D vwCl (wsp cy al h) H → va_S A s.heap H locs → W p l e R s m args below meth c H locs cells slots Q (F0 m pc ls (st.map (vm al)))

theorem so_iadd {cs : List Int32} {qs : List Int64} {pc : Nat} {lv lv' : Lv} {st st' : List Value} {h h' : Hp} {P : Option Prop}  (C : Cx p R s m args c cc nL on cells slots A D tys cy al sc) (hd : decode cc pc = .ok (.iadd, 1)) (hex : ex1 sc cs qs (.iadd) lv st h = some ((lv', st', h'), P)) (hP9 : ∀ x, P = some x → x) (K : GM p l e R s m args below meth c cells slots Q nL A D cy al (pc + 1) lv' st' h') : GM p l e R s m args below meth c cells slots Q nL A D cy al pc lv st h := by
  obtain ⟨⟨hx, hb, hml, hown, hts, hnw⟩, ⟨hK, hD, hT⟩, ⟨hst, hX, hXl, hXA⟩, hR1, hR2, hR3, hR4⟩ := C
  intro ls H locs hl hP hS
  simp only [ex1, i2, ok0] at hex
  split at hex
  · cases hex
    exact lv_iadd hx hb hd (K ls H locs hl hP hS)
  · cases hex
theorem so_isub {cs : List Int32} {qs : List Int64} {pc : Nat} {lv lv' : Lv} {st st' : List Value} {h h' : Hp} {P : Option Prop}  (C : Cx p R s m args c cc nL on cells slots A D tys cy al sc) (hd : decode cc pc = .ok (.isub, 1)) (hex : ex1 sc cs qs (.isub) lv st h = some ((lv', st', h'), P)) (hP9 : ∀ x, P = some x → x) (K : GM p l e R s m args below meth c cells slots Q nL A D cy al (pc + 1) lv' st' h') : GM p l e R s m args below meth c cells slots Q nL A D cy al pc lv st h := by
  obtain ⟨⟨hx, hb, hml, hown, hts, hnw⟩, ⟨hK, hD, hT⟩, ⟨hst, hX, hXl, hXA⟩, hR1, hR2, hR3, hR4⟩ := C
  intro ls H locs hl hP hS
  simp only [ex1, i2, ok0] at hex
  split at hex
  · cases hex
    exact lv_isub hx hb hd (K ls H locs hl hP hS)
  · cases hex
theorem so_imul {cs : List Int32} {qs : List Int64} {pc : Nat} {lv lv' : Lv} {st st' : List Value} {h h' : Hp} {P : Option Prop}  (C : Cx p R s m args c cc nL on cells slots A D tys cy al sc) (hd : decode cc pc = .ok (.imul, 1)) (hex : ex1 sc cs qs (.imul) lv st h = some ((lv', st', h'), P)) (hP9 : ∀ x, P = some x → x) (K : GM p l e R s m args below meth c cells slots Q nL A D cy al (pc + 1) lv' st' h') : GM p l e R s m args below meth c cells slots Q nL A D cy al pc lv st h := by
  obtain ⟨⟨hx, hb, hml, hown, hts, hnw⟩, ⟨hK, hD, hT⟩, ⟨hst, hX, hXl, hXA⟩, hR1, hR2, hR3, hR4⟩ := C
  intro ls H locs hl hP hS
  simp only [ex1, i2, ok0] at hex
  split at hex
  · cases hex
    exact lv_imul hx hb hd (K ls H locs hl hP hS)
  · cases hex
theorem so_iand {cs : List Int32} {qs : List Int64} {pc : Nat} {lv lv' : Lv} {st st' : List Value} {h h' : Hp} {P : Option Prop}  (C : Cx p R s m args c cc nL on cells slots A D tys cy al sc) (hd : decode cc pc = .ok (.iand, 1)) (hex : ex1 sc cs qs (.iand) lv st h = some ((lv', st', h'), P)) (hP9 : ∀ x, P = some x → x) (K : GM p l e R s m args below meth c cells slots Q nL A D cy al (pc + 1) lv' st' h') : GM p l e R s m args below meth c cells slots Q nL A D cy al pc lv st h := by
  obtain ⟨⟨hx, hb, hml, hown, hts, hnw⟩, ⟨hK, hD, hT⟩, ⟨hst, hX, hXl, hXA⟩, hR1, hR2, hR3, hR4⟩ := C
  intro ls H locs hl hP hS
  simp only [ex1, i2, ok0] at hex
  split at hex
  · cases hex
    exact lv_iand hx hb hd (K ls H locs hl hP hS)
  · cases hex
theorem so_ior {cs : List Int32} {qs : List Int64} {pc : Nat} {lv lv' : Lv} {st st' : List Value} {h h' : Hp} {P : Option Prop}  (C : Cx p R s m args c cc nL on cells slots A D tys cy al sc) (hd : decode cc pc = .ok (.ior, 1)) (hex : ex1 sc cs qs (.ior) lv st h = some ((lv', st', h'), P)) (hP9 : ∀ x, P = some x → x) (K : GM p l e R s m args below meth c cells slots Q nL A D cy al (pc + 1) lv' st' h') : GM p l e R s m args below meth c cells slots Q nL A D cy al pc lv st h := by
  obtain ⟨⟨hx, hb, hml, hown, hts, hnw⟩, ⟨hK, hD, hT⟩, ⟨hst, hX, hXl, hXA⟩, hR1, hR2, hR3, hR4⟩ := C
  intro ls H locs hl hP hS
  simp only [ex1, i2, ok0] at hex
  split at hex
  · cases hex
    exact lv_ior hx hb hd (K ls H locs hl hP hS)
  · cases hex
theorem so_ixor {cs : List Int32} {qs : List Int64} {pc : Nat} {lv lv' : Lv} {st st' : List Value} {h h' : Hp} {P : Option Prop}  (C : Cx p R s m args c cc nL on cells slots A D tys cy al sc) (hd : decode cc pc = .ok (.ixor, 1)) (hex : ex1 sc cs qs (.ixor) lv st h = some ((lv', st', h'), P)) (hP9 : ∀ x, P = some x → x) (K : GM p l e R s m args below meth c cells slots Q nL A D cy al (pc + 1) lv' st' h') : GM p l e R s m args below meth c cells slots Q nL A D cy al pc lv st h := by
  obtain ⟨⟨hx, hb, hml, hown, hts, hnw⟩, ⟨hK, hD, hT⟩, ⟨hst, hX, hXl, hXA⟩, hR1, hR2, hR3, hR4⟩ := C
  intro ls H locs hl hP hS
  simp only [ex1, i2, ok0] at hex
  split at hex
  · cases hex
    exact lv_ixor hx hb hd (K ls H locs hl hP hS)
  · cases hex
theorem so_ishl {cs : List Int32} {qs : List Int64} {pc : Nat} {lv lv' : Lv} {st st' : List Value} {h h' : Hp} {P : Option Prop}  (C : Cx p R s m args c cc nL on cells slots A D tys cy al sc) (hd : decode cc pc = .ok (.ishl, 1)) (hex : ex1 sc cs qs (.ishl) lv st h = some ((lv', st', h'), P)) (hP9 : ∀ x, P = some x → x) (K : GM p l e R s m args below meth c cells slots Q nL A D cy al (pc + 1) lv' st' h') : GM p l e R s m args below meth c cells slots Q nL A D cy al pc lv st h := by
  obtain ⟨⟨hx, hb, hml, hown, hts, hnw⟩, ⟨hK, hD, hT⟩, ⟨hst, hX, hXl, hXA⟩, hR1, hR2, hR3, hR4⟩ := C
  intro ls H locs hl hP hS
  simp only [ex1, i2, ok0] at hex
  split at hex
  · cases hex
    exact lv_ishl hx hb hd (K ls H locs hl hP hS)
  · cases hex
theorem so_ishr {cs : List Int32} {qs : List Int64} {pc : Nat} {lv lv' : Lv} {st st' : List Value} {h h' : Hp} {P : Option Prop}  (C : Cx p R s m args c cc nL on cells slots A D tys cy al sc) (hd : decode cc pc = .ok (.ishr, 1)) (hex : ex1 sc cs qs (.ishr) lv st h = some ((lv', st', h'), P)) (hP9 : ∀ x, P = some x → x) (K : GM p l e R s m args below meth c cells slots Q nL A D cy al (pc + 1) lv' st' h') : GM p l e R s m args below meth c cells slots Q nL A D cy al pc lv st h := by
  obtain ⟨⟨hx, hb, hml, hown, hts, hnw⟩, ⟨hK, hD, hT⟩, ⟨hst, hX, hXl, hXA⟩, hR1, hR2, hR3, hR4⟩ := C
  intro ls H locs hl hP hS
  simp only [ex1, i2, ok0] at hex
  split at hex
  · cases hex
    exact lv_ishr hx hb hd (K ls H locs hl hP hS)
  · cases hex
theorem so_iushr {cs : List Int32} {qs : List Int64} {pc : Nat} {lv lv' : Lv} {st st' : List Value} {h h' : Hp} {P : Option Prop}  (C : Cx p R s m args c cc nL on cells slots A D tys cy al sc) (hd : decode cc pc = .ok (.iushr, 1)) (hex : ex1 sc cs qs (.iushr) lv st h = some ((lv', st', h'), P)) (hP9 : ∀ x, P = some x → x) (K : GM p l e R s m args below meth c cells slots Q nL A D cy al (pc + 1) lv' st' h') : GM p l e R s m args below meth c cells slots Q nL A D cy al pc lv st h := by
  obtain ⟨⟨hx, hb, hml, hown, hts, hnw⟩, ⟨hK, hD, hT⟩, ⟨hst, hX, hXl, hXA⟩, hR1, hR2, hR3, hR4⟩ := C
  intro ls H locs hl hP hS
  simp only [ex1, i2, ok0] at hex
  split at hex
  · cases hex
    exact lv_iushr hx hb hd rfl (K ls H locs hl hP hS)
  · cases hex
theorem so_idiv {cs : List Int32} {qs : List Int64} {pc : Nat} {lv lv' : Lv} {st st' : List Value} {h h' : Hp} {P : Option Prop}  (C : Cx p R s m args c cc nL on cells slots A D tys cy al sc) (hd : decode cc pc = .ok (.idiv, 1)) (hex : ex1 sc cs qs (.idiv) lv st h = some ((lv', st', h'), P)) (hP9 : ∀ x, P = some x → x) (K : GM p l e R s m args below meth c cells slots Q nL A D cy al (pc + 1) lv' st' h') : GM p l e R s m args below meth c cells slots Q nL A D cy al pc lv st h := by
  obtain ⟨⟨hx, hb, hml, hown, hts, hnw⟩, ⟨hK, hD, hT⟩, ⟨hst, hX, hXl, hXA⟩, hR1, hR2, hR3, hR4⟩ := C
  intro ls H locs hl hP hS
  simp only [ex1, ok1] at hex
  split at hex
  · cases hex
    exact lv_idiv hx hb hd (hP9 _ rfl) (K ls H locs hl hP hS)
  · cases hex
theorem so_irem {cs : List Int32} {qs : List Int64} {pc : Nat} {lv lv' : Lv} {st st' : List Value} {h h' : Hp} {P : Option Prop}  (C : Cx p R s m args c cc nL on cells slots A D tys cy al sc) (hd : decode cc pc = .ok (.irem, 1)) (hex : ex1 sc cs qs (.irem) lv st h = some ((lv', st', h'), P)) (hP9 : ∀ x, P = some x → x) (K : GM p l e R s m args below meth c cells slots Q nL A D cy al (pc + 1) lv' st' h') : GM p l e R s m args below meth c cells slots Q nL A D cy al pc lv st h := by
  obtain ⟨⟨hx, hb, hml, hown, hts, hnw⟩, ⟨hK, hD, hT⟩, ⟨hst, hX, hXl, hXA⟩, hR1, hR2, hR3, hR4⟩ := C
  intro ls H locs hl hP hS
  simp only [ex1, ok1] at hex
  split at hex
  · cases hex
    exact lv_irem hx hb hd (hP9 _ rfl) (K ls H locs hl hP hS)
  · cases hex
theorem so_ineg {cs : List Int32} {qs : List Int64} {pc : Nat} {lv lv' : Lv} {st st' : List Value} {h h' : Hp} {P : Option Prop}  (C : Cx p R s m args c cc nL on cells slots A D tys cy al sc) (hd : decode cc pc = .ok (.ineg, 1)) (hex : ex1 sc cs qs (.ineg) lv st h = some ((lv', st', h'), P)) (hP9 : ∀ x, P = some x → x) (K : GM p l e R s m args below meth c cells slots Q nL A D cy al (pc + 1) lv' st' h') : GM p l e R s m args below meth c cells slots Q nL A D cy al pc lv st h := by
  obtain ⟨⟨hx, hb, hml, hown, hts, hnw⟩, ⟨hK, hD, hT⟩, ⟨hst, hX, hXl, hXA⟩, hR1, hR2, hR3, hR4⟩ := C
  intro ls H locs hl hP hS
  simp only [ex1, ok0] at hex
  split at hex
  · cases hex
    exact lv_ineg hx hb hd (K ls H locs hl hP hS)
  · cases hex
theorem so_i2l {cs : List Int32} {qs : List Int64} {pc : Nat} {lv lv' : Lv} {st st' : List Value} {h h' : Hp} {P : Option Prop}  (C : Cx p R s m args c cc nL on cells slots A D tys cy al sc) (hd : decode cc pc = .ok (.i2l, 1)) (hex : ex1 sc cs qs (.i2l) lv st h = some ((lv', st', h'), P)) (hP9 : ∀ x, P = some x → x) (K : GM p l e R s m args below meth c cells slots Q nL A D cy al (pc + 1) lv' st' h') : GM p l e R s m args below meth c cells slots Q nL A D cy al pc lv st h := by
  obtain ⟨⟨hx, hb, hml, hown, hts, hnw⟩, ⟨hK, hD, hT⟩, ⟨hst, hX, hXl, hXA⟩, hR1, hR2, hR3, hR4⟩ := C
  intro ls H locs hl hP hS
  simp only [ex1, ok0] at hex
  split at hex
  · cases hex
    exact lv_i2l hx hb hd rfl (K ls H locs hl hP hS)
  · cases hex
theorem so_i2b {cs : List Int32} {qs : List Int64} {pc : Nat} {lv lv' : Lv} {st st' : List Value} {h h' : Hp} {P : Option Prop}  (C : Cx p R s m args c cc nL on cells slots A D tys cy al sc) (hd : decode cc pc = .ok (.i2b, 1)) (hex : ex1 sc cs qs (.i2b) lv st h = some ((lv', st', h'), P)) (hP9 : ∀ x, P = some x → x) (K : GM p l e R s m args below meth c cells slots Q nL A D cy al (pc + 1) lv' st' h') : GM p l e R s m args below meth c cells slots Q nL A D cy al pc lv st h := by
  obtain ⟨⟨hx, hb, hml, hown, hts, hnw⟩, ⟨hK, hD, hT⟩, ⟨hst, hX, hXl, hXA⟩, hR1, hR2, hR3, hR4⟩ := C
  intro ls H locs hl hP hS
  simp only [ex1, ok0] at hex
  split at hex
  · cases hex
    exact lv_i2b hx hb hd rfl (K ls H locs hl hP hS)
  · cases hex
theorem so_lcmp {cs : List Int32} {qs : List Int64} {pc : Nat} {lv lv' : Lv} {st st' : List Value} {h h' : Hp} {P : Option Prop}  (C : Cx p R s m args c cc nL on cells slots A D tys cy al sc) (hd : decode cc pc = .ok (.lcmp, 1)) (hex : ex1 sc cs qs (.lcmp) lv st h = some ((lv', st', h'), P)) (hP9 : ∀ x, P = some x → x) (K : GM p l e R s m args below meth c cells slots Q nL A D cy al (pc + 1) lv' st' h') : GM p l e R s m args below meth c cells slots Q nL A D cy al pc lv st h := by
  obtain ⟨⟨hx, hb, hml, hown, hts, hnw⟩, ⟨hK, hD, hT⟩, ⟨hst, hX, hXl, hXA⟩, hR1, hR2, hR3, hR4⟩ := C
  intro ls H locs hl hP hS
  simp only [ex1, ok0] at hex
  split at hex
  · cases hex
    exact W.lcmp hx hb hd (K ls H locs hl hP hS)
  · cases hex
theorem so_lor {cs : List Int32} {qs : List Int64} {pc : Nat} {lv lv' : Lv} {st st' : List Value} {h h' : Hp} {P : Option Prop}  (C : Cx p R s m args c cc nL on cells slots A D tys cy al sc) (hd : decode cc pc = .ok (.lor, 1)) (hex : ex1 sc cs qs (.lor) lv st h = some ((lv', st', h'), P)) (hP9 : ∀ x, P = some x → x) (K : GM p l e R s m args below meth c cells slots Q nL A D cy al (pc + 1) lv' st' h') : GM p l e R s m args below meth c cells slots Q nL A D cy al pc lv st h := by
  obtain ⟨⟨hx, hb, hml, hown, hts, hnw⟩, ⟨hK, hD, hT⟩, ⟨hst, hX, hXl, hXA⟩, hR1, hR2, hR3, hR4⟩ := C
  intro ls H locs hl hP hS
  simp only [ex1, ok0] at hex
  split at hex
  · cases hex
    exact lv_lor hx hb hd (K ls H locs hl hP hS)
  · cases hex
theorem so_lshl {cs : List Int32} {qs : List Int64} {pc : Nat} {lv lv' : Lv} {st st' : List Value} {h h' : Hp} {P : Option Prop}  (C : Cx p R s m args c cc nL on cells slots A D tys cy al sc) (hd : decode cc pc = .ok (.lshl, 1)) (hex : ex1 sc cs qs (.lshl) lv st h = some ((lv', st', h'), P)) (hP9 : ∀ x, P = some x → x) (K : GM p l e R s m args below meth c cells slots Q nL A D cy al (pc + 1) lv' st' h') : GM p l e R s m args below meth c cells slots Q nL A D cy al pc lv st h := by
  obtain ⟨⟨hx, hb, hml, hown, hts, hnw⟩, ⟨hK, hD, hT⟩, ⟨hst, hX, hXl, hXA⟩, hR1, hR2, hR3, hR4⟩ := C
  intro ls H locs hl hP hS
  simp only [ex1, ok0] at hex
  split at hex
  · cases hex
    exact lv_lshl hx hb hd rfl (K ls H locs hl hP hS)
  · cases hex
theorem so_dup {cs : List Int32} {qs : List Int64} {pc : Nat} {lv lv' : Lv} {st st' : List Value} {h h' : Hp} {P : Option Prop}  (C : Cx p R s m args c cc nL on cells slots A D tys cy al sc) (hd : decode cc pc = .ok (.dup, 1)) (hex : ex1 sc cs qs (.dup) lv st h = some ((lv', st', h'), P)) (hP9 : ∀ x, P = some x → x) (K : GM p l e R s m args below meth c cells slots Q nL A D cy al (pc + 1) lv' st' h') : GM p l e R s m args below meth c cells slots Q nL A D cy al pc lv st h := by
  obtain ⟨⟨hx, hb, hml, hown, hts, hnw⟩, ⟨hK, hD, hT⟩, ⟨hst, hX, hXl, hXA⟩, hR1, hR2, hR3, hR4⟩ := C
  intro ls H locs hl hP hS
  simp only [ex1, ok0] at hex
  split at hex
  · cases hex
    exact lv_dup hx hb hd rfl (K ls H locs hl hP hS)
  · cases hex
    exact lv_dup hx hb hd (vm_cat al _) (K ls H locs hl hP hS)
  · cases hex
theorem so_dup2 {cs : List Int32} {qs : List Int64} {pc : Nat} {lv lv' : Lv} {st st' : List Value} {h h' : Hp} {P : Option Prop}  (C : Cx p R s m args c cc nL on cells slots A D tys cy al sc) (hd : decode cc pc = .ok (.dup2, 1)) (hex : ex1 sc cs qs (.dup2) lv st h = some ((lv', st', h'), P)) (hP9 : ∀ x, P = some x → x) (K : GM p l e R s m args below meth c cells slots Q nL A D cy al (pc + 1) lv' st' h') : GM p l e R s m args below meth c cells slots Q nL A D cy al pc lv st h := by
  obtain ⟨⟨hx, hb, hml, hown, hts, hnw⟩, ⟨hK, hD, hT⟩, ⟨hst, hX, hXl, hXA⟩, hR1, hR2, hR3, hR4⟩ := C
  intro ls H locs hl hP hS
  simp only [ex1, ok0] at hex
  split at hex
  · cases hex
    exact lv_dup2_11 hx hb hd rfl rfl (K ls H locs hl hP hS)
  · cases hex
    exact lv_dup2_11 hx hb hd rfl (vm_cat al _) (K ls H locs hl hP hS)
  · cases hex
theorem so_pop {cs : List Int32} {qs : List Int64} {pc : Nat} {lv lv' : Lv} {st st' : List Value} {h h' : Hp} {P : Option Prop}  (C : Cx p R s m args c cc nL on cells slots A D tys cy al sc) (hd : decode cc pc = .ok (.pop, 1)) (hex : ex1 sc cs qs (.pop) lv st h = some ((lv', st', h'), P)) (hP9 : ∀ x, P = some x → x) (K : GM p l e R s m args below meth c cells slots Q nL A D cy al (pc + 1) lv' st' h') : GM p l e R s m args below meth c cells slots Q nL A D cy al pc lv st h := by
  obtain ⟨⟨hx, hb, hml, hown, hts, hnw⟩, ⟨hK, hD, hT⟩, ⟨hst, hX, hXl, hXA⟩, hR1, hR2, hR3, hR4⟩ := C
  intro ls H locs hl hP hS
  simp only [ex1, ok0] at hex
  split at hex
  · cases hex
    exact lv_pop hx hb hd rfl (K ls H locs hl hP hS)
  · cases hex
    exact lv_pop hx hb hd (vm_cat al _) (K ls H locs hl hP hS)
  · cases hex
theorem so_null {cs : List Int32} {qs : List Int64} {pc : Nat} {lv lv' : Lv} {st st' : List Value} {h h' : Hp} {P : Option Prop}  (C : Cx p R s m args c cc nL on cells slots A D tys cy al sc) (hd : decode cc pc = .ok (.aconst_null, 1)) (hex : ex1 sc cs qs (.aconst_null) lv st h = some ((lv', st', h'), P)) (hP9 : ∀ x, P = some x → x) (K : GM p l e R s m args below meth c cells slots Q nL A D cy al (pc + 1) lv' st' h') : GM p l e R s m args below meth c cells slots Q nL A D cy al pc lv st h := by
  obtain ⟨⟨hx, hb, hml, hown, hts, hnw⟩, ⟨hK, hD, hT⟩, ⟨hst, hX, hXl, hXA⟩, hR1, hR2, hR3, hR4⟩ := C
  intro ls H locs hl hP hS
  simp only [ex1, ok0] at hex
  cases hex
  exact lv_null hx hb hd (K ls H locs hl hP hS)
theorem so_iconst {cs : List Int32} {qs : List Int64} {pc : Nat} {lv lv' : Lv} {st st' : List Value} {h h' : Hp} {P : Option Prop} {v : Int} {k : Nat} (hk : cs[k]? = some (Int32.ofInt v)) (C : Cx p R s m args c cc nL on cells slots A D tys cy al sc) (hd : decode cc pc = .ok (.iconst v, 1)) (hex : ex1 sc cs qs (.ldc_w k) lv st h = some ((lv', st', h'), P)) (hP9 : ∀ x, P = some x → x) (K : GM p l e R s m args below meth c cells slots Q nL A D cy al (pc + 1) lv' st' h') : GM p l e R s m args below meth c cells slots Q nL A D cy al pc lv st h := by
  obtain ⟨⟨hx, hb, hml, hown, hts, hnw⟩, ⟨hK, hD, hT⟩, ⟨hst, hX, hXl, hXA⟩, hR1, hR2, hR3, hR4⟩ := C
  intro ls H locs hl hP hS
  simp only [ex1, ok0] at hex
  cases hex
  exact lv_iconst hx hb hd (by rw [List.getD_eq_getElem?_getD, hk]; rfl) (K ls H locs hl hP hS)
theorem so_bipush {cs : List Int32} {qs : List Int64} {pc : Nat} {lv lv' : Lv} {st st' : List Value} {h h' : Hp} {P : Option Prop} {v : Int} {k : Nat} (hk : cs[k]? = some (Int8.ofInt v).toInt32) (C : Cx p R s m args c cc nL on cells slots A D tys cy al sc) (hd : decode cc pc = .ok (.bipush v, 2)) (hex : ex1 sc cs qs (.ldc_w k) lv st h = some ((lv', st', h'), P)) (hP9 : ∀ x, P = some x → x) (K : GM p l e R s m args below meth c cells slots Q nL A D cy al (pc + 2) lv' st' h') : GM p l e R s m args below meth c cells slots Q nL A D cy al pc lv st h := by
  obtain ⟨⟨hx, hb, hml, hown, hts, hnw⟩, ⟨hK, hD, hT⟩, ⟨hst, hX, hXl, hXA⟩, hR1, hR2, hR3, hR4⟩ := C
  intro ls H locs hl hP hS
  simp only [ex1, ok0] at hex
  cases hex
  exact lv_bipush hx hb hd (by rw [List.getD_eq_getElem?_getD, hk]; rfl) (K ls H locs hl hP hS)
theorem so_sipush {cs : List Int32} {qs : List Int64} {pc : Nat} {lv lv' : Lv} {st st' : List Value} {h h' : Hp} {P : Option Prop} {v : Int} {k : Nat} (hk : cs[k]? = some (Int16.ofInt v).toInt32) (C : Cx p R s m args c cc nL on cells slots A D tys cy al sc) (hd : decode cc pc = .ok (.sipush v, 3)) (hex : ex1 sc cs qs (.ldc_w k) lv st h = some ((lv', st', h'), P)) (hP9 : ∀ x, P = some x → x) (K : GM p l e R s m args below meth c cells slots Q nL A D cy al (pc + 3) lv' st' h') : GM p l e R s m args below meth c cells slots Q nL A D cy al pc lv st h := by
  obtain ⟨⟨hx, hb, hml, hown, hts, hnw⟩, ⟨hK, hD, hT⟩, ⟨hst, hX, hXl, hXA⟩, hR1, hR2, hR3, hR4⟩ := C
  intro ls H locs hl hP hS
  simp only [ex1, ok0] at hex
  cases hex
  exact lv_sipush hx hb hd (by rw [List.getD_eq_getElem?_getD, hk]; rfl) (K ls H locs hl hP hS)
theorem so_lconst {cs : List Int32} {qs : List Int64} {pc : Nat} {lv lv' : Lv} {st st' : List Value} {h h' : Hp} {P : Option Prop} {v : Fin 2} {k : Nat} (hk : qs[k]? = some (Int64.ofNat (v : Nat))) (C : Cx p R s m args c cc nL on cells slots A D tys cy al sc) (hd : decode cc pc = .ok (.lconst v, 1)) (hex : ex1 sc cs qs (.ldc2_w k) lv st h = some ((lv', st', h'), P)) (hP9 : ∀ x, P = some x → x) (K : GM p l e R s m args below meth c cells slots Q nL A D cy al (pc + 1) lv' st' h') : GM p l e R s m args below meth c cells slots Q nL A D cy al pc lv st h := by
  obtain ⟨⟨hx, hb, hml, hown, hts, hnw⟩, ⟨hK, hD, hT⟩, ⟨hst, hX, hXl, hXA⟩, hR1, hR2, hR3, hR4⟩ := C
  intro ls H locs hl hP hS
  simp only [ex1, ok0] at hex
  cases hex
  exact lv_lconst hx hb hd (by rw [List.getD_eq_getElem?_getD, hk]; rfl) (K ls H locs hl hP hS)
theorem so_ldc {cs : List Int32} {qs : List Int64} {pc : Nat} {lv lv' : Lv} {st st' : List Value} {h h' : Hp} {P : Option Prop} {x k : Nat} {v : Int32} (hk : cs[k]? = some v) (hw : (on, x, v) ∈ LDC) (C : Cx p R s m args c cc nL on cells slots A D tys cy al sc) (hd : decode cc pc = .ok (.ldc x, 2)) (hex : ex1 sc cs qs (.ldc_w k) lv st h = some ((lv', st', h'), P)) (hP9 : ∀ x, P = some x → x) (K : GM p l e R s m args below meth c cells slots Q nL A D cy al (pc + 2) lv' st' h') : GM p l e R s m args below meth c cells slots Q nL A D cy al pc lv st h := by
  obtain ⟨⟨hx, hb, hml, hown, hts, hnw⟩, ⟨hK, hD, hT⟩, ⟨hst, hX, hXl, hXA⟩, hR1, hR2, hR3, hR4⟩ := C
  intro ls H locs hl hP hS
  simp only [ex1, ok0] at hex
  cases hex
  rw [List.getD_eq_getElem?_getD, hk] at K
  exact lv_ldc hx hb hown (hts _ (ldc_ok hw)) hd (K ls H locs hl hP hS)
theorem so_ldcw {cs : List Int32} {qs : List Int64} {pc : Nat} {lv lv' : Lv} {st st' : List Value} {h h' : Hp} {P : Option Prop} {x k : Nat} {v : Int32} (hk : cs[k]? = some v) (hw : (on, x, v) ∈ LDC) (C : Cx p R s m args c cc nL on cells slots A D tys cy al sc) (hd : decode cc pc = .ok (.ldc_w x, 3)) (hex : ex1 sc cs qs (.ldc_w k) lv st h = some ((lv', st', h'), P)) (hP9 : ∀ x, P = some x → x) (K : GM p l e R s m args below meth c cells slots Q nL A D cy al (pc + 3) lv' st' h') : GM p l e R s m args below meth c cells slots Q nL A D cy al pc lv st h := by
  obtain ⟨⟨hx, hb, hml, hown, hts, hnw⟩, ⟨hK, hD, hT⟩, ⟨hst, hX, hXl, hXA⟩, hR1, hR2, hR3, hR4⟩ := C
  intro ls H locs hl hP hS
  simp only [ex1, ok0] at hex
  cases hex
  rw [List.getD_eq_getElem?_getD, hk] at K
  exact lv_ldcw hx hb hown (hts _ (ldc_ok hw)) hd (K ls H locs hl hP hS)
theorem so_ldc2 {cs : List Int32} {qs : List Int64} {pc : Nat} {lv lv' : Lv} {st st' : List Value} {h h' : Hp} {P : Option Prop} {x k : Nat} {v : Int64} (hk : qs[k]? = some v) (hw : (on, x, v) ∈ LDL) (C : Cx p R s m args c cc nL on cells slots A D tys cy al sc) (hd : decode cc pc = .ok (.ldc2_w x, 3)) (hex : ex1 sc cs qs (.ldc2_w k) lv st h = some ((lv', st', h'), P)) (hP9 : ∀ x, P = some x → x) (K : GM p l e R s m args below meth c cells slots Q nL A D cy al (pc + 3) lv' st' h') : GM p l e R s m args below meth c cells slots Q nL A D cy al pc lv st h := by
  obtain ⟨⟨hx, hb, hml, hown, hts, hnw⟩, ⟨hK, hD, hT⟩, ⟨hst, hX, hXl, hXA⟩, hR1, hR2, hR3, hR4⟩ := C
  intro ls H locs hl hP hS
  simp only [ex1, ok0] at hex
  cases hex
  rw [List.getD_eq_getElem?_getD, hk] at K
  exact lv_ldc2 hx hb hown (hts _ (ldl_ok hw)) hd (K ls H locs hl hP hS)
theorem so_ldcS {cs : List Int32} {qs : List Int64} {pc : Nat} {lv lv' : Lv} {st st' : List Value} {h h' : Hp} {P : Option Prop} {x k : Nat} (hw : (on, x, k) ∈ LDS) (C : Cx p R s m args c cc nL on cells slots A D tys cy al sc) (hd : decode cc pc = .ok (.ldc x, 2)) (hex : ex1 sc cs qs (.ldc k) lv st h = some ((lv', st', h'), P)) (hP9 : ∀ x, P = some x → x) (K : GM p l e R s m args below meth c cells slots Q nL A D cy al (pc + 2) lv' st' h') : GM p l e R s m args below meth c cells slots Q nL A D cy al pc lv st h := by
  obtain ⟨⟨hx, hb, hml, hown, hts, hnw⟩, ⟨hK, hD, hT⟩, ⟨hst, hX, hXl, hXA⟩, hR1, hR2, hR3, hR4⟩ := C
  intro ls H locs hl hP hS
  simp only [ex1, ok0] at hex
  cases hex
  have hq : vk_R (RN on) x (STX.getD k "") (al (400 + k)) s := hst (on, x, k) hw
  have hz : 400 + k ≠ 0 := by omega
  have K2 := K ls H locs hl hP hS
  rw [List.map_cons, vm_ref al hz] at K2
  generalize al (400 + k) = z9 at hq K2
  exact va_ldcS hx hb hown hq hd K2
theorem so_iload_n {cs : List Int32} {qs : List Int64} {pc : Nat} {lv lv' : Lv} {st st' : List Value} {h h' : Hp} {P : Option Prop} {k : Fin 4} (C : Cx p R s m args c cc nL on cells slots A D tys cy al sc) (hd : decode cc pc = .ok (.iload_n k, 1)) (hex : ex1 sc cs qs (.iload k) lv st h = some ((lv', st', h'), P)) (hP9 : ∀ x, P = some x → x) (K : GM p l e R s m args below meth c cells slots Q nL A D cy al (pc + 1) lv' st' h') : GM p l e R s m args below meth c cells slots Q nL A D cy al pc lv st h := by
  obtain ⟨⟨hx, hb, hml, hown, hts, hnw⟩, ⟨hK, hD, hT⟩, ⟨hst, hX, hXl, hXA⟩, hR1, hR2, hR3, hR4⟩ := C
  intro ls H locs hl hP hS
  simp only [ex1, ok0] at hex
  split at hex
  · rename_i x hx9
    cases hex
    exact lv_iload_n hx hb hd rfl (lg_at hl hx9 (fun _ q => by cases q)) (K ls H locs hl hP hS)
  · cases hex
theorem so_iload {cs : List Int32} {qs : List Int64} {pc : Nat} {lv lv' : Lv} {st st' : List Value} {h h' : Hp} {P : Option Prop} {k : Nat} (C : Cx p R s m args c cc nL on cells slots A D tys cy al sc) (hd : decode cc pc = .ok (.iload k, 2)) (hex : ex1 sc cs qs (.iload k) lv st h = some ((lv', st', h'), P)) (hP9 : ∀ x, P = some x → x) (K : GM p l e R s m args below meth c cells slots Q nL A D cy al (pc + 2) lv' st' h') : GM p l e R s m args below meth c cells slots Q nL A D cy al pc lv st h := by
  obtain ⟨⟨hx, hb, hml, hown, hts, hnw⟩, ⟨hK, hD, hT⟩, ⟨hst, hX, hXl, hXA⟩, hR1, hR2, hR3, hR4⟩ := C
  intro ls H locs hl hP hS
  simp only [ex1, ok0] at hex
  split at hex
  · rename_i x hx9
    cases hex
    exact lv_iload hx hb hd (lg_at hl hx9 (fun _ q => by cases q)) (K ls H locs hl hP hS)
  · cases hex
theorem so_lload_n {cs : List Int32} {qs : List Int64} {pc : Nat} {lv lv' : Lv} {st st' : List Value} {h h' : Hp} {P : Option Prop} {k : Fin 4} (C : Cx p R s m args c cc nL on cells slots A D tys cy al sc) (hd : decode cc pc = .ok (.lload_n k, 1)) (hex : ex1 sc cs qs (.lload k) lv st h = some ((lv', st', h'), P)) (hP9 : ∀ x, P = some x → x) (K : GM p l e R s m args below meth c cells slots Q nL A D cy al (pc + 1) lv' st' h') : GM p l e R s m args below meth c cells slots Q nL A D cy al pc lv st h := by
  obtain ⟨⟨hx, hb, hml, hown, hts, hnw⟩, ⟨hK, hD, hT⟩, ⟨hst, hX, hXl, hXA⟩, hR1, hR2, hR3, hR4⟩ := C
  intro ls H locs hl hP hS
  simp only [ex1, ok0] at hex
  split at hex
  · rename_i x hx9
    cases hex
    exact lv_lload_n hx hb hd rfl (lg_at hl hx9 (fun _ q => by cases q)) (K ls H locs hl hP hS)
  · cases hex
theorem so_lload {cs : List Int32} {qs : List Int64} {pc : Nat} {lv lv' : Lv} {st st' : List Value} {h h' : Hp} {P : Option Prop} {k : Nat} (C : Cx p R s m args c cc nL on cells slots A D tys cy al sc) (hd : decode cc pc = .ok (.lload k, 2)) (hex : ex1 sc cs qs (.lload k) lv st h = some ((lv', st', h'), P)) (hP9 : ∀ x, P = some x → x) (K : GM p l e R s m args below meth c cells slots Q nL A D cy al (pc + 2) lv' st' h') : GM p l e R s m args below meth c cells slots Q nL A D cy al pc lv st h := by
  obtain ⟨⟨hx, hb, hml, hown, hts, hnw⟩, ⟨hK, hD, hT⟩, ⟨hst, hX, hXl, hXA⟩, hR1, hR2, hR3, hR4⟩ := C
  intro ls H locs hl hP hS
  simp only [ex1, ok0] at hex
  split at hex
  · rename_i x hx9
    cases hex
    exact lv_lload hx hb hd (lg_at hl hx9 (fun _ q => by cases q)) (K ls H locs hl hP hS)
  · cases hex
theorem so_aload_n {cs : List Int32} {qs : List Int64} {pc : Nat} {lv lv' : Lv} {st st' : List Value} {h h' : Hp} {P : Option Prop} {k : Fin 4} (C : Cx p R s m args c cc nL on cells slots A D tys cy al sc) (hd : decode cc pc = .ok (.aload_n k, 1)) (hex : ex1 sc cs qs (.aload k) lv st h = some ((lv', st', h'), P)) (hP9 : ∀ x, P = some x → x) (K : GM p l e R s m args below meth c cells slots Q nL A D cy al (pc + 1) lv' st' h') : GM p l e R s m args below meth c cells slots Q nL A D cy al pc lv st h := by
  obtain ⟨⟨hx, hb, hml, hown, hts, hnw⟩, ⟨hK, hD, hT⟩, ⟨hst, hX, hXl, hXA⟩, hR1, hR2, hR3, hR4⟩ := C
  intro ls H locs hl hP hS
  simp only [ex1, ok0] at hex
  split at hex
  · rename_i x hx9
    cases hex
    have h1 := lg_at hl hx9 (fun _ q => by cases q)
    have K2 := K ls H locs hl hP hS
    rw [List.map_cons] at K2
    by_cases hz : x = 0
    · subst hz
      exact lv_aload_nN hx hb hd rfl h1 K2
    · rw [vm_ref al hz] at h1 K2
      exact lv_aload_n hx hb hd rfl h1 K2
  · cases hex
theorem so_istore_n {cs : List Int32} {qs : List Int64} {pc : Nat} {lv lv' : Lv} {st st' : List Value} {h h' : Hp} {P : Option Prop} {k : Fin 4} (hn : (k : Nat) < nL) (C : Cx p R s m args c cc nL on cells slots A D tys cy al sc) (hd : decode cc pc = .ok (.istore_n k, 1)) (hex : ex1 sc cs qs (.istore k) lv st h = some ((lv', st', h'), P)) (hP9 : ∀ x, P = some x → x) (K : GM p l e R s m args below meth c cells slots Q nL A D cy al (pc + 1) lv' st' h') : GM p l e R s m args below meth c cells slots Q nL A D cy al pc lv st h := by
  obtain ⟨⟨hx, hb, hml, hown, hts, hnw⟩, ⟨hK, hD, hT⟩, ⟨hst, hX, hXl, hXA⟩, hR1, hR2, hR3, hR4⟩ := C
  intro ls H locs hl hP hS
  simp only [ex1, ok0] at hex
  split at hex
  · cases hex
    exact lv_istore_n hx hb hd rfl hl hn (ls1_map al lv (k : Nat) (.int _)).symm (fun ls' hl' => K ls' H locs hl' hP hS)
  · cases hex
theorem so_lstore_n {cs : List Int32} {qs : List Int64} {pc : Nat} {lv lv' : Lv} {st st' : List Value} {h h' : Hp} {P : Option Prop} {k : Fin 4} (hn : (k : Nat) + 1 < nL) (C : Cx p R s m args c cc nL on cells slots A D tys cy al sc) (hd : decode cc pc = .ok (.lstore_n k, 1)) (hex : ex1 sc cs qs (.lstore k) lv st h = some ((lv', st', h'), P)) (hP9 : ∀ x, P = some x → x) (K : GM p l e R s m args below meth c cells slots Q nL A D cy al (pc + 1) lv' st' h') : GM p l e R s m args below meth c cells slots Q nL A D cy al pc lv st h := by
  obtain ⟨⟨hx, hb, hml, hown, hts, hnw⟩, ⟨hK, hD, hT⟩, ⟨hst, hX, hXl, hXA⟩, hR1, hR2, hR3, hR4⟩ := C
  intro ls H locs hl hP hS
  simp only [ex1, ok0] at hex
  split at hex
  · cases hex
    exact lv_lstore_n hx hb hd rfl hl hn (ls2_map al lv (k : Nat) (.long _)).symm (fun ls' hl' => K ls' H locs hl' hP hS)
  · cases hex
theorem so_astore_n {cs : List Int32} {qs : List Int64} {pc : Nat} {lv lv' : Lv} {st st' : List Value} {h h' : Hp} {P : Option Prop} {k : Fin 4} (hn : (k : Nat) < nL) (C : Cx p R s m args c cc nL on cells slots A D tys cy al sc) (hd : decode cc pc = .ok (.astore_n k, 1)) (hex : ex1 sc cs qs (.astore k) lv st h = some ((lv', st', h'), P)) (hP9 : ∀ x, P = some x → x) (K : GM p l e R s m args below meth c cells slots Q nL A D cy al (pc + 1) lv' st' h') : GM p l e R s m args below meth c cells slots Q nL A D cy al pc lv st h := by
  obtain ⟨⟨hx, hb, hml, hown, hts, hnw⟩, ⟨hK, hD, hT⟩, ⟨hst, hX, hXl, hXA⟩, hR1, hR2, hR3, hR4⟩ := C
  intro ls H locs hl hP hS
  simp only [ex1, ok0] at hex
  split at hex
  · rename_i x r
    cases hex
    rw [List.map_cons]
    by_cases hz : x = 0
    · subst hz
      exact lv_astore_nN hx hb hd rfl hl hn (ls1_map al lv (k : Nat) (.ref 0)).symm (fun ls' hl' => K ls' H locs hl' hP hS)
    · have e9 := ls1_map al lv k (.ref x)
      rw [vm_ref al hz] at e9 ⊢
      exact lv_astore_n hx hb hd rfl hl hn e9.symm (fun ls' hl' => K ls' H locs hl' hP hS)
  · cases hex
theorem so_aload {cs : List Int32} {qs : List Int64} {pc : Nat} {lv lv' : Lv} {st st' : List Value} {h h' : Hp} {P : Option Prop} {k : Nat} (C : Cx p R s m args c cc nL on cells slots A D tys cy al sc) (hd : decode cc pc = .ok (.aload k, 2)) (hex : ex1 sc cs qs (.aload k) lv st h = some ((lv', st', h'), P)) (hP9 : ∀ x, P = some x → x) (K : GM p l e R s m args below meth c cells slots Q nL A D cy al (pc + 2) lv' st' h') : GM p l e R s m args below meth c cells slots Q nL A D cy al pc lv st h := by
  obtain ⟨⟨hx, hb, hml, hown, hts, hnw⟩, ⟨hK, hD, hT⟩, ⟨hst, hX, hXl, hXA⟩, hR1, hR2, hR3, hR4⟩ := C
  intro ls H locs hl hP hS
  simp only [ex1, ok0] at hex
  split at hex
  · rename_i x hx9
    cases hex
    have h1 := lg_at hl hx9 (fun _ q => by cases q)
    have K2 := K ls H locs hl hP hS
    rw [List.map_cons] at K2
    by_cases hz : x = 0
    · subst hz
      exact lv_aloadN hx hb hd h1 K2
    · rw [vm_ref al hz] at h1 K2
      exact lv_aload hx hb hd h1 K2
  · cases hex
theorem so_istore {cs : List Int32} {qs : List Int64} {pc : Nat} {lv lv' : Lv} {st st' : List Value} {h h' : Hp} {P : Option Prop} {k : Nat} (hn : (k : Nat) < nL) (C : Cx p R s m args c cc nL on cells slots A D tys cy al sc) (hd : decode cc pc = .ok (.istore k, 2)) (hex : ex1 sc cs qs (.istore k) lv st h = some ((lv', st', h'), P)) (hP9 : ∀ x, P = some x → x) (K : GM p l e R s m args below meth c cells slots Q nL A D cy al (pc + 2) lv' st' h') : GM p l e R s m args below meth c cells slots Q nL A D cy al pc lv st h := by
  obtain ⟨⟨hx, hb, hml, hown, hts, hnw⟩, ⟨hK, hD, hT⟩, ⟨hst, hX, hXl, hXA⟩, hR1, hR2, hR3, hR4⟩ := C
  intro ls H locs hl hP hS
  simp only [ex1, ok0] at hex
  split at hex
  · cases hex
    exact lv_istore hx hb hd hl hn (ls1_map al lv (k : Nat) (.int _)).symm (fun ls' hl' => K ls' H locs hl' hP hS)
  · cases hex
theorem so_lstore {cs : List Int32} {qs : List Int64} {pc : Nat} {lv lv' : Lv} {st st' : List Value} {h h' : Hp} {P : Option Prop} {k : Nat} (hn : (k : Nat) + 1 < nL) (C : Cx p R s m args c cc nL on cells slots A D tys cy al sc) (hd : decode cc pc = .ok (.lstore k, 2)) (hex : ex1 sc cs qs (.lstore k) lv st h = some ((lv', st', h'), P)) (hP9 : ∀ x, P = some x → x) (K : GM p l e R s m args below meth c cells slots Q nL A D cy al (pc + 2) lv' st' h') : GM p l e R s m args below meth c cells slots Q nL A D cy al pc lv st h := by
  obtain ⟨⟨hx, hb, hml, hown, hts, hnw⟩, ⟨hK, hD, hT⟩, ⟨hst, hX, hXl, hXA⟩, hR1, hR2, hR3, hR4⟩ := C
  intro ls H locs hl hP hS
  simp only [ex1, ok0] at hex
  split at hex
  · cases hex
    exact lv_lstore hx hb hd hl hn (ls2_map al lv (k : Nat) (.long _)).symm (fun ls' hl' => K ls' H locs hl' hP hS)
  · cases hex
theorem so_astore {cs : List Int32} {qs : List Int64} {pc : Nat} {lv lv' : Lv} {st st' : List Value} {h h' : Hp} {P : Option Prop} {k : Nat} (hn : (k : Nat) < nL) (C : Cx p R s m args c cc nL on cells slots A D tys cy al sc) (hd : decode cc pc = .ok (.astore k, 2)) (hex : ex1 sc cs qs (.astore k) lv st h = some ((lv', st', h'), P)) (hP9 : ∀ x, P = some x → x) (K : GM p l e R s m args below meth c cells slots Q nL A D cy al (pc + 2) lv' st' h') : GM p l e R s m args below meth c cells slots Q nL A D cy al pc lv st h := by
  obtain ⟨⟨hx, hb, hml, hown, hts, hnw⟩, ⟨hK, hD, hT⟩, ⟨hst, hX, hXl, hXA⟩, hR1, hR2, hR3, hR4⟩ := C
  intro ls H locs hl hP hS
  simp only [ex1, ok0] at hex
  split at hex
  · rename_i x r
    cases hex
    rw [List.map_cons]
    by_cases hz : x = 0
    · subst hz
      exact lv_astoreN hx hb hd hl hn (ls1_map al lv (k : Nat) (.ref 0)).symm (fun ls' hl' => K ls' H locs hl' hP hS)
    · have e9 := ls1_map al lv k (.ref x)
      rw [vm_ref al hz] at e9 ⊢
      exact lv_astore hx hb hd hl hn e9.symm (fun ls' hl' => K ls' H locs hl' hP hS)
  · cases hex
theorem so_iinc {cs : List Int32} {qs : List Int64} {pc : Nat} {lv lv' : Lv} {st st' : List Value} {h h' : Hp} {P : Option Prop} {k : Nat} {v w : Int} (hk : cs[w.toNat]? = some (Int32.ofInt v)) (C : Cx p R s m args c cc nL on cells slots A D tys cy al sc) (hd : decode cc pc = .ok (.iinc k v, 3)) (hex : ex1 sc cs qs (.iinc k w) lv st h = some ((lv', st', h'), P)) (hP9 : ∀ x, P = some x → x) (K : GM p l e R s m args below meth c cells slots Q nL A D cy al (pc + 3) lv' st' h') : GM p l e R s m args below meth c cells slots Q nL A D cy al pc lv st h := by
  obtain ⟨⟨hx, hb, hml, hown, hts, hnw⟩, ⟨hK, hD, hT⟩, ⟨hst, hX, hXl, hXA⟩, hR1, hR2, hR3, hR4⟩ := C
  intro ls H locs hl hP hS
  simp only [ex1, ok0] at hex
  split at hex
  · rename_i x hx9
    cases hex
    have h1 := lg_at hl hx9 (fun _ q => by cases q)
    have h2 : (k, Value.int x) ∈ lv.map (vmp al) := List.mem_map.mpr ⟨_, lg_mem hx9 (fun _ q => by cases q), rfl⟩
    obtain ⟨j, hj⟩ := List.getElem?_of_mem h2
    have hn : k < nL := by rw [← hl.1]; exact (Array.getElem?_eq_some_iff.mp h1).1
    have hcs : cs.getD w.toNat 0 = Int32.ofInt v := by rw [List.getD_eq_getElem?_getD, hk]; rfl
    rw [hcs] at K
    exact lv_iinc hx hb hd hl hj rfl hn (ls1_map al lv k (.int _)).symm (fun ls' hl' => K ls' H locs hl' hP hS)
  · cases hex
theorem so_getI {cs : List Int32} {qs : List Int64} {pc : Nat} {lv lv' : Lv} {st st' : List Value} {h h' : Hp} {P : Option Prop} {x q : Nat} {r : Nat × Nat × Nat × Nat} (hr : r ∈ FLT) (e1 : r.1 = on) (e2 : r.2.1 = x) (e3 : 100 * r.2.2.1 + r.2.2.2 = q) (e4 : sl r.2.2.1 r.2.2.2 = 0) (C : Cx p R s m args c cc nL on cells slots A D tys cy al sc) (hd : decode cc pc = .ok (.getfield x, 3)) (hex : ex1 sc cs qs (.getfield q) lv st h = some ((lv', st', h'), P)) (hP9 : ∀ x, P = some x → x) (K : GM p l e R s m args below meth c cells slots Q nL A D cy al (pc + 3) lv' st' h') : GM p l e R s m args below meth c cells slots Q nL A D cy al pc lv st h := by
  obtain ⟨⟨hx, hb, hml, hown, hts, hnw⟩, ⟨hK, hD, hT⟩, ⟨hst, hX, hXl, hXA⟩, hR1, hR2, hR3, hR4⟩ := C
  intro ls H locs hl hP hS
  simp only [ex1, ok1] at hex
  split at hex
  · rename_i k r9
    cases hex
    obtain ⟨ro, rx, rc, rj⟩ := r
    obtain ⟨hw, g1, g2, g3⟩ := flt_ok hr
    dsimp only at e1 e2 e3 hw g1 g2 g3 e4
    have hc1 : q / 100 = rc := by omega
    have hc2 : q % 100 = rj := by omega
    subst e1; subst e2
    have hkd := hP9 _ rfl
    rw [hc1] at hkd
    have h99 : kd k ≠ 99 := by omega
    have hk0 : k ≠ 0 := kd_pos h99
    have hce : cel cy al h k = .inr (rc, (List.range (nf rc)).map (fv al h k)) := by unfold cel; rw [if_pos (by omega), hkd]
    have he := wsp_get cy al h h99
    rw [hce] at he
    have hfv : fv al h k rj = .int (h.1 k rj) := by unfold fv; rw [hkd]; simp [e4]
    have K2 := K ls H locs hl hP hS
    rw [List.map_cons] at K2
    rw [hc2] at K2
    rw [show vm al (Value.int (h.1 k rj)) = fv al h k rj from hfv.symm] at K2
    rw [List.map_cons, vm_ref al hk0]
    rcases hw with hw | ⟨host, hw⟩
    · exact va_get (C := RN rc) (T := TN rc) (N := nf rc) hx hb hts (uws_in g1) hown hK hP (k - 1) he (tn_ok g1) rj g2 (hts _ hw) (fun _ h9 => h9) (by rw [List.getElem?_map, List.getElem?_range g2]; rfl) hd K2
    · exact va_getN (C := RN rc) (T := TN rc) (N := nf rc) hx hb hts (uws_in g1) hown hK hP (k - 1) he (tn_ok g1) rj g2 (va_Nw.use rfl (hnw _ hw)) (fun _ h9 => h9) (by rw [List.getElem?_map, List.getElem?_range g2]; rfl) hd K2
  · cases hex
theorem so_getM {cs : List Int32} {qs : List Int64} {pc : Nat} {lv lv' : Lv} {st st' : List Value} {h h' : Hp} {P : Option Prop} {x q : Nat} {r : Nat × Nat × Nat × Nat} (hr : r ∈ FLT) (e1 : r.1 = on) (e2 : r.2.1 = x) (e3 : 100 * r.2.2.1 + r.2.2.2 = q) (e4 : sl r.2.2.1 r.2.2.2 = 2) (C : Cx p R s m args c cc nL on cells slots A D tys cy al sc) (hd : decode cc pc = .ok (.getfield x, 3)) (hex : ex1 sc cs qs (.instanceof q) lv st h = some ((lv', st', h'), P)) (hP9 : ∀ x, P = some x → x) (K : GM p l e R s m args below meth c cells slots Q nL A D cy al (pc + 3) lv' st' h') : GM p l e R s m args below meth c cells slots Q nL A D cy al pc lv st h := by
  obtain ⟨⟨hx, hb, hml, hown, hts, hnw⟩, ⟨hK, hD, hT⟩, ⟨hst, hX, hXl, hXA⟩, hR1, hR2, hR3, hR4⟩ := C
  intro ls H locs hl hP hS
  simp only [ex1, ok1] at hex
  split at hex
  · rename_i k r9
    cases hex
    obtain ⟨ro, rx, rc, rj⟩ := r
    obtain ⟨hw, g1, g2, g3⟩ := flt_ok hr
    dsimp only at e1 e2 e3 hw g1 g2 g3 e4
    have hc1 : q / 100 = rc := by omega
    have hc2 : q % 100 = rj := by omega
    subst e1; subst e2
    have hkd := hP9 _ rfl
    rw [hc1] at hkd
    have h99 : kd k ≠ 99 := by omega
    have hk0 : k ≠ 0 := kd_pos h99
    have hce : cel cy al h k = .inr (rc, (List.range (nf rc)).map (fv al h k)) := by unfold cel; rw [if_pos (by omega), hkd]
    have he := wsp_get cy al h h99
    rw [hce] at he
    have hfv : fv al h k rj = vm al (.ref (h.1 k rj).toNatClampNeg) := by unfold fv; rw [hkd]; simp [e4]
    have K2 := K ls H locs hl hP hS
    rw [List.map_cons] at K2
    rw [hc2] at K2
    rw [show vm al (.ref (h.1 k rj).toNatClampNeg) = fv al h k rj from hfv.symm] at K2
    rw [List.map_cons, vm_ref al hk0]
    rcases hw with hw | ⟨host, hw⟩
    · exact va_get (C := RN rc) (T := TN rc) (N := nf rc) hx hb hts (uws_in g1) hown hK hP (k - 1) he (tn_ok g1) rj g2 (hts _ hw) (fun _ h9 => h9) (by rw [List.getElem?_map, List.getElem?_range g2]; rfl) hd K2
    · exact va_getN (C := RN rc) (T := TN rc) (N := nf rc) hx hb hts (uws_in g1) hown hK hP (k - 1) he (tn_ok g1) rj g2 (va_Nw.use rfl (hnw _ hw)) (fun _ h9 => h9) (by rw [List.getElem?_map, List.getElem?_range g2]; rfl) hd K2
  · cases hex
theorem so_getR {cs : List Int32} {qs : List Int64} {pc : Nat} {lv lv' : Lv} {st st' : List Value} {h h' : Hp} {P : Option Prop} {x q : Nat} {r : Nat × Nat × Nat × Nat} (hr : r ∈ FLT) (e1 : r.1 = on) (e2 : r.2.1 = x) (e3 : 100 * r.2.2.1 + r.2.2.2 = q) (e4 : sl r.2.2.1 r.2.2.2 = 1) {o : Nat} (ho : (q, o) ∈ OFT) (C : Cx p R s m args c cc nL on cells slots A D tys cy al sc) (hd : decode cc pc = .ok (.getfield x, 3)) (hex : ex1 sc cs qs (.invokeinterface q o) lv st h = some ((lv', st', h'), P)) (hP9 : ∀ x, P = some x → x) (K : GM p l e R s m args below meth c cells slots Q nL A D cy al (pc + 3) lv' st' h') : GM p l e R s m args below meth c cells slots Q nL A D cy al pc lv st h := by
  obtain ⟨⟨hx, hb, hml, hown, hts, hnw⟩, ⟨hK, hD, hT⟩, ⟨hst, hX, hXl, hXA⟩, hR1, hR2, hR3, hR4⟩ := C
  intro ls H locs hl hP hS
  simp only [ex1, ok1] at hex
  split at hex
  · rename_i k r9
    cases hex
    have hkq := hP9 _ rfl
    obtain ⟨ro, rx, rc, rj⟩ := r
    obtain ⟨hw, g1, g2, g3⟩ := flt_ok hr
    dsimp only at e1 e2 e3 hw g1 g2 g3 e4
    have hc1 : q / 100 = rc := by omega
    have hc2 : q % 100 = rj := by omega
    subst e1; subst e2
    have hkd := hP9 _ rfl
    rw [hc1] at hkd
    have h99 : kd k ≠ 99 := by omega
    have hk0 : k ≠ 0 := kd_pos h99
    have hce : cel cy al h k = .inr (rc, (List.range (nf rc)).map (fv al h k)) := by unfold cel; rw [if_pos (by omega), hkd]
    have he := wsp_get cy al h h99
    rw [hce] at he
    have ho2 := oft_ok hkq ho h99
    rw [hc2] at ho2
    have hfv : fv al h k rj = vm al (.ref (ofs k o)) := by unfold fv; rw [hkd, ← ho2]; simp [e4]
    have K2 := K ls H locs hl hP hS
    rw [List.map_cons, ← hfv] at K2
    rw [List.map_cons, vm_ref al hk0]
    rcases hw with hw | ⟨host, hw⟩
    · exact va_get (C := RN rc) (T := TN rc) (N := nf rc) hx hb hts (uws_in g1) hown hK hP (k - 1) he (tn_ok g1) rj g2 (hts _ hw) (fun _ h9 => h9) (by rw [List.getElem?_map, List.getElem?_range g2]; rfl) hd K2
    · exact va_getN (C := RN rc) (T := TN rc) (N := nf rc) hx hb hts (uws_in g1) hown hK hP (k - 1) he (tn_ok g1) rj g2 (va_Nw.use rfl (hnw _ hw)) (fun _ h9 => h9) (by rw [List.getElem?_map, List.getElem?_range g2]; rfl) hd K2
  · cases hex
theorem so_getL {cs : List Int32} {qs : List Int64} {pc : Nat} {lv lv' : Lv} {st st' : List Value} {h h' : Hp} {P : Option Prop} {x q : Nat} {r : Nat × Nat × Nat × Nat} (hr : r ∈ FLT) (e1 : r.1 = on) (e2 : r.2.1 = x) (e3 : 100 * r.2.2.1 + r.2.2.2 = q) (e4 : sl r.2.2.1 r.2.2.2 = 3) (C : Cx p R s m args c cc nL on cells slots A D tys cy al sc) (hd : decode cc pc = .ok (.getfield x, 3)) (hex : ex1 sc cs qs (.getstatic q) lv st h = some ((lv', st', h'), P)) (hP9 : ∀ x, P = some x → x) (K : GM p l e R s m args below meth c cells slots Q nL A D cy al (pc + 3) lv' st' h') : GM p l e R s m args below meth c cells slots Q nL A D cy al pc lv st h := by
  obtain ⟨⟨hx, hb, hml, hown, hts, hnw⟩, ⟨hK, hD, hT⟩, ⟨hst, hX, hXl, hXA⟩, hR1, hR2, hR3, hR4⟩ := C
  intro ls H locs hl hP hS
  simp only [ex1, ok1] at hex
  split at hex
  · rename_i k r9
    cases hex
    obtain ⟨ro, rx, rc, rj⟩ := r
    obtain ⟨hw, g1, g2, g3⟩ := flt_ok hr
    dsimp only at e1 e2 e3 hw g1 g2 g3 e4
    have hc1 : q / 100 = rc := by omega
    have hc2 : q % 100 = rj := by omega
    subst e1; subst e2
    have hkd := hP9 _ rfl
    rw [hc1] at hkd
    have h99 : kd k ≠ 99 := by omega
    have hk0 : k ≠ 0 := kd_pos h99
    have hce : cel cy al h k = .inr (rc, (List.range (nf rc)).map (fv al h k)) := by unfold cel; rw [if_pos (by omega), hkd]
    have he := wsp_get cy al h h99
    rw [hce] at he
    have hfv : fv al h k rj = .long h.2 := by unfold fv; rw [hkd]; simp [e4]
    have K2 := K ls H locs hl hP hS
    rw [List.map_cons, show vm al (.long h.2) = fv al h k rj from hfv.symm] at K2
    rw [List.map_cons, vm_ref al hk0]
    rcases hw with hw | ⟨host, hw⟩
    · exact va_get (C := RN rc) (T := TN rc) (N := nf rc) hx hb hts (uws_in g1) hown hK hP (k - 1) he (tn_ok g1) rj g2 (hts _ hw) (fun _ h9 => h9) (by rw [List.getElem?_map, List.getElem?_range g2]; rfl) hd K2
    · exact va_getN (C := RN rc) (T := TN rc) (N := nf rc) hx hb hts (uws_in g1) hown hK hP (k - 1) he (tn_ok g1) rj g2 (va_Nw.use rfl (hnw _ hw)) (fun _ h9 => h9) (by rw [List.getElem?_map, List.getElem?_range g2]; rfl) hd K2
  · cases hex
theorem so_putI {cs : List Int32} {qs : List Int64} {pc : Nat} {lv lv' : Lv} {st st' : List Value} {h h' : Hp} {P : Option Prop} {x q : Nat} {r : Nat × Nat × Nat × Nat} (hr : r ∈ FLT) (e1 : r.1 = on) (e2 : r.2.1 = x) (e3 : 100 * r.2.2.1 + r.2.2.2 = q) (e4 : sl r.2.2.1 r.2.2.2 = 0) (e5 : (TN r.2.2.1 r.2.2.2).2.2.1 = "I") (e6 : (TN r.2.2.1 r.2.2.2).2.2.2 = false) (C : Cx p R s m args c cc nL on cells slots A D tys cy al sc) (hd : decode cc pc = .ok (.putfield x, 3)) (hex : ex1 sc cs qs (.putfield q) lv st h = some ((lv', st', h'), P)) (hP9 : ∀ x, P = some x → x) (K : GM p l e R s m args below meth c cells slots Q nL A D cy al (pc + 3) lv' st' h') : GM p l e R s m args below meth c cells slots Q nL A D cy al pc lv st h := by
  obtain ⟨⟨hx, hb, hml, hown, hts, hnw⟩, ⟨hK, hD, hT⟩, ⟨hst, hX, hXl, hXA⟩, hR1, hR2, hR3, hR4⟩ := C
  intro ls H locs hl hP hS
  simp only [ex1, ok1] at hex
  split at hex
  · rename_i v k r9
    cases hex
    obtain ⟨ro, rx, rc, rj⟩ := r
    obtain ⟨hw, g1, g2, g3⟩ := flt_ok hr
    dsimp only at e1 e2 e3 hw g1 g2 g3 e4 e5 e6
    have hc1 : q / 100 = rc := by omega
    have hc2 : q % 100 = rj := by omega
    subst e1; subst e2
    have hkd := hP9 _ rfl
    rw [hc1] at hkd
    have h99 : kd k ≠ 99 := by omega
    have hk0 : k ≠ 0 := kd_pos h99
    have hce : cel cy al h k = .inr (rc, (List.range (nf rc)).map (fv al h k)) := by unfold cel; rw [if_pos (by omega), hkd]
    have he := wsp_get cy al h h99
    rw [hce] at he
    rw [hc2] at K
    generalize eh2 : wr h k rj v = h2 at K
    have hoth : ∀ i, i ≠ rj → fv al h2 k i = fv al h k i := by
      intro i hi
      rw [← eh2]
      unfold fv
      rw [wr_row]
      simp only [upd, if_neg hi]
      rfl
    have hcne : ∀ q, q ≠ k → cel cy al h2 q = cel cy al h q := fun q hq => by
      rw [← eh2]
      exact cel_ne cy al (wr_ne hq) (Or.inl rfl)
    have hfv : fv al h2 k rj = .int v := by
      rw [← eh2]
      unfold fv
      rw [wr_row, hkd]
      simp [e4, upd]
    have hset : ((List.range (nf rc)).map (fv al h k)).set rj (.int v) = (List.range (nf rc)).map (fv al h2 k) := by
      rw [← hfv]
      exact map_set_range g2 hoth
    have hce2 : (Sum.inr (rc, ((List.range (nf rc)).map (fv al h k)).set rj (.int v)) : va_E) = cel cy al h2 k := by
      rw [hset]
      unfold cel
      rw [if_pos (by omega), hkd]
    have hwset := wsp_set cy al (h := h) (h' := h2) h99 hce2 hcne
    rw [List.map_cons, List.map_cons, vm_ref al hk0]
    rcases hw with hw | ⟨host, hw⟩
    · refine va_put (ci := rc) (v := .int v) (ty := .int) (C := RN rc) (T := TN rc) (N := nf rc) hx hb hts (uws_in g1) (tyN rc) (tyn_ok g1) (nmn_ok g1) hown hK hP (hD h) hS (k - 1) he (tn_ok g1) rj g2 (hts _ hw) (fun _ h9 => h9) e6 (by rw [e5]; rfl) rfl rfl (by simpa using g2) hd (fun H1 locs1 hP1 _ hS1 => ?_)
      rw [hwset] at hP1
      exact K ls H1 locs1 hl hP1 hS1
    · refine va_putN (ci := rc) (v := .int v) (ty := .int) (C := RN rc) (T := TN rc) (N := nf rc) hx hb hts (uws_in g1) (tyN rc) (tyn_ok g1) (nmn_ok g1) hown hK hP (hD h) hS (k - 1) he (tn_ok g1) rj g2 (va_Nw.use rfl (hnw _ hw)) (fun _ h9 => h9) e6 (by rw [e5]; rfl) rfl rfl (by simpa using g2) hd (fun H1 locs1 hP1 _ hS1 => ?_)
      rw [hwset] at hP1
      exact K ls H1 locs1 hl hP1 hS1
  · cases hex
theorem so_putZ {cs : List Int32} {qs : List Int64} {pc : Nat} {lv lv' : Lv} {st st' : List Value} {h h' : Hp} {P : Option Prop} {x q : Nat} {r : Nat × Nat × Nat × Nat} (hr : r ∈ FLT) (e1 : r.1 = on) (e2 : r.2.1 = x) (e3 : 100 * r.2.2.1 + r.2.2.2 = q) (e4 : sl r.2.2.1 r.2.2.2 = 0) (e5 : (TN r.2.2.1 r.2.2.2).2.2.1 = "Z") (e6 : (TN r.2.2.1 r.2.2.2).2.2.2 = false) (C : Cx p R s m args c cc nL on cells slots A D tys cy al sc) (hd : decode cc pc = .ok (.putfield x, 3)) (hex : ex1 sc cs qs (.checkcast q) lv st h = some ((lv', st', h'), P)) (hP9 : ∀ x, P = some x → x) (K : GM p l e R s m args below meth c cells slots Q nL A D cy al (pc + 3) lv' st' h') : GM p l e R s m args below meth c cells slots Q nL A D cy al pc lv st h := by
  obtain ⟨⟨hx, hb, hml, hown, hts, hnw⟩, ⟨hK, hD, hT⟩, ⟨hst, hX, hXl, hXA⟩, hR1, hR2, hR3, hR4⟩ := C
  intro ls H locs hl hP hS
  simp only [ex1, ok1] at hex
  split at hex
  · rename_i v k r9
    cases hex
    have hv01 := (hP9 _ rfl).2
    obtain ⟨ro, rx, rc, rj⟩ := r
    obtain ⟨hw, g1, g2, g3⟩ := flt_ok hr
    dsimp only at e1 e2 e3 hw g1 g2 g3 e4 e5 e6
    have hc1 : q / 100 = rc := by omega
    have hc2 : q % 100 = rj := by omega
    subst e1; subst e2
    have hkd := (hP9 _ rfl).1
    rw [hc1] at hkd
    have h99 : kd k ≠ 99 := by omega
    have hk0 : k ≠ 0 := kd_pos h99
    have hce : cel cy al h k = .inr (rc, (List.range (nf rc)).map (fv al h k)) := by unfold cel; rw [if_pos (by omega), hkd]
    have he := wsp_get cy al h h99
    rw [hce] at he
    rw [hc2] at K
    generalize eh2 : wr h k rj v = h2 at K
    have hoth : ∀ i, i ≠ rj → fv al h2 k i = fv al h k i := by
      intro i hi
      rw [← eh2]
      unfold fv
      rw [wr_row]
      simp only [upd, if_neg hi]
      rfl
    have hcne : ∀ q, q ≠ k → cel cy al h2 q = cel cy al h q := fun q hq => by
      rw [← eh2]
      exact cel_ne cy al (wr_ne hq) (Or.inl rfl)
    have hfv : fv al h2 k rj = .int v := by
      rw [← eh2]
      unfold fv
      rw [wr_row, hkd]
      simp [e4, upd]
    have hset : ((List.range (nf rc)).map (fv al h k)).set rj (.int v) = (List.range (nf rc)).map (fv al h2 k) := by
      rw [← hfv]
      exact map_set_range g2 hoth
    have hce2 : (Sum.inr (rc, ((List.range (nf rc)).map (fv al h k)).set rj (.int v)) : va_E) = cel cy al h2 k := by
      rw [hset]
      unfold cel
      rw [if_pos (by omega), hkd]
    have hwset := wsp_set cy al (h := h) (h' := h2) h99 hce2 hcne
    rw [List.map_cons, List.map_cons, vm_ref al hk0]
    rcases hw with hw | ⟨host, hw⟩
    · refine va_put (ci := rc) (v := .int v) (ty := .boolean) (C := RN rc) (T := TN rc) (N := nf rc) hx hb hts (uws_in g1) (tyN rc) (tyn_ok g1) (nmn_ok g1) hown hK hP (hD h) hS (k - 1) he (tn_ok g1) rj g2 (hts _ hw) (fun _ h9 => h9) e6 (by rw [e5]; rfl) (by rcases hv01 with rfl | rfl <;> rfl) (by rcases hv01 with rfl | rfl <;> rfl) (by simpa using g2) hd (fun H1 locs1 hP1 _ hS1 => ?_)
      rw [hwset] at hP1
      exact K ls H1 locs1 hl hP1 hS1
    · refine va_putN (ci := rc) (v := .int v) (ty := .boolean) (C := RN rc) (T := TN rc) (N := nf rc) hx hb hts (uws_in g1) (tyN rc) (tyn_ok g1) (nmn_ok g1) hown hK hP (hD h) hS (k - 1) he (tn_ok g1) rj g2 (va_Nw.use rfl (hnw _ hw)) (fun _ h9 => h9) e6 (by rw [e5]; rfl) (by rcases hv01 with rfl | rfl <;> rfl) (by rcases hv01 with rfl | rfl <;> rfl) (by simpa using g2) hd (fun H1 locs1 hP1 _ hS1 => ?_)
      rw [hwset] at hP1
      exact K ls H1 locs1 hl hP1 hS1
  · cases hex
theorem so_putM {cs : List Int32} {qs : List Int64} {pc : Nat} {lv lv' : Lv} {st st' : List Value} {h h' : Hp} {P : Option Prop} {x q : Nat} {r : Nat × Nat × Nat × Nat} (hr : r ∈ FLT) (e1 : r.1 = on) (e2 : r.2.1 = x) (e3 : 100 * r.2.2.1 + r.2.2.2 = q) (e4 : sl r.2.2.1 r.2.2.2 = 2) (e6 : (TN r.2.2.1 r.2.2.2).2.2.2 = false) (C : Cx p R s m args c cc nL on cells slots A D tys cy al sc) (hd : decode cc pc = .ok (.putfield x, 3)) (hex : ex1 sc cs qs (.anewarray q) lv st h = some ((lv', st', h'), P)) (hP9 : ∀ x, P = some x → x) (K : GM p l e R s m args below meth c cells slots Q nL A D cy al (pc + 3) lv' st' h') : GM p l e R s m args below meth c cells slots Q nL A D cy al pc lv st h := by
  obtain ⟨⟨hx, hb, hml, hown, hts, hnw⟩, ⟨hK, hD, hT⟩, ⟨hst, hX, hXl, hXA⟩, hR1, hR2, hR3, hR4⟩ := C
  intro ls H locs hl hP hS
  simp only [ex1, ok1] at hex
  split at hex
  · rename_i v k r9
    cases hex
    have hv1 : kd v = 1 := (hP9 _ rfl).2
    have hv9 : kd v ≠ 99 := by omega
    have hvr := kd_rng hv9
    have hvv : (Int32.ofNat v).toNatClampNeg = v := nI_clamp (by omega)
    have hv0 : v ≠ 0 := kd_pos hv9
    obtain ⟨ro, rx, rc, rj⟩ := r
    obtain ⟨hw, g1, g2, g3⟩ := flt_ok hr
    dsimp only at e1 e2 e3 hw g1 g2 g3 e4 e6
    have hc1 : q / 100 = rc := by omega
    have hc2 : q % 100 = rj := by omega
    subst e1; subst e2
    have hkd := (hP9 _ rfl).1
    rw [hc1] at hkd
    have h99 : kd k ≠ 99 := by omega
    have hk0 : k ≠ 0 := kd_pos h99
    have hce : cel cy al h k = .inr (rc, (List.range (nf rc)).map (fv al h k)) := by unfold cel; rw [if_pos (by omega), hkd]
    have he := wsp_get cy al h h99
    rw [hce] at he
    rw [hc2] at K
    generalize eh2 : wr h k rj (Int32.ofNat v) = h2 at K
    have hoth : ∀ i, i ≠ rj → fv al h2 k i = fv al h k i := by
      intro i hi
      rw [← eh2]
      unfold fv
      rw [wr_row]
      simp only [upd, if_neg hi]
      rfl
    have hcne : ∀ q, q ≠ k → cel cy al h2 q = cel cy al h q := fun q hq => by
      rw [← eh2]
      exact cel_ne cy al (wr_ne hq) (Or.inl rfl)
    have hfv : fv al h2 k rj = .ref (al v) := by
      rw [← eh2, ← vm_ref al hv0]
      unfold fv
      rw [wr_row, hkd]
      simp [e4, upd, hvv]
    obtain ⟨cls9, hty9⟩ := sl2_ty g1 g2 e4
    have hset : ((List.range (nf rc)).map (fv al h k)).set rj (.ref (al v)) = (List.range (nf rc)).map (fv al h2 k) := by
      rw [← hfv]
      exact map_set_range g2 hoth
    have hce2 : (Sum.inr (rc, ((List.range (nf rc)).map (fv al h k)).set rj (.ref (al v))) : va_E) = cel cy al h2 k := by
      rw [hset]
      unfold cel
      rw [if_pos (by omega), hkd]
    have hwset := wsp_set cy al (h := h) (h' := h2) h99 hce2 hcne
    rw [List.map_cons, List.map_cons, vm_ref al hk0, vm_ref al hv0]
    rcases hw with hw | ⟨host, hw⟩
    · refine va_put (ci := rc) (v := .ref (al v)) (ty := .object cls9) (C := RN rc) (T := TN rc) (N := nf rc) hx hb hts (uws_in g1) (tyN rc) (tyn_ok g1) (nmn_ok g1) hown hK hP (hD h) hS (k - 1) he (tn_ok g1) rj g2 (hts _ hw) (fun _ h9 => h9) e6 hty9 rfl rfl (by simpa using g2) hd (fun H1 locs1 hP1 _ hS1 => ?_)
      rw [hwset] at hP1
      exact K ls H1 locs1 hl hP1 hS1
    · refine va_putN (ci := rc) (v := .ref (al v)) (ty := .object cls9) (C := RN rc) (T := TN rc) (N := nf rc) hx hb hts (uws_in g1) (tyN rc) (tyn_ok g1) (nmn_ok g1) hown hK hP (hD h) hS (k - 1) he (tn_ok g1) rj g2 (va_Nw.use rfl (hnw _ hw)) (fun _ h9 => h9) e6 hty9 rfl rfl (by simpa using g2) hd (fun H1 locs1 hP1 _ hS1 => ?_)
      rw [hwset] at hP1
      exact K ls H1 locs1 hl hP1 hS1
  · cases hex
theorem so_putL {cs : List Int32} {qs : List Int64} {pc : Nat} {lv lv' : Lv} {st st' : List Value} {h h' : Hp} {P : Option Prop} {x q : Nat} {r : Nat × Nat × Nat × Nat} (hr : r ∈ FLT) (e1 : r.1 = on) (e2 : r.2.1 = x) (e3 : 100 * r.2.2.1 + r.2.2.2 = q) (e4 : sl r.2.2.1 r.2.2.2 = 3) (e6 : (TN r.2.2.1 r.2.2.2).2.2.2 = false) (C : Cx p R s m args c cc nL on cells slots A D tys cy al sc) (hd : decode cc pc = .ok (.putfield x, 3)) (hex : ex1 sc cs qs (.putstatic q) lv st h = some ((lv', st', h'), P)) (hP9 : ∀ x, P = some x → x) (K : GM p l e R s m args below meth c cells slots Q nL A D cy al (pc + 3) lv' st' h') : GM p l e R s m args below meth c cells slots Q nL A D cy al pc lv st h := by
  obtain ⟨⟨hx, hb, hml, hown, hts, hnw⟩, ⟨hK, hD, hT⟩, ⟨hst, hX, hXl, hXA⟩, hR1, hR2, hR3, hR4⟩ := C
  intro ls H locs hl hP hS
  simp only [ex1, ok1] at hex
  split at hex
  · rename_i v k r9
    cases hex
    obtain ⟨ro, rx, rc, rj⟩ := r
    obtain ⟨hw, g1, g2, g3⟩ := flt_ok hr
    dsimp only at e1 e2 e3 hw g1 g2 g3 e4 e6
    have hc1 : q / 100 = rc := by omega
    have hc2 : q % 100 = rj := by omega
    subst e1; subst e2
    have hkd := hP9 _ rfl
    rw [hc1] at hkd
    have h99 : kd k ≠ 99 := by omega
    have hk0 : k ≠ 0 := kd_pos h99
    have hce : cel cy al h k = .inr (rc, (List.range (nf rc)).map (fv al h k)) := by unfold cel; rw [if_pos (by omega), hkd]
    have he := wsp_get cy al h h99
    rw [hce] at he
    generalize eh2 : wL h v = h2 at K
    obtain ⟨hrc, hrj, hk12, hty9⟩ := sl3_only g1 g2 e4 hkd
    have hoth : ∀ i, i ≠ rj → fv al h2 k i = fv al h k i := by
      intro i hi
      rw [← eh2]
      unfold fv
      rw [show (wL h v).1 = h.1 from rfl]
      by_cases a : sl (kd k) i = 0
      · rw [if_pos a, if_pos a]
      · rw [if_neg a, if_neg a]
        by_cases b : sl (kd k) i = 1
        · rw [if_pos b, if_pos b]
        · rw [if_neg b, if_neg b]
          by_cases c : sl (kd k) i = 2
          · rw [if_pos c, if_pos c]
          · exfalso
            have hd4 : sl (kd k) i < 4 := sl_lt _ _
            exact hi (hrj i (by rw [← hkd]; omega))
    have hcne : ∀ q, q ≠ k → cel cy al h2 q = cel cy al h q := fun q hq => by
      rw [← eh2]
      exact cel_ne cy al rfl (Or.inr (fun z => hq (hk12 q z)))
    have hfv : fv al h2 k rj = .long v := by
      rw [← eh2]
      unfold fv
      rw [hkd]
      simp [e4, wL]
    have hset : ((List.range (nf rc)).map (fv al h k)).set rj (.long v) = (List.range (nf rc)).map (fv al h2 k) := by
      rw [← hfv]
      exact map_set_range g2 hoth
    have hce2 : (Sum.inr (rc, ((List.range (nf rc)).map (fv al h k)).set rj (.long v)) : va_E) = cel cy al h2 k := by
      rw [hset]
      unfold cel
      rw [if_pos (by omega), hkd]
    have hwset := wsp_set cy al (h := h) (h' := h2) h99 hce2 hcne
    rw [List.map_cons, List.map_cons, vm_ref al hk0]
    rcases hw with hw | ⟨host, hw⟩
    · refine va_put (ci := rc) (v := .long v) (ty := .long) (C := RN rc) (T := TN rc) (N := nf rc) hx hb hts (uws_in g1) (tyN rc) (tyn_ok g1) (nmn_ok g1) hown hK hP (hD h) hS (k - 1) he (tn_ok g1) rj g2 (hts _ hw) (fun _ h9 => h9) e6 hty9 rfl rfl (by simpa using g2) hd (fun H1 locs1 hP1 _ hS1 => ?_)
      rw [hwset] at hP1
      exact K ls H1 locs1 hl hP1 hS1
    · refine va_putN (ci := rc) (v := .long v) (ty := .long) (C := RN rc) (T := TN rc) (N := nf rc) hx hb hts (uws_in g1) (tyN rc) (tyn_ok g1) (nmn_ok g1) hown hK hP (hD h) hS (k - 1) he (tn_ok g1) rj g2 (va_Nw.use rfl (hnw _ hw)) (fun _ h9 => h9) e6 hty9 rfl rfl (by simpa using g2) hd (fun H1 locs1 hP1 _ hS1 => ?_)
      rw [hwset] at hP1
      exact K ls H1 locs1 hl hP1 hS1
  · cases hex
theorem so_iald {cs : List Int32} {qs : List Int64} {pc : Nat} {lv lv' : Lv} {st st' : List Value} {h h' : Hp} {P : Option Prop}  (C : Cx p R s m args c cc nL on cells slots A D tys cy al sc) (hd : decode cc pc = .ok (.iaload, 1)) (hex : ex1 sc cs qs (.iaload) lv st h = some ((lv', st', h'), P)) (hP9 : ∀ x, P = some x → x) (K : GM p l e R s m args below meth c cells slots Q nL A D cy al (pc + 1) lv' st' h') : GM p l e R s m args below meth c cells slots Q nL A D cy al pc lv st h := by
  obtain ⟨⟨hx, hb, hml, hown, hts, hnw⟩, ⟨hK, hD, hT⟩, ⟨hst, hX, hXl, hXA⟩, hR1, hR2, hR3, hR4⟩ := C
  intro ls H locs hl hP hS
  simp only [ex1, ok1] at hex
  split at hex
  · rename_i i a r9
    cases hex
    obtain ⟨hk, hin⟩ := hP9 _ rfl
    have h99 : kd a ≠ 99 := by omega
    have ha0 : a ≠ 0 := kd_pos h99
    have he := wsp_get cy al h h99
    rw [show cel cy al h a = .inl (cy 20, ln a, .inl (h.1 a)) by unfold cel; rw [if_neg (by omega), if_pos (by omega), hk]] at he
    rw [List.map_cons, List.map_cons, vm_ref al ha0]
    exact va_iald hx hb hK hP (a - 1) 0 he (hT 0 (by omega)) hin hd (K ls H locs hl hP hS)
  · cases hex
theorem so_bald {cs : List Int32} {qs : List Int64} {pc : Nat} {lv lv' : Lv} {st st' : List Value} {h h' : Hp} {P : Option Prop}  (C : Cx p R s m args c cc nL on cells slots A D tys cy al sc) (hd : decode cc pc = .ok (.baload, 1)) (hex : ex1 sc cs qs (.baload) lv st h = some ((lv', st', h'), P)) (hP9 : ∀ x, P = some x → x) (K : GM p l e R s m args below meth c cells slots Q nL A D cy al (pc + 1) lv' st' h') : GM p l e R s m args below meth c cells slots Q nL A D cy al pc lv st h := by
  obtain ⟨⟨hx, hb, hml, hown, hts, hnw⟩, ⟨hK, hD, hT⟩, ⟨hst, hX, hXl, hXA⟩, hR1, hR2, hR3, hR4⟩ := C
  intro ls H locs hl hP hS
  simp only [ex1, ok1] at hex
  split at hex
  · rename_i i a r9
    cases hex
    obtain ⟨hk, hin⟩ := hP9 _ rfl
    have h99 : kd a ≠ 99 := by omega
    have ha0 : a ≠ 0 := kd_pos h99
    have he := wsp_get cy al h h99
    rw [List.map_cons, List.map_cons, vm_ref al ha0]
    rcases hk with hk | hk
    · rw [show cel cy al h a = .inl (cy 21, ln a, .inl (h.1 a)) by unfold cel; rw [if_neg (by omega), if_pos (by omega), hk]] at he
      exact va_bald hx hb hK hP (a - 1) 1 he (hT 1 (by omega)) hin hd (K ls H locs hl hP hS)
    · rw [show cel cy al h a = .inl (cy 22, ln a, .inl (h.1 a)) by unfold cel; rw [if_neg (by omega), if_pos (by omega), hk]] at he
      exact va_zald hx hb hK hP (a - 1) 2 he (hT 2 (by omega)) hin hd (K ls H locs hl hP hS)
  · cases hex
theorem so_aald {cs : List Int32} {qs : List Int64} {pc : Nat} {lv lv' : Lv} {st st' : List Value} {h h' : Hp} {P : Option Prop}  (C : Cx p R s m args c cc nL on cells slots A D tys cy al sc) (hd : decode cc pc = .ok (.aaload, 1)) (hex : ex1 sc cs qs (.aaload) lv st h = some ((lv', st', h'), P)) (hP9 : ∀ x, P = some x → x) (K : GM p l e R s m args below meth c cells slots Q nL A D cy al (pc + 1) lv' st' h') : GM p l e R s m args below meth c cells slots Q nL A D cy al pc lv st h := by
  obtain ⟨⟨hx, hb, hml, hown, hts, hnw⟩, ⟨hK, hD, hT⟩, ⟨hst, hX, hXl, hXA⟩, hR1, hR2, hR3, hR4⟩ := C
  intro ls H locs hl hP hS
  simp only [ex1, ok1] at hex
  split at hex
  · rename_i i a r9
    cases hex
    obtain ⟨hk, hin⟩ := hP9 _ rfl
    have h99 : kd a ≠ 99 := by omega
    have ha0 : a ≠ 0 := kd_pos h99
    have he := wsp_get cy al h h99
    rw [show cel cy al h a = .inl (cy (kd a), ln a, .inr (.inr (.inr (.inr (elr al a))))) by unfold cel; rw [if_neg (by omega), if_neg (by omega)]] at he
    rw [List.map_cons, List.map_cons, vm_ref al ha0]
    have K2 := K ls H locs hl hP hS
    rw [List.map_cons, show vm al (.ref (el a i.toNatClampNeg)) = va_rf (elr al a i.toNatClampNeg) by unfold vm elr; dsimp only; split <;> rfl] at K2
    rcases hk with hk | hk | hk | hk
    · exact va_aldq hx hb hK hP (a - 1) 3 he (by rw [hk]; exact hT 3 (by omega)) hin hd K2
    · exact va_aldq hx hb hK hP (a - 1) 4 he (by rw [hk]; exact hT 4 (by omega)) hin hd K2
    · exact va_aldq hx hb hK hP (a - 1) 5 he (by rw [hk]; exact hT 5 (by omega)) hin hd K2
    · exact va_aldq hx hb hK hP (a - 1) 6 he (by rw [hk]; exact hT 6 (by omega)) hin hd K2
  · cases hex
theorem so_iast {cs : List Int32} {qs : List Int64} {pc : Nat} {lv lv' : Lv} {st st' : List Value} {h h' : Hp} {P : Option Prop}  (C : Cx p R s m args c cc nL on cells slots A D tys cy al sc) (hd : decode cc pc = .ok (.iastore, 1)) (hex : ex1 sc cs qs (.iastore) lv st h = some ((lv', st', h'), P)) (hP9 : ∀ x, P = some x → x) (K : GM p l e R s m args below meth c cells slots Q nL A D cy al (pc + 1) lv' st' h') : GM p l e R s m args below meth c cells slots Q nL A D cy al pc lv st h := by
  obtain ⟨⟨hx, hb, hml, hown, hts, hnw⟩, ⟨hK, hD, hT⟩, ⟨hst, hX, hXl, hXA⟩, hR1, hR2, hR3, hR4⟩ := C
  intro ls H locs hl hP hS
  simp only [ex1, ok1] at hex
  split at hex
  · rename_i v i a r9
    cases hex
    obtain ⟨hk, hin⟩ := hP9 _ rfl
    have h99 : kd a ≠ 99 := by omega
    have ha0 : a ≠ 0 := kd_pos h99
    have he := wsp_get cy al h h99
    rw [show cel cy al h a = .inl (cy 20, ln a, .inl (h.1 a)) by unfold cel; rw [if_neg (by omega), if_pos (by omega), hk]] at he
    rw [List.map_cons, List.map_cons, List.map_cons, vm_ref al ha0]
    refine va_iast hx hb hK hP (hD h) hS (a - 1) 0 he (hT 0 (by omega)) hin hd (fun H1 locs1 hP1 _ hS1 => ?_)
    rw [wsp_set cy al (h := h) (h' := wr h a i.toNatClampNeg v) h99 (by unfold cel; rw [if_neg (by omega), if_pos (by omega), hk, wr_row]) (fun q hq => cel_ne cy al (wr_ne hq) (Or.inl rfl))] at hP1
    exact K ls H1 locs1 hl hP1 hS1
  · cases hex
theorem so_bast {cs : List Int32} {qs : List Int64} {pc : Nat} {lv lv' : Lv} {st st' : List Value} {h h' : Hp} {P : Option Prop}  (C : Cx p R s m args c cc nL on cells slots A D tys cy al sc) (hd : decode cc pc = .ok (.bastore, 1)) (hex : ex1 sc cs qs (.bastore) lv st h = some ((lv', st', h'), P)) (hP9 : ∀ x, P = some x → x) (K : GM p l e R s m args below meth c cells slots Q nL A D cy al (pc + 1) lv' st' h') : GM p l e R s m args below meth c cells slots Q nL A D cy al pc lv st h := by
  obtain ⟨⟨hx, hb, hml, hown, hts, hnw⟩, ⟨hK, hD, hT⟩, ⟨hst, hX, hXl, hXA⟩, hR1, hR2, hR3, hR4⟩ := C
  intro ls H locs hl hP hS
  simp only [ex1, ok1] at hex
  split at hex
  · rename_i v i a r9
    cases hex
    obtain ⟨hk, hin⟩ := hP9 _ rfl
    have h99 : kd a ≠ 99 := by omega
    have ha0 : a ≠ 0 := kd_pos h99
    have he := wsp_get cy al h h99
    rw [show cel cy al h a = .inl (cy 21, ln a, .inl (h.1 a)) by unfold cel; rw [if_neg (by omega), if_pos (by omega), hk]] at he
    rw [List.map_cons, List.map_cons, List.map_cons, vm_ref al ha0]
    refine va_bast hx hb hK hP (hD h) hS (a - 1) 1 he (hT 1 (by omega)) hin hd (fun H1 locs1 hP1 _ hS1 => ?_)
    rw [wsp_set cy al (h := h) (h' := wr h a i.toNatClampNeg v.toInt8.toInt32) h99 (by unfold cel; rw [if_neg (by omega), if_pos (by omega), hk, wr_row]; rfl) (fun q hq => cel_ne cy al (wr_ne hq) (Or.inl rfl))] at hP1
    exact K ls H1 locs1 hl hP1 hS1
  · cases hex
theorem so_zast {cs : List Int32} {qs : List Int64} {pc : Nat} {lv lv' : Lv} {st st' : List Value} {h h' : Hp} {P : Option Prop}  (C : Cx p R s m args c cc nL on cells slots A D tys cy al sc) (hd : decode cc pc = .ok (.bastore, 1)) (hex : ex1 sc cs qs (.castore) lv st h = some ((lv', st', h'), P)) (hP9 : ∀ x, P = some x → x) (K : GM p l e R s m args below meth c cells slots Q nL A D cy al (pc + 1) lv' st' h') : GM p l e R s m args below meth c cells slots Q nL A D cy al pc lv st h := by
  obtain ⟨⟨hx, hb, hml, hown, hts, hnw⟩, ⟨hK, hD, hT⟩, ⟨hst, hX, hXl, hXA⟩, hR1, hR2, hR3, hR4⟩ := C
  intro ls H locs hl hP hS
  simp only [ex1, ok1] at hex
  split at hex
  · rename_i v i a r9
    cases hex
    obtain ⟨hk, hin, hv01⟩ := hP9 _ rfl
    have h99 : kd a ≠ 99 := by omega
    have ha0 : a ≠ 0 := kd_pos h99
    have he := wsp_get cy al h h99
    rw [show cel cy al h a = .inl (cy 22, ln a, .inl (h.1 a)) by unfold cel; rw [if_neg (by omega), if_pos (by omega), hk]] at he
    rw [List.map_cons, List.map_cons, List.map_cons, vm_ref al ha0]
    refine va_zast hx hb hK hP (hD h) hS (a - 1) 2 he (hT 2 (by omega)) hin hd (fun H1 locs1 hP1 _ hS1 => ?_)
    rw [wsp_set cy al (h := h) (h' := wr h a i.toNatClampNeg v) h99 (by unfold cel; rw [if_neg (by omega), if_pos (by omega), hk, wr_row]; rcases hv01 with rfl | rfl <;> rfl) (fun q hq => cel_ne cy al (wr_ne hq) (Or.inl rfl))] at hP1
    exact K ls H1 locs1 hl hP1 hS1
  · cases hex
theorem so_alen {cs : List Int32} {qs : List Int64} {pc : Nat} {lv lv' : Lv} {st st' : List Value} {h h' : Hp} {P : Option Prop}  (C : Cx p R s m args c cc nL on cells slots A D tys cy al sc) (hd : decode cc pc = .ok (.arraylength, 1)) (hex : ex1 sc cs qs (.arraylength) lv st h = some ((lv', st', h'), P)) (hP9 : ∀ x, P = some x → x) (K : GM p l e R s m args below meth c cells slots Q nL A D cy al (pc + 1) lv' st' h') : GM p l e R s m args below meth c cells slots Q nL A D cy al pc lv st h := by
  obtain ⟨⟨hx, hb, hml, hown, hts, hnw⟩, ⟨hK, hD, hT⟩, ⟨hst, hX, hXl, hXA⟩, hR1, hR2, hR3, hR4⟩ := C
  intro ls H locs hl hP hS
  simp only [ex1, ok1] at hex
  split at hex
  · rename_i a r9
    cases hex
    obtain ⟨hk1, hk2⟩ := hP9 _ rfl
    have h99 : kd a ≠ 99 := by omega
    have ha0 : a ≠ 0 := kd_pos h99
    have he := wsp_get cy al h h99
    rw [List.map_cons, vm_ref al ha0]
    have ht := hT (kd a - 20) (by omega)
    rw [show 20 + (kd a - 20) = kd a by omega] at ht
    by_cases h3 : kd a < 23
    · rw [show cel cy al h a = .inl (cy (kd a), ln a, .inl (h.1 a)) by unfold cel; rw [if_neg (by omega), if_pos h3]] at he
      exact va_alen hx hb hK hP (a - 1) (kd a - 20) he ht rfl hd (K ls H locs hl hP hS)
    · rw [show cel cy al h a = .inl (cy (kd a), ln a, .inr (.inr (.inr (.inr (elr al a))))) by unfold cel; rw [if_neg (by omega), if_neg h3]] at he
      exact va_alen hx hb hK hP (a - 1) (kd a - 20) he ht rfl hd (K ls H locs hl hP hS)
  · cases hex
theorem so_sld {cs : List Int32} {qs : List Int64} {pc : Nat} {lv lv' : Lv} {st st' : List Value} {h h' : Hp} {P : Option Prop}  (C : Cx p R s m args c cc nL on cells slots A D tys cy al sc) (hd : decode cc pc = .ok (.iaload, 1)) (hex : ex1 sc cs qs (.faload) lv st h = some ((lv', st', h'), P)) (hP9 : ∀ x, P = some x → x) (K : GM p l e R s m args below meth c cells slots Q nL A D cy al (pc + 1) lv' st' h') : GM p l e R s m args below meth c cells slots Q nL A D cy al pc lv st h := by
  obtain ⟨⟨hx, hb, hml, hown, hts, hnw⟩, ⟨hK, hD, hT⟩, ⟨hst, hX, hXl, hXA⟩, hR1, hR2, hR3, hR4⟩ := C
  intro ls H locs hl hP hS
  simp only [ex1, ok1] at hex
  split at hex
  · rename_i i a r9
    cases hex
    obtain ⟨rfl, hin⟩ := hP9 _ rfl
    rw [List.map_cons, List.map_cons, vm_ref al (by omega)]
    exact va_sld hx hb hX hXl hXA hS hin hd (K ls H locs hl hP hS)
  · cases hex
theorem so_slen {cs : List Int32} {qs : List Int64} {pc : Nat} {lv lv' : Lv} {st st' : List Value} {h h' : Hp} {P : Option Prop}  (C : Cx p R s m args c cc nL on cells slots A D tys cy al sc) (hd : decode cc pc = .ok (.arraylength, 1)) (hex : ex1 sc cs qs (.fneg) lv st h = some ((lv', st', h'), P)) (hP9 : ∀ x, P = some x → x) (K : GM p l e R s m args below meth c cells slots Q nL A D cy al (pc + 1) lv' st' h') : GM p l e R s m args below meth c cells slots Q nL A D cy al pc lv st h := by
  obtain ⟨⟨hx, hb, hml, hown, hts, hnw⟩, ⟨hK, hD, hT⟩, ⟨hst, hX, hXl, hXA⟩, hR1, hR2, hR3, hR4⟩ := C
  intro ls H locs hl hP hS
  simp only [ex1, ok1] at hex
  split at hex
  · rename_i a r9
    cases hex
    obtain rfl := hP9 _ rfl
    rw [List.map_cons, vm_ref al (by omega)]
    exact va_slen hx hb hX hXl hXA hS hd (K ls H locs hl hP hS)
  · cases hex
theorem so_mmax {cs : List Int32} {qs : List Int64} {pc : Nat} {lv lv' : Lv} {st st' : List Value} {h h' : Hp} {P : Option Prop} {x : Nat} (hw : (on, x, 1) ∈ XLT) (C : Cx p R s m args c cc nL on cells slots A D tys cy al sc) (hd : decode cc pc = .ok (.invokestatic x, 3)) (hex : ex1 sc cs qs (.invokestatic 1) lv st h = some ((lv', st', h'), P)) (hP9 : ∀ x, P = some x → x) (K : GM p l e R s m args below meth c cells slots Q nL A D cy al (pc + 3) lv' st' h') : GM p l e R s m args below meth c cells slots Q nL A D cy al pc lv st h := by
  obtain ⟨⟨hx, hb, hml, hown, hts, hnw⟩, ⟨hK, hD, hT⟩, ⟨hst, hX, hXl, hXA⟩, hR1, hR2, hR3, hR4⟩ := C
  intro ls H locs hl hP hS
  simp only [ex1, ok1] at hex
  split at hex
  · rename_i y x9 r9
    cases hex
    have hsm := hP9 _ rfl
    exact va_mmax hx hb (hml.trans hl.1.symm) hown (hts _ (xlt_ok hw)) (hts _ w_maxs) (hts _ w_mathi) (hts _ w_maxc) hR1 (by rw [sm_map]; omega) hR3 hR4 hd (K ls H locs hl hP hS)
  · cases hex
theorem so_mmin {cs : List Int32} {qs : List Int64} {pc : Nat} {lv lv' : Lv} {st st' : List Value} {h h' : Hp} {P : Option Prop} {x : Nat} (hw : (on, x, 2) ∈ XLT) (C : Cx p R s m args c cc nL on cells slots A D tys cy al sc) (hd : decode cc pc = .ok (.invokestatic x, 3)) (hex : ex1 sc cs qs (.invokestatic 2) lv st h = some ((lv', st', h'), P)) (hP9 : ∀ x, P = some x → x) (K : GM p l e R s m args below meth c cells slots Q nL A D cy al (pc + 3) lv' st' h') : GM p l e R s m args below meth c cells slots Q nL A D cy al pc lv st h := by
  obtain ⟨⟨hx, hb, hml, hown, hts, hnw⟩, ⟨hK, hD, hT⟩, ⟨hst, hX, hXl, hXA⟩, hR1, hR2, hR3, hR4⟩ := C
  intro ls H locs hl hP hS
  simp only [ex1, ok1] at hex
  split at hex
  · rename_i y x9 r9
    cases hex
    have hsm := hP9 _ rfl
    exact va_mmin hx hb (hml.trans hl.1.symm) hown (hts _ (xlt_ok hw)) (hts _ w_mins) (hts _ w_mathi) (hts _ w_minc) hR1 (by rw [sm_map]; omega) hR3 hR4 hd (K ls H locs hl hP hS)
  · cases hex
theorem so_copy {cs : List Int32} {qs : List Int64} {pc : Nat} {lv lv' : Lv} {st st' : List Value} {h h' : Hp} {P : Option Prop} {x : Nat} (hw : (on, x, 3) ∈ XLT) (C : Cx p R s m args c cc nL on cells slots A D tys cy al sc) (hd : decode cc pc = .ok (.invokestatic x, 3)) (hex : ex1 sc cs qs (.invokestatic 3) lv st h = some ((lv', st', h'), P)) (hP9 : ∀ x, P = some x → x) (K : GM p l e R s m args below meth c cells slots Q nL A D cy al (pc + 3) lv' st' h') : GM p l e R s m args below meth c cells slots Q nL A D cy al pc lv st h := by
  obtain ⟨⟨hx, hb, hml, hown, hts, hnw⟩, ⟨hK, hD, hT⟩, ⟨hst, hX, hXl, hXA⟩, hR1, hR2, hR3, hR4⟩ := C
  intro ls H locs hl hP hS
  simp only [ex1, ok1] at hex
  split at hex
  · rename_i n j b i a r9
    cases hex
    obtain ⟨hsm, ⟨hka, hkb⟩, ⟨hi, hj, hn⟩, h4, h5⟩ := hP9 _ rfl
    have h99a : kd a ≠ 99 := by omega
    have h99b : kd b ≠ 99 := by omega
    have ha0 : a ≠ 0 := kd_pos h99a
    have hb0 : b ≠ 0 := kd_pos h99b
    have hea := wsp_get cy al h h99a
    have heb := wsp_get cy al h h99b
    rw [show cel cy al h a = .inl (cy 20, ln a, .inl (h.1 a)) by unfold cel; rw [if_neg (by omega), if_pos (by omega), hka]] at hea
    rw [show cel cy al h b = .inl (cy 20, ln b, .inl (h.1 b)) by unfold cel; rw [if_neg (by omega), if_pos (by omega), hkb]] at heb
    rw [List.map_cons, List.map_cons, List.map_cons, List.map_cons, List.map_cons, vm_ref al ha0, vm_ref al hb0]
    have h80 : nativeFrameWords "java/lang/System" "arraycopy" 5 ≤ 80 := by decide +kernel
    refine va_copyi hx hb (hml.trans hl.1.symm) hown (hts _ (xlt_ok hw)) (hts _ w_copyn) (hts _ w_copys) (hts _ w_sysi) hK hP (hD h) hS (a - 1) (b - 1) 0 0 hea heb (hT 0 (by omega)) (hT 0 (by omega)) rfl hi hj hn h4 h5 (fun _ _ => rfl) hR1 (by rw [sm_map]; omega) hd (fun H1 locs1 hP1 _ hS1 => ?_)
    rw [wsp_set cy al (h := h) (h' := cpy h a i.toNatClampNeg b j.toNatClampNeg n.toNatClampNeg) h99b (by unfold cel; rw [if_neg (by omega), if_pos (by omega), hkb, cpy_row]) (fun q hq => cel_ne cy al (cpy_ne hq) (Or.inl rfl))] at hP1
    exact K ls H1 locs1 hl hP1 hS1
  · cases hex
end SND
