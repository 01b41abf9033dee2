/-! ===== the makers: cells that are being made; the interpreter of a constructor's bytes ===== -/
/-- a cell: done (as in the layout), an object's fields, an array's ints, an array's references -/
abbrev AC : Type := Option (List Value ⊕ (List (Nat × Int32) ⊕ List Nat))
def qel (al : Nat → Nat) (es : List Nat) (j : Nat) : Option Nat := if es.getD j 0 = 0 then none else some (al (es.getD j 0))
def rl (cy : Nat → ClassId) (al : Nat → Nat) (k : Nat) (a : AC) : va_E := match a with
  | none => cel cy al hp0 k
  | some (.inl fs) => .inr (kd k, fs.map (vm al))
  | some (.inr (.inl u)) => .inl (cy (kd k), ln k, .inl (lkp u))
  | some (.inr (.inr es)) => .inl (cy (kd k), ln k, .inr (.inr (.inr (.inr (qel al es)))))
def wl (cy : Nat → ClassId) (al : Nat → Nat) : Nat → List AC → va_W
  | _, [] => []
  | r, a :: w => (al r, rl cy al r a) :: wl cy al (r + 1) w
theorem wl_len (cy : Nat → ClassId) (al : Nat → Nat) : ∀ r ws, (wl cy al r ws).length = ws.length
  | _, [] => rfl
  | r, a :: w => congrArg (· + 1) (wl_len cy al (r + 1) w)
theorem wl_get (cy : Nat → ClassId) (al : Nat → Nat) : ∀ r ws i, (wl cy al r ws)[i]? = (ws[i]?).map (fun a => (al (r + i), rl cy al (r + i) a))
  | _, [], i => by simp [wl]
  | r, a :: w, 0 => rfl
  | r, a :: w, i + 1 => by
    show (wl cy al (r + 1) w)[i]? = _
    rw [wl_get cy al (r + 1) w i, show r + 1 + i = r + (i + 1) by omega]
    rfl
theorem wl_set (cy : Nat → ClassId) (al : Nat → Nat) (b : AC) : ∀ r ws i, (wl cy al r ws).set i (al (r + i), rl cy al (r + i) b) = wl cy al r (ws.set i b)
  | _, [], i => by simp [wl]
  | r, a :: w, 0 => rfl
  | r, a :: w, i + 1 => by
    show (al r, rl cy al r a) :: (wl cy al (r + 1) w).set i (al (r + (i + 1)), rl cy al (r + (i + 1)) b) = (al r, rl cy al r a) :: wl cy al (r + 1) (w.set i b)
    rw [← wl_set cy al b (r + 1) w i, show r + 1 + i = r + (i + 1) by omega]
theorem wl_app (cy : Nat → ClassId) (al : Nat → Nat) (v : List AC) : ∀ r ws, wl cy al r (ws ++ v) = wl cy al r ws ++ wl cy al (r + ws.length) v
  | _, [] => rfl
  | r, a :: w => by
    show (al r, rl cy al r a) :: wl cy al (r + 1) (w ++ v) = (al r, rl cy al r a) :: (wl cy al (r + 1) w ++ _)
    rw [wl_app cy al v (r + 1) w, show r + 1 + w.length = r + (a :: w).length by rw [List.length_cons]; omega]
/-! no label beyond n -/
def svl (n : Nat) (v : Value) : Bool := match v with
  | .ref k => decide (k < n)
  | _ => true
def sac (n k : Nat) (a : AC) : Bool := match a with
  | none => (RF.getD k []).all (fun q => decide (q < n)) && ((EL.getD k []).all (fun q => decide (q < n)) && (lkH H0T k).all (fun q => decide (q.2.toNatClampNeg < n)))
  | some (.inl fs) => fs.all (svl n)
  | some (.inr (.inl _)) => true
  | some (.inr (.inr es)) => es.all (fun q => decide (q < n))
def swl (n : Nat) : Nat → List AC → Bool
  | _, [] => true
  | k, a :: w => sac n k a && swl n (k + 1) w
theorem getD_lt {L : List Nat} {n : Nat} (hn : 0 < n) (h : L.all (fun q => decide (q < n)) = true) (j : Nat) : L.getD j 0 < n := by
  rw [List.getD_eq_getElem?_getD]
  cases e : L[j]? with
  | none => exact hn
  | some x =>
    have := List.all_eq_true.mp h x (List.mem_of_getElem? e)
    rw [decide_eq_true_eq] at this
    exact this
theorem lkp_lt {n : Nat} (hn : 0 < n) : ∀ (u : List (Nat × Int32)) j, u.all (fun q => decide (q.2.toNatClampNeg < n)) = true → (lkp u j).toNatClampNeg < n
  | [], j, _ => by
    show (0 : Int32).toNatClampNeg < n
    rw [cl0]
    exact hn
  | q :: r, j, h => by
    rw [List.all_cons, Bool.and_eq_true, decide_eq_true_eq] at h
    show (if q.1 = j then q.2 else lkp r j).toNatClampNeg < n
    by_cases c : q.1 = j
    · rw [if_pos c]; exact h.1
    · rw [if_neg c]; exact lkp_lt hn r j h.2
theorem vm_cg {al al' : Nat → Nat} {n : Nat} (h : ∀ k, k < n → al' k = al k) {v : Value} (hv : svl n v = true) : vm al' v = vm al v := by
  cases v with
  | ref k =>
    have : k < n := of_decide_eq_true hv
    show (if k = 0 then Value.null else .ref (al' k)) = if k = 0 then Value.null else .ref (al k)
    rw [h k this]
  | _ => rfl
theorem vms_cg {al al' : Nat → Nat} {n : Nat} (h : ∀ k, k < n → al' k = al k) {L : List Value} (hv : L.all (svl n) = true) : L.map (vm al') = L.map (vm al) := List.map_congr_left (fun v hm => vm_cg h (List.all_eq_true.mp hv v hm))
theorem rl_cg {cy : Nat → ClassId} {al al' : Nat → Nat} {n k : Nat} (hn : 0 < n) (h : ∀ k, k < n → al' k = al k) {a : AC} (ha : sac n k a = true) : rl cy al' k a = rl cy al k a := by
  rcases a with _ | (fs | (u | es))
  · have ha' : ((RF.getD k []).all (fun q => decide (q < n)) && ((EL.getD k []).all (fun q => decide (q < n)) && (lkH H0T k).all (fun q => decide (q.2.toNatClampNeg < n)))) = true := ha
    rw [Bool.and_eq_true, Bool.and_eq_true] at ha'
    obtain ⟨h1, h2, h3⟩ := ha'
    show cel cy al' hp0 k = cel cy al hp0 k
    have e1 : fv al' hp0 k = fv al hp0 k := by
      funext j
      unfold fv
      have f1 : vm al' (.ref (rf k j)) = vm al (.ref (rf k j)) := vm_cg h (decide_eq_true (getD_lt hn h1 j))
      have f2 : vm al' (.ref (hp0.1 k j).toNatClampNeg) = vm al (.ref (hp0.1 k j).toNatClampNeg) := vm_cg h (decide_eq_true (lkp_lt hn _ j h3))
      rw [f1, f2]
    have e2 : elr al' k = elr al k := by
      funext j
      unfold elr
      rw [h (el k j) (getD_lt hn h2 j)]
    unfold cel
    rw [e1, e2]
  · show Sum.inr (kd k, fs.map (vm al')) = Sum.inr (kd k, fs.map (vm al))
    rw [vms_cg h ha]
  · rfl
  · have e : qel al' es = qel al es := by
      funext j
      unfold qel
      rw [h _ (getD_lt hn ha j)]
    show Sum.inl (cy (kd k), ln k, Sum.inr (Sum.inr (Sum.inr (Sum.inr (qel al' es))))) = Sum.inl (cy (kd k), ln k, Sum.inr (Sum.inr (Sum.inr (Sum.inr (qel al es)))))
    rw [e]
theorem wl_cg {cy : Nat → ClassId} {al al' : Nat → Nat} {n : Nat} (hn : 0 < n) (h : ∀ k, k < n → al' k = al k) : ∀ r ws, swl n r ws = true → r + ws.length ≤ n → wl cy al' r ws = wl cy al r ws
  | _, [], _, _ => rfl
  | r, a :: w, hs, hl => by
    rw [List.length_cons] at hl
    have hs' : (sac n r a && swl n (r + 1) w) = true := hs
    rw [Bool.and_eq_true] at hs'
    show (al' r, rl cy al' r a) :: wl cy al' (r + 1) w = (al r, rl cy al r a) :: wl cy al (r + 1) w
    rw [h r (by omega), rl_cg hn h hs'.1, wl_cg hn h (r + 1) w hs'.2 (by omega)]
/-! fields as they are born -/
def dfv (d : String) : Value := if d = "I" ∨ d = "Z" then .int 0 else if d = "J" then .long 0 else .ref 0
def dfl (c : Nat) : List Value := (List.range (nf c)).map (fun j => dfv (TN c j).2.2.1)
def tyC (t : Nat) : String := if t = 3 then "GrainInn$House" else if t = 4 then "GrainInn$Lines" else if t = 5 then "GrainInn$Bench" else "GrainInn$Told"
/-- sizes: labels, cells' slots behind the own one -/
def szI (c : Nat) : Nat := [4, 6, 4, 2, 11, 9, 14, 33, 2, 42, 10, 250, 30].getD c 0
def slI (c r : Nat) : Nat := if c = 2 then 3 * ln (r + 1) else [36, 31, 0, 256, 162, 79, 78, 351, 600, 1058, 53, 5289, 6268].getD c 0
/-- a constructor's arguments -/
def okA (c r : Nat) (as : List Value) : Bool := if c = 2 then decide (as = [.int (Int32.ofNat (ln (r + 1)))]) else if c = 4 then decide (as = [.ref 3]) && decide (r = 46) else decide (as = [])
def arI (c : Nat) : Nat := if c = 2 ∨ c = 4 then 1 else 0
abbrev AS : Type := Nat × Lv × List Value × List AC × Nat × Nat
def gtv (k j : Nat) (a : Option AC) : Option Value := match a with
  | some (some (.inl fs)) => fs[j]?
  | some none => if sl (kd k) j = 1 ∧ kd k < 13 ∧ j < nf (kd k) then some (.ref (rf k j)) else none
  | _ => none
def okT (d : String) (v : Value) : Bool := match v with
  | .int x => decide (d = "I") || (decide (d = "Z") && (decide (x = 0) || decide (x = 1)))
  | .ref _ => match parseFieldDescriptor d with
    | some (.object _) => true
    | some (.array _) => true
    | _ => false
  | _ => false
/-- a field's link -/
def flk (on x c : Nat) : Option Nat := (FLT.find? (fun q => decide (q.1 = on) && (decide (q.2.1 = x) && decide (q.2.2.1 = c)))).map (fun q => q.2.2.2)
theorem flk_in {on x c j : Nat} (h : flk on x c = some j) : (on, x, c, j) ∈ FLT := by
  unfold flk at h
  rw [Option.map_eq_some_iff] at h
  obtain ⟨⟨q1, q2, q3, q4⟩, h1, h2⟩ := h
  have h3 := List.find?_some h1
  have h4 := List.mem_of_find?_eq_some h1
  simp only [Bool.and_eq_true, decide_eq_true_eq] at h3
  obtain ⟨rfl, rfl, rfl⟩ := h3
  dsimp only at h2
  subst h2
  exact h4
def lim (x : Int32) : Int32 := if x = 1 then 40 else if x = 2 then 10 else 7
def isFi (a : Option AC) : Bool := match a with
  | some none => true
  | _ => false
theorem isFi_e {a : Option AC} (h : isFi a = true) : a = some none := by
  rcases a with _ | _ | x
  · exact absurd h (by decide)
  · rfl
  · exact absurd h Bool.false_ne_true
def isOb (d : List Value) (a : Option AC) : Bool := match a with
  | some (some (.inl fs)) => decide (fs = d)
  | _ => false
theorem isOb_e {d : List Value} {a : Option AC} (h : isOb d a = true) : a = some (some (.inl d)) := by
  rcases a with _ | _ | (fs | x)
  · exact absurd h Bool.false_ne_true
  · exact absurd h Bool.false_ne_true
  · have e : fs = d := of_decide_eq_true h
    rw [e]
  · exact absurd h Bool.false_ne_true
/-- one instruction, but for the return -/
def ai (on r nL CS SS : Nat) (lo : List Nat) (i : Instr) (n : Nat) (q : AS) : Option AS := match i with
  | .aload_n k => match lg q.2.1 k with
    | .ref x => if n = 1 then some (q.1 + 1, q.2.1, .ref x :: q.2.2.1, q.2.2.2) else none
    | _ => none
  | .iload_n k => match lg q.2.1 k with
    | .int x => if n = 1 then some (q.1 + 1, q.2.1, .int x :: q.2.2.1, q.2.2.2) else none
    | _ => none
  | .istore_n k => match q.2.2.1 with
    | .int x :: rest => if n = 1 ∧ (k : Nat) < nL then some (q.1 + 1, ls1 q.2.1 k (.int x), rest, q.2.2.2) else none
    | _ => none
  | .iconst v => if n = 1 then some (q.1 + 1, q.2.1, .int (Int32.ofInt v) :: q.2.2.1, q.2.2.2) else none
  | .bipush v => if n = 2 then some (q.1 + 2, q.2.1, .int (Int8.ofInt v).toInt32 :: q.2.2.1, q.2.2.2) else none
  | .sipush v => if n = 3 then some (q.1 + 3, q.2.1, .int (Int16.ofInt v).toInt32 :: q.2.2.1, q.2.2.2) else none
  | .dup => match q.2.2.1 with
    | .ref x :: rest => if n = 1 then some (q.1 + 1, q.2.1, .ref x :: .ref x :: rest, q.2.2.2) else none
    | _ => none
  | .idiv => match q.2.2.1 with
    | .int y :: .int x :: rest => if n = 1 ∧ ¬ y = 0 then some (q.1 + 1, q.2.1, .int (x / y) :: rest, q.2.2.2) else none
    | _ => none
  | .iinc k v => match lg q.2.1 k with
    | .int x => if n = 3 then some (q.1 + 3, ls1 q.2.1 k (.int (x + Int32.ofInt v)), q.2.2.1, q.2.2.2) else none
    | _ => none
  | .goto o => if n = 3 ∧ 0 ≤ (q.1 : Int) + o then some (((q.1 : Int) + o).toNat, q.2) else none
  | .if_icmp .ge o => match q.2.2.1 with
    | .int y :: .int x :: rest => if n = 3 ∧ 0 ≤ (q.1 : Int) + o then some (if y ≤ x then ((q.1 : Int) + o).toNat else q.1 + 3, q.2.1, rest, q.2.2.2) else none
    | _ => none
  | .getfield x => match q.2.2.1 with
    | .ref k :: rest => match flk on x (kd k) with
      | some j => match gtv k j (q.2.2.2.1[k - r]?) with
        | some v => if n = 3 ∧ r ≤ k ∧ k ≠ 0 then some (q.1 + 3, q.2.1, v :: rest, q.2.2.2) else none
        | none => none
      | none => none
    | _ => none
  | .putfield x => match q.2.2.1 with
    | v :: .ref k :: rest => match flk on x (kd k) with
      | some j => match q.2.2.2.1[k - r]? with
        | some (some (.inl fs)) => if n = 3 ∧ r ≤ k ∧ k ≠ 0 ∧ j < fs.length ∧ okT (TN (kd k) j).2.2.1 v = true ∧ ((TN (kd k) j).2.2.2 = true → (TN (kd k) j).1 = RN on) then some (q.1 + 3, q.2.1, rest, q.2.2.2.1.set (k - r) (some (.inl (fs.set j v))), q.2.2.2.2) else none
        | _ => none
      | none => none
    | _ => none
  | .newarray t => match q.2.2.1 with
    | .int x :: rest => if n = 2 ∧ 1 ≤ q.2.2.2.1.length ∧ 20 ≤ kd (r + q.2.2.2.1.length) ∧ kd (r + q.2.2.2.1.length) < 23 ∧ newarray.typeOf t = tyA (kd (r + q.2.2.2.1.length) - 20) ∧ x = Int32.ofNat (ln (r + q.2.2.2.1.length)) ∧ ln (r + q.2.2.2.1.length) ≤ 100000 ∧ q.2.2.2.2.1 + 1 ≤ CS ∧ q.2.2.2.2.2 + ln (r + q.2.2.2.1.length) ≤ SS ∧ swl (r + q.2.2.2.1.length) r q.2.2.2.1 = true ∧ rest.all (svl (r + q.2.2.2.1.length)) = true ∧ q.2.1.all (fun z => svl (r + q.2.2.2.1.length) z.2) = true then some (q.1 + 2, q.2.1, .ref (r + q.2.2.2.1.length) :: rest, q.2.2.2.1 ++ [some (.inr (.inl []))], q.2.2.2.2.1 + 1, q.2.2.2.2.2 + ln (r + q.2.2.2.1.length)) else none
    | _ => none
  | .anewarray x => match q.2.2.1 with
    | .int y :: rest => if n = 3 ∧ 1 ≤ q.2.2.2.1.length ∧ 23 ≤ kd (r + q.2.2.2.1.length) ∧ kd (r + q.2.2.2.1.length) < 27 ∧ (CLT.any fun z => decide (z.1 = on) && (decide (z.2.1 = x) && decide (RN z.2.2 = tyC (kd (r + q.2.2.2.1.length) - 20)))) = true ∧ y = Int32.ofNat (ln (r + q.2.2.2.1.length)) ∧ ln (r + q.2.2.2.1.length) ≤ 100000 ∧ q.2.2.2.2.1 + 1 ≤ CS ∧ q.2.2.2.2.2 + ln (r + q.2.2.2.1.length) ≤ SS ∧ swl (r + q.2.2.2.1.length) r q.2.2.2.1 = true ∧ rest.all (svl (r + q.2.2.2.1.length)) = true ∧ q.2.1.all (fun z => svl (r + q.2.2.2.1.length) z.2) = true then some (q.1 + 3, q.2.1, .ref (r + q.2.2.2.1.length) :: rest, q.2.2.2.1 ++ [some (.inr (.inr (List.replicate (ln (r + q.2.2.2.1.length)) 0)))], q.2.2.2.2.1 + 1, q.2.2.2.2.2 + ln (r + q.2.2.2.1.length)) else none
    | _ => none
  | .new x => if n = 3 ∧ 1 ≤ q.2.2.2.1.length ∧ kd (r + q.2.2.2.1.length) < 13 ∧ (CLT.any fun z => decide (z.1 = on) && (decide (z.2.1 = x) && decide (z.2.2 = kd (r + q.2.2.2.1.length)))) = true ∧ q.2.2.2.2.1 + 1 ≤ CS ∧ q.2.2.2.2.2 + nf (kd (r + q.2.2.2.1.length)) ≤ SS ∧ swl (r + q.2.2.2.1.length) r q.2.2.2.1 = true ∧ q.2.2.1.all (svl (r + q.2.2.2.1.length)) = true ∧ q.2.1.all (fun z => svl (r + q.2.2.2.1.length) z.2) = true then some (q.1 + 3, q.2.1, .ref (r + q.2.2.2.1.length) :: q.2.2.1, q.2.2.2.1 ++ [some (.inl (dfl (kd (r + q.2.2.2.1.length))))], q.2.2.2.2.1 + 1, q.2.2.2.2.2 + nf (kd (r + q.2.2.2.1.length))) else none
  | .arraylength => match q.2.2.1 with
    | .ref k :: rest => match q.2.2.2.1[k - r]? with
      | some (some (.inr (.inr _))) => if n = 1 ∧ r ≤ k ∧ k ≠ 0 ∧ 20 ≤ kd k ∧ kd k < 27 then some (q.1 + 1, q.2.1, .int (Int32.ofNat (ln k)) :: rest, q.2.2.2) else none
      | _ => none
    | _ => none
  | .aastore => match q.2.2.1 with
    | .ref v :: .int i :: .ref a :: rest => match q.2.2.2.1[a - r]? with
      | some (some (.inr (.inr es))) => if n = 1 ∧ r ≤ a ∧ a ≠ 0 ∧ 23 ≤ kd a ∧ kd a < 27 ∧ r ≤ v ∧ v ≠ 0 ∧ v - r < q.2.2.2.1.length ∧ isFi (q.2.2.2.1[v - r]?) = true ∧ kd v < 13 ∧ RN (kd v) = tyC (kd a - 20) ∧ ¬ (i < 0 ∨ ln a ≤ i.toNatClampNeg) ∧ es.length = ln a then some (q.1 + 1, q.2.1, rest, q.2.2.2.1.set (a - r) (some (.inr (.inr (es.set i.toNatClampNeg v)))), q.2.2.2.2) else none
      | _ => none
    | _ => none
  | .iastore => match q.2.2.1 with
    | .int x :: .int i :: .ref a :: rest => match q.2.2.2.1[a - r]? with
      | some (some (.inr (.inl u))) => if n = 1 ∧ r ≤ a ∧ a ≠ 0 ∧ kd a = 20 ∧ ¬ (i < 0 ∨ ln a ≤ i.toNatClampNeg) then some (q.1 + 1, q.2.1, rest, q.2.2.2.1.set (a - r) (some (.inr (.inl ((i.toNatClampNeg, x) :: u)))), q.2.2.2.2) else none
      | _ => none
    | _ => none
  | .invokespecial x => if (on, x, 13) ∈ IVT then (match q.2.2.1 with
      | .ref k :: rest => if n = 3 ∧ k ≠ 0 ∧ sm rest ≤ 8 then some (q.1 + 3, q.2.1, rest, q.2.2.2) else none
      | _ => none)
    else (match q.2.2.1[arI (kd (r + q.2.2.2.1.length - 1))]? with
      | some (.ref k) => if n = 3 ∧ k = r + q.2.2.2.1.length - 1 ∧ r < k ∧ kd k < 13 ∧ (on, x, kd k) ∈ IVT ∧ kd k ∈ lo ∧ isOb (dfl (kd k)) (q.2.2.2.1[k - r]?) = true ∧ okA (kd k) k (q.2.2.1.take (arI (kd k))).reverse = true ∧ sm (q.2.2.1.drop (arI (kd k) + 1)) ≤ 8 ∧ q.2.2.2.2.1 + (szI (kd k) - 1) ≤ CS ∧ q.2.2.2.2.2 + slI (kd k) k ≤ SS ∧ swl k r (q.2.2.2.1.take (k - r)) = true ∧ (q.2.2.1.drop (arI (kd k) + 1)).all (svl (k + 1)) = true ∧ q.2.1.all (fun z => svl (k + 1) z.2) = true then some (q.1 + 3, q.2.1, q.2.2.1.drop (arI (kd k) + 1), q.2.2.2.1.take (k - r) ++ List.replicate (szI (kd k)) none, q.2.2.2.2.1 + (szI (kd k) - 1), q.2.2.2.2.2 + slI (kd k) k) else none
      | _ => none)
  | .invokestatic x => if (on, x, 1) ∈ XLT then (match q.2.2.1 with
      | .int y :: .int z :: rest => if n = 3 ∧ sm rest ≤ 8 ∧ q.2.2.2.2.1 ≤ CS ∧ q.2.2.2.2.2 ≤ SS then some (q.1 + 3, q.2.1, .int (mx z y) :: rest, q.2.2.2) else none
      | _ => none)
    else if on = 9 ∧ x = 42 then (match q.2.2.1 with
      | .int y :: rest => if n = 3 ∧ sm rest ≤ 8 ∧ q.2.2.2.2.1 ≤ CS ∧ q.2.2.2.2.2 ≤ SS then some (q.1 + 3, q.2.1, .int (lim y) :: rest, q.2.2.2) else none
      | _ => none)
    else none
  | _ => none
def rnA (on r nL CS SS : Nat) (lo : List Nat) (cc : ByteArray) : Nat → AS → Option AS
  | 0, _ => none
  | f + 1, q => match decode cc q.1 with
    | .ok (.return_, n) => if n = 1 then some q else none
    | .ok (i, n) => (ai on r nL CS SS lo i n q).bind (rnA on r nL CS SS lo cc f)
    | .error _ => none
/-- a cell is as in the layout -/
def mtc (k : Nat) (a : AC) : Bool := match a with
  | none => true
  | some (.inl fs) => decide (kd k < 13) && decide (fs = (List.range (nf (kd k))).map (fun j => if sl (kd k) j = 0 then Value.int (hp0.1 k j) else if sl (kd k) j = 1 then .ref (rf k j) else if sl (kd k) j = 2 then .ref (hp0.1 k j).toNatClampNeg else .long 0))
  | some (.inr (.inl u)) => decide (20 ≤ kd k) && (decide (kd k < 23) && decide (u = lkH H0T k))
  | some (.inr (.inr es)) => decide (23 ≤ kd k) && decide (es = EL.getD k [])
def mtw : Nat → List AC → Bool
  | _, [] => true
  | k, a :: w => mtc k a && mtw (k + 1) w
/-- a class's constructor at label r, run -/
def mkI (lo : List Nat) (c r : Nat) (as : List Value) : Bool := match rnA c r (mlI c) (szI c - 1) (slI c r) lo (ccI c) 1000 (0, lv_args 0 (.ref r :: as), [], [some (.inl (dfl c))], 0, 0) with
  | some q => decide (q.2.2.1 = []) && (decide (q.2.2.2.1.length = szI c) && (mtw r q.2.2.2.1 && (decide (q.2.2.2.2.1 = szI c - 1) && decide (q.2.2.2.2.2 = slI c r))))
  | none => false
