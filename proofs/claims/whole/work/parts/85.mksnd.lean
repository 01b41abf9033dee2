/-! ===== the makers: each instruction is sound ===== -/
def KxA (D : va_G) (tys : List (ClassId × FieldType)) (cy : Nat → ClassId) (U : State) : Prop := (∀ w ∈ NWL, va_Nw w U) ∧ va_K D vwCl tys U ∧ (∀ t, t < 7 → tys[t]? = some (cy (20 + t), tyA t)) ∧ ∀ t, t < 4 → va_AO (tyC (3 + t)) U
theorem KxA.go {D : va_G} {tys : List (ClassId × FieldType)} {cy : Nat → ClassId} {s U : State} (h : KxA D tys cy s) (hW : s.WarmedH U.vm) : KxA D tys cy U := by
  obtain ⟨h1, h2, h3, h4⟩ := h
  have hA := hW.alike
  refine ⟨fun w hw => ?_, h2.moved hA, h3, fun t ht => (h4 t ht).moved hA⟩
  have hn := (List.mem_filter.mp hw).2
  have h0 := h1 w hw
  cases w <;> first
    | (cases hn; done)
    | exact va_Nw.warmF hW h0
    | exact va_Nw.warmM hW h0
theorem KxA.same {D : va_G} {tys : List (ClassId × FieldType)} {cy : Nat → ClassId} {s U : State} (h : KxA D tys cy s) (hv : s.vm = U.vm) : KxA D tys cy U := by
  obtain ⟨h1, h2, h3, h4⟩ := h
  have hA : s.vm.Alike U.vm := by rw [hv]; exact Vm.Alike.refl _
  refine ⟨fun w hw => ?_, h2.moved hA, h3, fun t ht => (h4 t ht).moved hA⟩
  have hn := (List.mem_filter.mp hw).2
  have h0 := h1 w hw
  cases w <;> first
    | (cases hn; done)
    | exact va_Nw.same rfl hv h0
def rmi (d cs ss : Nat) : Room := { frames := d + 1, cells := cs, slots := ss, locals := 200 + 100 * d }
/-- where a constructor may write -/
def frI (al : Nat → Nat) (r n0 : Nat) : Nat → Prop := fun q => q = al r ∨ n0 ≤ q
def preI (D : va_G) (tys : List (ClassId × FieldType)) (cy : Nat → ClassId) (al : Nat → Nat) (c r n0 : Nat) (U : State) : Prop := U.heap.size = n0 ∧ va_P D vwCl [(al r, .inr (c, (dfl c).map (vm al)))] U.heap ∧ KxA D tys cy U
/-- a constructor's contract: of label r, it lays sz cells as in the layout -/
def CtP (l : Launch) (D : va_G) (tys : List (ClassId × FieldType)) (cy : Nat → ClassId) (d c r sz mc ms : Nat) (as : List Value) : Prop := ∀ (al : Nat → Nat) (n0 : Nat), Met l (ymI c) (.code (ymI c) (ccI c) (mlI c) none :: W0) (rmi d mc ms) (va_Pc ((.ref r :: as).map (vm al)) (preI D tys cy al c r n0)) (va_Qv (fun al' : Nat → Nat => ∀ k, k ≤ r → al' k = al k) (fun al' t => va_P D vwCl (wl cy al' r (List.replicate sz none)) t.heap ∧ va_D (frI al r n0) (wl cy al' r (List.replicate sz none))) (frI al r n0)) mc ms (frI al r n0)
def CxI (p : Program) (l : Launch) (R : Room) (s : State) (m : MethodId) (args : Array Value) (meth : Method) (c : Code) (cc : ByteArray) (nL on CS SS d : Nat) (lo : List Nat) (A : Nat → Prop) (D : va_G) (tys : List (ClassId × FieldType)) (cy : Nat → ClassId) : Prop :=
  (p.tables.exec = Jvm.exec ∧ c.code = cc ∧ c.maxLocals = nL ∧ s.vm.findClass (RN on) = some m.cls ∧ (∀ w ∈ W0, w.before args s = true) ∧ meth.name = "<init>") ∧ KxA D tys cy s ∧ (∀ q, s.heap.size ≤ q → A q) ∧ (d + 2 ≤ R.frames ∧ 300 + 100 * d ≤ R.locals ∧ CS ≤ R.cells ∧ SS ≤ R.slots) ∧ ∀ cl ∈ lo, cl < 13 ∧ ∀ k as, okA cl k as = true → kd k = cl → CtP l D tys cy d cl k (szI cl) (szI cl - 1) (slI cl k) as
section MKR
variable {p : Program} {l : Launch} {e : Env} {R : Room} {s : State} {m : MethodId} {args : Array Value} {below : List Frame} {meth : Method} {c : Code} {Q : State → Prop}
variable {cc : ByteArray} {nL on r CS SS d : Nat} {lo : List Nat} {A : Nat → Prop} {D : va_G} {tys : List (ClassId × FieldType)} {cy : Nat → ClassId}
def GA (p : Program) (l : Launch) (e : Env) (R : Room) (s : State) (m : MethodId) (args : Array Value) (below : List Frame) (meth : Method) (c : Code) (Q : State → Prop) (nL r : Nat) (A : Nat → Prop) (D : va_G) (cy : Nat → ClassId) (al : Nat → Nat) (q : AS) : Prop :=
  ∀ (ls : Array Slot) (H : Heap) (locs : List Loc), lv_has ls nL (q.2.1.map (vmp al)) → va_P D vwCl (wl cy al r q.2.2.2.1) H → va_D A (wl cy al r q.2.2.2.1) → va_S A s.heap H locs → W p l e R s m args below meth c H locs q.2.2.2.2.1 q.2.2.2.2.2 Q (F0 m q.1 ls (q.2.2.1.map (vm al)))
/-- what follows is good for every naming that agrees up to r -/
def GK (p : Program) (l : Launch) (e : Env) (R : Room) (s : State) (m : MethodId) (args : Array Value) (below : List Frame) (meth : Method) (c : Code) (Q : State → Prop) (nL r : Nat) (A : Nat → Prop) (D : va_G) (cy : Nat → ClassId) (al : Nat → Nat) (q : AS) : Prop := ∀ al' : Nat → Nat, (∀ j, j ≤ r → al' j = al j) → GA p l e R s m args below meth c Q nL r A D cy al' q
theorem wl_at (cy : Nat → ClassId) (al : Nat → Nat) {r k : Nat} {ws : List AC} {a : AC} (h : ws[k - r]? = some a) (hr : r ≤ k) : (wl cy al r ws)[k - r]? = some (al k, rl cy al k a) := by
  rw [wl_get, h, show r + (k - r) = k by omega]
  rfl
theorem wl_st (cy : Nat → ClassId) (al : Nat → Nat) {r k : Nat} (ws : List AC) (b : AC) (hr : r ≤ k) : (wl cy al r ws).set (k - r) (al k, rl cy al k b) = wl cy al r (ws.set (k - r) b) := by
  have := wl_set cy al b r ws (k - r)
  rw [show r + (k - r) = k by omega] at this
  exact this
theorem mi_aload {al : Nat → Nat} {pc n cs ss : Nat} {lv : Lv} {st : List Value} {ws : List AC} {q' : AS} {k : Fin 4} (C : CxI p l R s m args meth c cc nL on CS SS d lo A D tys cy) (hd : decode cc pc = .ok (.aload_n k, n)) (h : ai on r nL CS SS lo (.aload_n k) n (pc, lv, st, ws, cs, ss) = some q') (K : GK p l e R s m args below meth c Q nL r A D cy al q') : GA p l e R s m args below meth c Q nL r A D cy al (pc, lv, st, ws, cs, ss) := by
  obtain ⟨⟨hx, hb, hml, hown, hts, hin⟩, ⟨hnw, hK, hT, hO⟩, hA, ⟨hR1, hR2, hR3, hR4⟩, hC⟩ := C
  intro ls H locs hl hP hD hS
  simp only [ai] at h
  split at h
  · rename_i x hx9
    split at h
    · rename_i hn
      subst hn
      cases h
      have h1 := lg_at hl hx9 (fun _ q => by cases q)
      have K2 := K al (fun _ _ => rfl) ls H locs hl hP hD hS
      dsimp only at K2
      rw [List.map_cons] at K2
      by_cases hz : x = 0
      · subst hz
        exact lv_aload_nN hx hb hd rfl h1 K2
      · rw [vm_ref al hz] at h1 K2
        exact lv_aload_n hx hb hd rfl h1 K2
    · cases h
  · cases h
theorem mi_iload {al : Nat → Nat} {pc n cs ss : Nat} {lv : Lv} {st : List Value} {ws : List AC} {q' : AS} {k : Fin 4} (C : CxI p l R s m args meth c cc nL on CS SS d lo A D tys cy) (hd : decode cc pc = .ok (.iload_n k, n)) (h : ai on r nL CS SS lo (.iload_n k) n (pc, lv, st, ws, cs, ss) = some q') (K : GK p l e R s m args below meth c Q nL r A D cy al q') : GA p l e R s m args below meth c Q nL r A D cy al (pc, lv, st, ws, cs, ss) := by
  obtain ⟨⟨hx, hb, hml, hown, hts, hin⟩, ⟨hnw, hK, hT, hO⟩, hA, ⟨hR1, hR2, hR3, hR4⟩, hC⟩ := C
  intro ls H locs hl hP hD hS
  simp only [ai] at h
  split at h
  · rename_i x hx9
    split at h
    · rename_i hn
      subst hn
      cases h
      have h1 := lg_at hl hx9 (fun _ q => by cases q)
      exact lv_iload_n hx hb hd rfl h1 (K al (fun _ _ => rfl) ls H locs hl hP hD hS)
    · cases h
  · cases h
theorem mi_istore {al : Nat → Nat} {pc n cs ss : Nat} {lv : Lv} {st : List Value} {ws : List AC} {q' : AS} {k : Fin 4} (C : CxI p l R s m args meth c cc nL on CS SS d lo A D tys cy) (hd : decode cc pc = .ok (.istore_n k, n)) (h : ai on r nL CS SS lo (.istore_n k) n (pc, lv, st, ws, cs, ss) = some q') (K : GK p l e R s m args below meth c Q nL r A D cy al q') : GA p l e R s m args below meth c Q nL r A D cy al (pc, lv, st, ws, cs, ss) := by
  obtain ⟨⟨hx, hb, hml, hown, hts, hin⟩, ⟨hnw, hK, hT, hO⟩, hA, ⟨hR1, hR2, hR3, hR4⟩, hC⟩ := C
  intro ls H locs hl hP hD hS
  simp only [ai] at h
  split at h
  · rename_i x rest
    split at h
    · rename_i hn
      obtain ⟨rfl, hk⟩ := hn
      cases h
      exact lv_istore_n hx hb hd rfl hl hk (ls1_map al lv (k : Nat) (.int _)).symm (fun ls' hl' => K al (fun _ _ => rfl) ls' H locs hl' hP hD hS)
    · cases h
  · cases h
theorem mi_const {al : Nat → Nat} {pc n cs ss : Nat} {lv : Lv} {st : List Value} {ws : List AC} {q' : AS} {i : Instr} (hi : (∃ v, i = .iconst v) ∨ (∃ v, i = .bipush v) ∨ ∃ v, i = .sipush v) (C : CxI p l R s m args meth c cc nL on CS SS d lo A D tys cy) (hd : decode cc pc = .ok (i, n)) (h : ai on r nL CS SS lo i n (pc, lv, st, ws, cs, ss) = some q') (K : GK p l e R s m args below meth c Q nL r A D cy al q') : GA p l e R s m args below meth c Q nL r A D cy al (pc, lv, st, ws, cs, ss) := by
  obtain ⟨⟨hx, hb, hml, hown, hts, hin⟩, ⟨hnw, hK, hT, hO⟩, hA, ⟨hR1, hR2, hR3, hR4⟩, hC⟩ := C
  intro ls H locs hl hP hD hS
  rcases hi with ⟨v, rfl⟩ | ⟨v, rfl⟩ | ⟨v, rfl⟩
  · simp only [ai] at h
    split at h
    · rename_i hn
      subst hn
      cases h
      exact lv_iconst hx hb hd rfl (K al (fun _ _ => rfl) ls H locs hl hP hD hS)
    · cases h
  · simp only [ai] at h
    split at h
    · rename_i hn
      subst hn
      cases h
      exact lv_bipush hx hb hd rfl (K al (fun _ _ => rfl) ls H locs hl hP hD hS)
    · cases h
  · simp only [ai] at h
    split at h
    · rename_i hn
      subst hn
      cases h
      exact lv_sipush hx hb hd rfl (K al (fun _ _ => rfl) ls H locs hl hP hD hS)
    · cases h
theorem mi_dup {al : Nat → Nat} {pc n cs ss : Nat} {lv : Lv} {st : List Value} {ws : List AC} {q' : AS} (C : CxI p l R s m args meth c cc nL on CS SS d lo A D tys cy) (hd : decode cc pc = .ok (.dup, n)) (h : ai on r nL CS SS lo .dup n (pc, lv, st, ws, cs, ss) = some q') (K : GK p l e R s m args below meth c Q nL r A D cy al q') : GA p l e R s m args below meth c Q nL r A D cy al (pc, lv, st, ws, cs, ss) := by
  obtain ⟨⟨hx, hb, hml, hown, hts, hin⟩, ⟨hnw, hK, hT, hO⟩, hA, ⟨hR1, hR2, hR3, hR4⟩, hC⟩ := C
  intro ls H locs hl hP hD hS
  simp only [ai] at h
  split at h
  · rename_i x rest
    split at h
    · rename_i hn
      subst hn
      cases h
      exact lv_dup hx hb hd (vm_cat al _) (K al (fun _ _ => rfl) ls H locs hl hP hD hS)
    · cases h
  · cases h
theorem mi_idiv {al : Nat → Nat} {pc n cs ss : Nat} {lv : Lv} {st : List Value} {ws : List AC} {q' : AS} (C : CxI p l R s m args meth c cc nL on CS SS d lo A D tys cy) (hd : decode cc pc = .ok (.idiv, n)) (h : ai on r nL CS SS lo .idiv n (pc, lv, st, ws, cs, ss) = some q') (K : GK p l e R s m args below meth c Q nL r A D cy al q') : GA p l e R s m args below meth c Q nL r A D cy al (pc, lv, st, ws, cs, ss) := by
  obtain ⟨⟨hx, hb, hml, hown, hts, hin⟩, ⟨hnw, hK, hT, hO⟩, hA, ⟨hR1, hR2, hR3, hR4⟩, hC⟩ := C
  intro ls H locs hl hP hD hS
  simp only [ai] at h
  split at h
  · split at h
    · rename_i hn
      obtain ⟨rfl, hy⟩ := hn
      cases h
      exact lv_idiv hx hb hd hy (K al (fun _ _ => rfl) ls H locs hl hP hD hS)
    · cases h
  · cases h
theorem mi_iinc {al : Nat → Nat} {pc n cs ss : Nat} {lv : Lv} {st : List Value} {ws : List AC} {q' : AS} {k : Nat} {v : Int} (C : CxI p l R s m args meth c cc nL on CS SS d lo A D tys cy) (hd : decode cc pc = .ok (.iinc k v, n)) (h : ai on r nL CS SS lo (.iinc k v) n (pc, lv, st, ws, cs, ss) = some q') (K : GK p l e R s m args below meth c Q nL r A D cy al q') : GA p l e R s m args below meth c Q nL r A D cy al (pc, lv, st, ws, cs, ss) := by
  obtain ⟨⟨hx, hb, hml, hown, hts, hin⟩, ⟨hnw, hK, hT, hO⟩, hA, ⟨hR1, hR2, hR3, hR4⟩, hC⟩ := C
  intro ls H locs hl hP hD hS
  simp only [ai] at h
  split at h
  · rename_i x hx9
    split at h
    · rename_i hn
      subst hn
      cases h
      have h1 := lg_at hl hx9 (fun _ q => by cases q)
      have h2 : (k, Value.int x) ∈ lv.map (vmp al) := List.mem_map.mpr ⟨_, lg_mem hx9 (fun _ q => by cases q), rfl⟩
      obtain ⟨j, hj⟩ := List.getElem?_of_mem h2
      have hn : k < nL := by rw [← hl.1]; exact (Array.getElem?_eq_some_iff.mp h1).1
      exact lv_iinc hx hb hd hl hj rfl hn (ls1_map al lv k (.int _)).symm (fun ls' hl' => K al (fun _ _ => rfl) ls' H locs hl' hP hD hS)
    · cases h
  · cases h
theorem mi_goto {al : Nat → Nat} {pc n cs ss : Nat} {lv : Lv} {st : List Value} {ws : List AC} {q' : AS} {o : Int} (C : CxI p l R s m args meth c cc nL on CS SS d lo A D tys cy) (hd : decode cc pc = .ok (.goto o, n)) (h : ai on r nL CS SS lo (.goto o) n (pc, lv, st, ws, cs, ss) = some q') (K : GK p l e R s m args below meth c Q nL r A D cy al q') : GA p l e R s m args below meth c Q nL r A D cy al (pc, lv, st, ws, cs, ss) := by
  obtain ⟨⟨hx, hb, hml, hown, hts, hin⟩, ⟨hnw, hK, hT, hO⟩, hA, ⟨hR1, hR2, hR3, hR4⟩, hC⟩ := C
  intro ls H locs hl hP hD hS
  simp only [ai] at h
  split at h
  · rename_i hn
    obtain ⟨rfl, ho⟩ := hn
    cases h
    exact lv_goto hx hb hd (by omega) (K al (fun _ _ => rfl) ls H locs hl hP hD hS)
  · cases h
theorem mi_icmp {al : Nat → Nat} {pc n cs ss : Nat} {lv : Lv} {st : List Value} {ws : List AC} {q' : AS} {o : Int} (C : CxI p l R s m args meth c cc nL on CS SS d lo A D tys cy) (hd : decode cc pc = .ok (.if_icmp .ge o, n)) (h : ai on r nL CS SS lo (.if_icmp .ge o) n (pc, lv, st, ws, cs, ss) = some q') (K : GK p l e R s m args below meth c Q nL r A D cy al q') : GA p l e R s m args below meth c Q nL r A D cy al (pc, lv, st, ws, cs, ss) := by
  obtain ⟨⟨hx, hb, hml, hown, hts, hin⟩, ⟨hnw, hK, hT, hO⟩, hA, ⟨hR1, hR2, hR3, hR4⟩, hC⟩ := C
  intro ls H locs hl hP hD hS
  simp only [ai] at h
  split at h
  · rename_i y x rest
    split at h
    · rename_i hn
      obtain ⟨rfl, ho⟩ := hn
      cases h
      have K2 := K al (fun _ _ => rfl) ls H locs hl hP hD hS
      dsimp only at K2
      refine lv_icmp_ge (tgt := ((pc : Int) + o).toNat) hx hb hd (by omega) (fun c => ?_) (fun c => ?_)
      · rw [if_pos c] at K2
        exact K2
      · rw [if_neg c] at K2
        exact K2
    · cases h
  · cases h
theorem mi_getf {al : Nat → Nat} {pc n cs ss : Nat} {lv : Lv} {st : List Value} {ws : List AC} {q' : AS} {x : Nat} (C : CxI p l R s m args meth c cc nL on CS SS d lo A D tys cy) (hd : decode cc pc = .ok (.getfield x, n)) (h : ai on r nL CS SS lo (.getfield x) n (pc, lv, st, ws, cs, ss) = some q') (K : GK p l e R s m args below meth c Q nL r A D cy al q') : GA p l e R s m args below meth c Q nL r A D cy al (pc, lv, st, ws, cs, ss) := by
  obtain ⟨⟨hx, hb, hml, hown, hts, hin⟩, ⟨hnw, hK, hT, hO⟩, hA, ⟨hR1, hR2, hR3, hR4⟩, hC⟩ := C
  intro ls H locs hl hP hD hS
  simp only [ai] at h
  split at h
  · rename_i k rest
    split at h
    · rename_i j hf
      split at h
      · rename_i v hv
        split at h
        · rename_i hn
          obtain ⟨rfl, hrk, hk0⟩ := hn
          cases h
          obtain ⟨hw, g1, g2, g3⟩ := flt_ok (flk_in hf)
          dsimp only at hw g1 g2 g3
          have K2 := K al (fun _ _ => rfl) ls H locs hl hP hD hS
          dsimp only at K2
          rw [List.map_cons] at K2
          obtain ⟨fs, he, hfs⟩ : ∃ fs : List Value, (wl cy al r ws)[k - r]? = some (al k, .inr (kd k, fs)) ∧ fs[j]? = some (vm al v) := by
            cases ha : ws[k - r]? with
            | none => rw [ha] at hv; cases hv
            | some a =>
              rw [ha] at hv
              rcases a with _ | (fs | a)
              · have hv' : (if sl (kd k) j = 1 ∧ kd k < 13 ∧ j < nf (kd k) then some (Value.ref (rf k j)) else none) = some v := hv
                split at hv'
                · rename_i h3
                  cases hv'
                  refine ⟨(List.range (nf (kd k))).map (fv al hp0 k), ?_, ?_⟩
                  · rw [wl_at cy al ha hrk]
                    show some (al k, cel cy al hp0 k) = _
                    unfold cel
                    rw [if_pos h3.2.1]
                  · rw [List.getElem?_map, List.getElem?_range h3.2.2]
                    show some (fv al hp0 k j) = _
                    unfold fv
                    rw [if_neg (by omega), if_pos h3.1]
                · cases hv'
              · refine ⟨fs.map (vm al), wl_at cy al ha hrk, ?_⟩
                have hv' : fs[j]? = some v := hv
                rw [List.getElem?_map, hv']
                rfl
              · cases hv
          show W p l e R s m args below meth c H locs _ _ Q (F0 m pc ls ((Value.ref k :: rest).map (vm al)))
          rw [List.map_cons, vm_ref al hk0]
          rcases hw with hw | ⟨host, hw⟩
          · exact va_get (C := RN (kd k)) (T := TN (kd k)) (N := nf (kd k)) hx hb hts (uws_in g1) hown hK hP (k - r) he (tn_ok g1) j g2 (hts _ hw) (fun _ h9 => h9) hfs hd K2
          · exact va_getN (C := RN (kd k)) (T := TN (kd k)) (N := nf (kd k)) hx hb hts (uws_in g1) hown hK hP (k - r) he (tn_ok g1) j g2 (va_Nw.use rfl (hnw _ hw)) (fun _ h9 => h9) hfs hd K2
        · cases h
      · cases h
    · cases h
  · cases h
end MKR
