/-! ===== the makers: fields, arrays, objects ===== -/
theorem fld_all : FLX.all (fun x => !((TN x.1.2.2.1 x.1.2.2.2).2.2.2) || (!(decide ((TN x.1.2.2.1 x.1.2.2.2).1 = RN x.1.1)) || (match tables_1[x.2]? with
  | some (.fieldLink a i b n d) => decide (a = RN x.1.1) && decide (i = x.1.2.1) && decide (b = (TN x.1.2.2.1 x.1.2.2.2).1) && decide (n = (TN x.1.2.2.1 x.1.2.2.2).2.1) && decide (d = (TN x.1.2.2.1 x.1.2.2.2).2.2.1)
  | _ => false))) = true := by decide +kernel
theorem flt_dir {q : Nat × Nat × Nat × Nat} (h : q ∈ FLT) (hf : (TN q.2.2.1 q.2.2.2).2.2.2 = true) (ho : (TN q.2.2.1 q.2.2.2).1 = RN q.1) : Cond.fieldLink (RN q.1) q.2.1 (TN q.2.2.1 q.2.2.2).1 (TN q.2.2.1 q.2.2.2).2.1 (TN q.2.2.1 q.2.2.2).2.2.1 ∈ W0 := by
  obtain ⟨⟨q', p⟩, hm, rfl⟩ := List.mem_map.mp h
  have h1 := List.all_eq_true.mp fld_all _ hm
  dsimp only at h1 hf ho ⊢
  rw [hf, decide_eq_true ho] at h1
  have h1 : (match tables_1[p]? with
    | some (.fieldLink a i b n d) => decide (a = RN q'.1) && decide (i = q'.2.1) && decide (b = (TN q'.2.2.1 q'.2.2.2).1) && decide (n = (TN q'.2.2.1 q'.2.2.2).2.1) && decide (d = (TN q'.2.2.1 q'.2.2.2).2.2.1)
    | _ => false) = true := h1
  cases ht : tables_1[p]? with
  | none => rw [ht] at h1; cases h1
  | some w =>
    rw [ht] at h1
    have hw := tb_in ht
    cases w <;> first
      | (cases h1; done)
      | (dsimp only at h1
         simp only [Bool.and_eq_true, decide_eq_true_eq] at h1
         obtain ⟨⟨⟨⟨rfl, rfl⟩, e3⟩, e4⟩, e5⟩ := h1
         rw [← e3, ← e4, ← e5]
         exact w0_in hw rfl)
theorem obj_all : IVX.all (fun x => !(decide (x.1.2.2 = 13)) || decide (tables_1[x.2]? = some (Cond.methodLink (RN x.1.1) x.1.2.1 Lib.objectInit))) = true := by decide +kernel
theorem obj_lk {on x : Nat} (h : (on, x, 13) ∈ IVT) : Cond.methodLink (RN on) x Lib.objectInit ∈ W0 := by
  obtain ⟨⟨q', p⟩, hm, e⟩ := List.mem_map.mp h
  have h1 := List.all_eq_true.mp obj_all _ hm
  dsimp only at h1 e
  subst e
  have h2 : tables_1[p]? = some (Cond.methodLink (RN on) x Lib.objectInit) := by
    have : (decide (tables_1[p]? = some (Cond.methodLink (RN on) x Lib.objectInit))) = true := h1
    exact of_decide_eq_true this
  exact w0_in (tb_in h2) rfl
theorem okT_ty {d : String} {v : Value} (h : okT d v = true) (al : Nat → Nat) : ∃ ty, parseFieldDescriptor d = some ty ∧ narrow ty (vm al v) = vm al v ∧ fits ty (vm al v) = true := by
  cases v with
  | int x =>
    have h' : (decide (d = "I") || (decide (d = "Z") && (decide (x = 0) || decide (x = 1)))) = true := h
    rw [Bool.or_eq_true, Bool.and_eq_true, Bool.or_eq_true, decide_eq_true_eq, decide_eq_true_eq, decide_eq_true_eq, decide_eq_true_eq] at h'
    rcases h' with rfl | ⟨rfl, rfl | rfl⟩
    · exact ⟨.int, rfl, rfl, rfl⟩
    · exact ⟨.boolean, rfl, rfl, rfl⟩
    · exact ⟨.boolean, rfl, rfl, rfl⟩
  | ref k =>
    have key : ∀ ty, (∀ a, narrow ty (.ref a) = .ref a ∧ fits ty (.ref a) = true) → narrow ty .null = .null ∧ fits ty .null = true → narrow ty (vm al (.ref k)) = vm al (.ref k) ∧ fits ty (vm al (.ref k)) = true := by
      intro ty h1 h2
      by_cases c : k = 0
      · subst c
        exact h2
      · rw [vm_ref al c]
        exact h1 _
    unfold okT at h
    dsimp only at h
    cases hp : parseFieldDescriptor d with
    | none => rw [hp] at h; cases h
    | some ty =>
      rw [hp] at h
      cases ty with
      | object n => exact ⟨_, rfl, key _ (fun a => ⟨rfl, rfl⟩) ⟨rfl, rfl⟩⟩
      | array t => exact ⟨_, rfl, key _ (fun a => ⟨rfl, rfl⟩) ⟨rfl, rfl⟩⟩
      | _ => cases h
  | _ => cases h
theorem dfv_vm (al al' : Nat → Nat) (d : String) : vm al (dfv d) = vm al' (dfv d) := by
  unfold dfv
  by_cases c : d = "I" ∨ d = "Z"
  · rw [if_pos c]
    rfl
  · rw [if_neg c]
    by_cases c2 : d = "J"
    · rw [if_pos c2]
      rfl
    · rw [if_neg c2]
      rfl
theorem dfl_vm (al al' : Nat → Nat) (c : Nat) : (dfl c).map (vm al) = (dfl c).map (vm al') := by
  unfold dfl
  rw [List.map_map, List.map_map]
  exact List.map_congr_left (fun j _ => dfv_vm al al' _)
theorem dfl_d : ∀ c, c < 13 → ∀ j, j < nf c → defaultValue (tyN c j) = vp_V ((dfl c).map (vm (fun _ => 0))) j := by decide +kernel
theorem tyA_o : ∀ t, 3 ≤ t → t < 7 → tyA t = .object (tyC t) := by
  intro t h1 h2
  rcases (by omega : t = 3 ∨ t = 4 ∨ t = 5 ∨ t = 6) with rfl | rfl | rfl | rfl <;> rfl
theorem va_up_lt (al : Nat → Nat) {n j : Nat} (q : Nat) (h : j < n) : va_up al n q j = al j := va_up_ne al q (by omega)
theorem wl_push {cy : Nat → ClassId} {al : Nat → Nat} {r n q : Nat} {ws : List AC} {b : AC} {e : va_E} (hn : n = r + ws.length) (h1 : 1 ≤ ws.length) (hw : swl n r ws = true) (he : rl cy (va_up al n q) n b = e) : wl cy (va_up al n q) r (ws ++ [b]) = wl cy al r ws ++ [(q, e)] := by
  rw [wl_app, wl_cg (n := n) (by omega) (fun j hj => va_up_lt al q hj) r ws hw (by omega), ← hn]
  show wl cy al r ws ++ [(va_up al n q n, rl cy (va_up al n q) n b)] = _
  rw [he, va_up_self]
theorem vmps_cg {al al' : Nat → Nat} {n : Nat} (h : ∀ k, k < n → al' k = al k) {L : Lv} (hv : L.all (fun z => svl n z.2) = true) : L.map (vmp al') = L.map (vmp al) := List.map_congr_left (fun z hm => by
  have := List.all_eq_true.mp hv z hm
  unfold vmp
  rw [vm_cg h this])
theorem qel_z (al : Nat → Nat) (n : Nat) : qel al (List.replicate n 0) = fun _ => none := by
  funext j
  unfold qel
  rw [if_pos]
  rw [List.getD_eq_getElem?_getD]
  cases e : (List.replicate n 0)[j]? with
  | none => rfl
  | some x =>
    have := List.mem_of_getElem? e
    exact (List.mem_replicate.mp this).2
theorem qel_s (al : Nat → Nat) {es : List Nat} {i v : Nat} (hi : i < es.length) (hv : v ≠ 0) : qel al (es.set i v) = va_up (qel al es) i (some (al v)) := by
  funext j
  unfold qel va_up
  by_cases c : j = i
  · subst c
    rw [if_pos rfl, List.getD_eq_getElem?_getD, List.getElem?_set_self hi]
    show (if v = 0 then none else some (al v)) = _
    rw [if_neg hv]
  · rw [if_neg c, List.getD_eq_getElem?_getD, List.getElem?_set_ne (fun e => c e.symm), ← List.getD_eq_getElem?_getD]
section MKR
variable {p : Program} {l : Launch} {e : Env} {R : Room} {s : State} {m : MethodId} {args : Array Value} {below : List Frame} {meth : Method} {c : Code} {Q : State → Prop}
variable {cc : ByteArray} {nL on r CS SS d : Nat} {lo : List Nat} {A : Nat → Prop} {D : va_G} {tys : List (ClassId × FieldType)} {cy : Nat → ClassId}
theorem mi_putf {al : Nat → Nat} {pc n cs ss : Nat} {lv : Lv} {st : List Value} {ws : List AC} {q' : AS} {x : Nat} (C : CxI p l R s m args meth c cc nL on CS SS d lo A D tys cy) (hd : decode cc pc = .ok (.putfield x, n)) (h : ai on r nL CS SS lo (.putfield x) n (pc, lv, st, ws, cs, ss) = some q') (K : GK p l e R s m args below meth c Q nL r A D cy al q') : GA p l e R s m args below meth c Q nL r A D cy al (pc, lv, st, ws, cs, ss) := by
  obtain ⟨⟨hx, hb, hml, hown, hts, hin⟩, ⟨hnw, hK, hT, hO⟩, hA, ⟨hR1, hR2, hR3, hR4⟩, hC⟩ := C
  intro ls H locs hl hP hD hS
  simp only [ai] at h
  split at h
  · rename_i v k rest
    split at h
    · rename_i j hf
      split at h
      · rename_i fs ha
        split at h
        · rename_i hn
          obtain ⟨rfl, hrk, hk0, hj, hT2, hfi⟩ := hn
          cases h
          obtain ⟨hw, g1, g2, g3⟩ := flt_ok (flk_in hf)
          dsimp only at hw g1 g2 g3
          obtain ⟨ty, t1, t2, t3⟩ := okT_ty hT2 al
          have he := wl_at cy al ha hrk
          have hset : (wl cy al r ws).set (k - r) (al k, .inr (kd k, (fs.map (vm al)).set j (vm al v))) = wl cy al r (ws.set (k - r) (some (.inl (fs.set j v)))) := by
            rw [← wl_st cy al ws _ hrk]
            show _ = (wl cy al r ws).set (k - r) (al k, .inr (kd k, (fs.set j v).map (vm al)))
            rw [List.map_set]
          show W p l e R s m args below meth c H locs _ _ Q (F0 m pc ls ((v :: Value.ref k :: rest).map (vm al)))
          rw [List.map_cons, List.map_cons, vm_ref al hk0]
          have kk : ∀ (H1 : Heap) (locs1 : List Loc), va_P D vwCl ((wl cy al r ws).set (k - r) (al k, .inr (kd k, (fs.map (vm al)).set j (vm al v)))) H1 → va_D A ((wl cy al r ws).set (k - r) (al k, .inr (kd k, (fs.map (vm al)).set j (vm al v)))) → va_S A s.heap H1 locs1 → W p l e R s m args below meth c H1 locs1 cs ss Q (F0 m (pc + 3) ls (rest.map (vm al))) := fun H1 locs1 hP1 hD1 hS1 => by
            rw [hset] at hP1 hD1
            exact K al (fun _ _ => rfl) ls H1 locs1 hl hP1 hD1 hS1
          cases hfin : (TN (kd k) j).2.2.2
          · rcases hw with hw | ⟨host, hw⟩
            · exact va_put (ci := kd k) (v := vm al v) (ty := ty) (C := RN (kd k)) (T := TN (kd k)) (N := nf (kd k)) hx hb hts (uws_in g1) (tyN (kd k)) (tyn_ok g1) (nmn_ok g1) hown hK hP hD hS (k - r) he (tn_ok g1) j g2 (hts _ hw) (fun _ h9 => h9) hfin t1 t2 t3 (by simpa using hj) hd kk
            · exact va_putN (ci := kd k) (v := vm al v) (ty := ty) (C := RN (kd k)) (T := TN (kd k)) (N := nf (kd k)) hx hb hts (uws_in g1) (tyN (kd k)) (tyn_ok g1) (nmn_ok g1) hown hK hP hD hS (k - r) he (tn_ok g1) j g2 (va_Nw.use rfl (hnw _ hw)) (fun _ h9 => h9) hfin t1 t2 t3 (by simpa using hj) hd kk
          · have ho := hfi hfin
            have hw2 := flt_dir (flk_in hf) hfin ho
            exact va_putF (ci := kd k) (v := vm al v) (ty := ty) (C := RN (kd k)) (T := TN (kd k)) (N := nf (kd k)) hx hb hts (uws_in g1) (tyN (kd k)) (tyn_ok g1) (nmn_ok g1) hown hK hP hD hS (k - r) he (tn_ok g1) j g2 (hts _ hw2) (fun _ h9 => h9) hfin hin ho t1 t2 t3 (by simpa using hj) hd kk
        · cases h
      · cases h
    · cases h
  · cases h
theorem mi_newa {al : Nat → Nat} {pc n cs ss : Nat} {lv : Lv} {st : List Value} {ws : List AC} {q' : AS} {t : ArrayType} (C : CxI p l R s m args meth c cc nL on CS SS d lo A D tys cy) (hd : decode cc pc = .ok (.newarray t, n)) (h : ai on r nL CS SS lo (.newarray t) n (pc, lv, st, ws, cs, ss) = some q') (K : GK p l e R s m args below meth c Q nL r A D cy al q') : GA p l e R s m args below meth c Q nL r A D cy al (pc, lv, st, ws, cs, ss) := by
  obtain ⟨⟨hx, hb, hml, hown, hts, hin⟩, ⟨hnw, hK, hT, hO⟩, hA, ⟨hR1, hR2, hR3, hR4⟩, hC⟩ := C
  intro ls H locs hl hP hD hS
  simp only [ai] at h
  split at h
  · rename_i x rest
    split at h
    · rename_i hn
      obtain ⟨rfl, h1, hk20, hk23, hty, rfl, hln, hcs, hss, hw, hst, hlv⟩ := hn
      cases h
      obtain ⟨k, ek⟩ : ∃ k, k = r + ws.length := ⟨_, rfl⟩
      rw [← ek] at hk20 hk23 hty hln hss hw hst hlv
      have hT0 := hT (kd k - 20) (by omega)
      rw [show 20 + (kd k - 20) = kd k by omega] at hT0
      have t3 : kd k - 20 = 0 ∨ kd k - 20 = 1 ∨ kd k - 20 = 2 := by omega
      have harr : (Cond.arrayClass (newarray.typeOf t)).before args s = true := by
        rw [hty]
        rcases t3 with e | e | e <;> rw [e]
        · exact hts _ w_arr.1
        · exact hts _ w_arr.2.1
        · exact hts _ w_arr.2.2
      have hdv : defaultValue (tyA (kd k - 20)) = .int 0 := by
        rcases t3 with e | e | e <;> rw [e] <;> rfl
      have hcb : componentBytes (tyA (kd k - 20)) ≤ 4 := by
        rcases t3 with e | e | e <;> rw [e] <;> decide
      have hag : ∀ q j, j < k → va_up al k q j = al j := fun q j hj => va_up_lt al q hj
      show W p l e R s m args below meth c H locs _ _ Q (F0 m pc ls ((Value.int (Int32.ofNat (ln (r + ws.length))) :: rest).map (vm al)))
      rw [List.map_cons, ← ek]
      refine va_newa (ty := tyA (kd k - 20)) (N' := ln k) (a0 := (ln k, .inl (lkp []))) hx hb harr hty hK hP hD hS hA (fun cA => ?_) (nI_pos (n := ln k) (by omega)) (nI_clamp (n := ln k) (by omega)) ?_ (Nat.le_trans hcs hR3) (Nat.le_trans hss hR4) hd (fun q cA H1 hK1 hP1 hD1 hS1 => ?_)
      · rw [hdv]
        rfl
      · exact Nat.le_trans (Nat.mul_le_mul_left _ hcb) (by omega)
      have e1 := (hK1.2 tys.length (cA, tyA (kd k - 20)) (by rw [List.getElem?_append_right (Nat.le_refl _), Nat.sub_self]; rfl)).2
      have e2 := (hK.2 _ _ hT0).2
      have ec : cA = cy (kd k) := by
        rcases t3 with e | e | e
        · rw [e] at e1 e2
          exact Option.some.inj (e1.symm.trans e2)
        · rw [e] at e1 e2
          exact Option.some.inj (e1.symm.trans e2)
        · rw [e] at e1 e2
          exact Option.some.inj (e1.symm.trans e2)
      subst ec
      have hpu := wl_push (cy := cy) (al := al) (q := q) (b := some (.inr (.inl []))) ek h1 hw rfl
      have K2 := K (va_up al k q) (fun j hj => hag q j (by omega)) ls H1 locs
      dsimp only at K2
      rw [← ek, vmps_cg (hag q) hlv, hpu, List.map_cons, vms_cg (hag q) hst, vm_ref _ (show k ≠ 0 by omega), va_up_self] at K2
      exact K2 hl hP1 hD1 hS1
    · cases h
  · cases h
theorem mi_anew {al : Nat → Nat} {pc n cs ss : Nat} {lv : Lv} {st : List Value} {ws : List AC} {q' : AS} {x : Nat} (C : CxI p l R s m args meth c cc nL on CS SS d lo A D tys cy) (hd : decode cc pc = .ok (.anewarray x, n)) (h : ai on r nL CS SS lo (.anewarray x) n (pc, lv, st, ws, cs, ss) = some q') (K : GK p l e R s m args below meth c Q nL r A D cy al q') : GA p l e R s m args below meth c Q nL r A D cy al (pc, lv, st, ws, cs, ss) := by
  obtain ⟨⟨hx, hb, hml, hown, hts, hin⟩, ⟨hnw, hK, hT, hO⟩, hA, ⟨hR1, hR2, hR3, hR4⟩, hC⟩ := C
  intro ls H locs hl hP hD hS
  simp only [ai] at h
  split at h
  · rename_i y rest
    split at h
    · rename_i hn
      obtain ⟨rfl, h1, hk23, hk27, hcl, rfl, hln, hcs, hss, hw, hst, hlv⟩ := hn
      cases h
      obtain ⟨k, ek⟩ : ∃ k, k = r + ws.length := ⟨_, rfl⟩
      rw [← ek] at hk23 hk27 hcl hln hss hw hst hlv
      have hT0 := hT (kd k - 20) (by omega)
      rw [show 20 + (kd k - 20) = kd k by omega, tyA_o _ (by omega) (by omega)] at hT0
      have hO0 := hO (kd k - 23) (by omega)
      rw [show 3 + (kd k - 23) = kd k - 20 by omega] at hO0
      obtain ⟨⟨z1, z2, z3⟩, hz, hze⟩ := List.any_eq_true.mp hcl
      simp only [Bool.and_eq_true, decide_eq_true_eq] at hze
      obtain ⟨rfl, rfl, hzn⟩ := hze
      have hlk := clt_ok hz
      dsimp only at hlk
      rw [hzn] at hlk
      have hag : ∀ q j, j < k → va_up al k q j = al j := fun q j hj => va_up_lt al q hj
      show W p l e R s m args below meth c H locs _ _ Q (F0 m pc ls ((Value.int (Int32.ofNat (ln (r + ws.length))) :: rest).map (vm al)))
      rw [List.map_cons, ← ek]
      refine va_newq (N' := ln k) hx hb hown (hts _ hlk) hO0 hK hP hD hS hA (nI_pos (n := ln k) (by omega)) (nI_clamp (n := ln k) (by omega)) (by omega) (Nat.le_trans hcs hR3) (Nat.le_trans hss hR4) hd (fun q cA H1 hK1 hP1 hD1 hS1 => ?_)
      obtain ⟨-, -, -, -, -, e1⟩ := (hK1.2 tys.length (cA, .object (tyC (kd k - 20))) (by rw [List.getElem?_append_right (Nat.le_refl _), Nat.sub_self]; rfl)).2
      obtain ⟨-, -, -, -, -, e2⟩ := (hK.2 _ _ hT0).2
      have ec : cA = cy (kd k) := Option.some.inj (e1.symm.trans e2)
      subst ec
      have hpu := wl_push (cy := cy) (al := al) (q := q) (b := some (.inr (.inr (List.replicate (ln k) 0)))) (e := .inl (cy (kd k), ln k, .inr (.inr (.inr (.inr (fun _ => none)))))) ek h1 hw (by
        show Sum.inl (cy (kd k), ln k, Sum.inr (Sum.inr (Sum.inr (Sum.inr (qel (va_up al k q) (List.replicate (ln k) 0)))))) = _
        rw [qel_z])
      have K2 := K (va_up al k q) (fun j hj => hag q j (by omega)) ls H1 locs
      dsimp only at K2
      rw [← ek, vmps_cg (hag q) hlv, hpu, List.map_cons, vms_cg (hag q) hst, vm_ref _ (show k ≠ 0 by omega), va_up_self] at K2
      exact K2 hl hP1 hD1 hS1
    · cases h
  · cases h
theorem mi_new {al : Nat → Nat} {pc n cs ss : Nat} {lv : Lv} {st : List Value} {ws : List AC} {q' : AS} {x : Nat} (C : CxI p l R s m args meth c cc nL on CS SS d lo A D tys cy) (hd : decode cc pc = .ok (.new x, n)) (h : ai on r nL CS SS lo (.new x) n (pc, lv, st, ws, cs, ss) = some q') (K : GK p l e R s m args below meth c Q nL r A D cy al q') : GA p l e R s m args below meth c Q nL r A D cy al (pc, lv, st, ws, cs, ss) := by
  obtain ⟨⟨hx, hb, hml, hown, hts, hin⟩, ⟨hnw, hK, hT, hO⟩, hA, ⟨hR1, hR2, hR3, hR4⟩, hC⟩ := C
  intro ls H locs hl hP hD hS
  simp only [ai] at h
  split at h
  · rename_i hn
    obtain ⟨rfl, h1, hk13, hcl, hcs, hss, hw, hst, hlv⟩ := hn
    cases h
    obtain ⟨k, ek⟩ : ∃ k, k = r + ws.length := ⟨_, rfl⟩
    rw [← ek] at hk13 hcl hss hw hst hlv
    obtain ⟨⟨z1, z2, z3⟩, hz, hze⟩ := List.any_eq_true.mp hcl
    simp only [Bool.and_eq_true, decide_eq_true_eq] at hze
    obtain ⟨rfl, rfl, hzn⟩ := hze
    have hlk := clt_ok hz
    dsimp only at hlk
    rw [hzn] at hlk
    obtain ⟨i1, i2, i3, i4⟩ := iw_ok hk13
    have hag : ∀ q j, j < k → va_up al k q j = al j := fun q j hj => va_up_lt al q hj
    refine va_new (ci := kd k) (fs := (dfl (kd k)).map (vm al)) (C := RN (kd k)) (T := TN (kd k)) (N := nf (kd k)) hx hb hts (uws_in hk13) (tyN (kd k)) (tyn_ok hk13) hown (hts _ hlk) (hts _ i1) (hts _ i2) hK hP hD hS hA (tn_ok hk13) (fun j hj => ?_) (Nat.le_trans hcs hR3) (Nat.le_trans hss hR4) hd (fun q H1 hP1 hD1 hS1 => ?_)
    · rw [dfl_vm al (fun _ => 0)]
      exact dfl_d _ hk13 j hj
    have hpu := wl_push (cy := cy) (al := al) (q := q) (b := some (.inl (dfl (kd k)))) (e := .inr (kd k, (dfl (kd k)).map (vm al))) ek h1 hw (by
      show Sum.inr (kd k, (dfl (kd k)).map (vm (va_up al k q))) = _
      rw [dfl_vm _ al])
    have K2 := K (va_up al k q) (fun j hj => hag q j (by omega)) ls H1 locs
    dsimp only at K2
    rw [← ek, vmps_cg (hag q) hlv, hpu, List.map_cons, vms_cg (hag q) hst, vm_ref _ (show k ≠ 0 by omega), va_up_self] at K2
    exact K2 hl hP1 hD1 hS1
  · cases h
theorem mi_alen {al : Nat → Nat} {pc n cs ss : Nat} {lv : Lv} {st : List Value} {ws : List AC} {q' : AS} (C : CxI p l R s m args meth c cc nL on CS SS d lo A D tys cy) (hd : decode cc pc = .ok (.arraylength, n)) (h : ai on r nL CS SS lo .arraylength n (pc, lv, st, ws, cs, ss) = some q') (K : GK p l e R s m args below meth c Q nL r A D cy al q') : GA p l e R s m args below meth c Q nL r A D cy al (pc, lv, st, ws, cs, ss) := by
  obtain ⟨⟨hx, hb, hml, hown, hts, hin⟩, ⟨hnw, hK, hT, hO⟩, hA, ⟨hR1, hR2, hR3, hR4⟩, hC⟩ := C
  intro ls H locs hl hP hD hS
  simp only [ai] at h
  split at h
  · rename_i k rest
    split at h
    · rename_i es ha
      split at h
      · rename_i hn
        obtain ⟨rfl, hrk, hk0, hk20, hk27⟩ := hn
        cases h
        have he := wl_at cy al ha hrk
        have hT0 := hT (kd k - 20) (by omega)
        rw [show 20 + (kd k - 20) = kd k by omega] at hT0
        show W p l e R s m args below meth c H locs _ _ Q (F0 m pc ls ((Value.ref k :: rest).map (vm al)))
        rw [List.map_cons, vm_ref al hk0]
        exact va_alen hx hb hK hP (k - r) (kd k - 20) he hT0 rfl hd (K al (fun _ _ => rfl) ls H locs hl hP hD hS)
      · cases h
    · cases h
  · cases h
theorem mi_aast {al : Nat → Nat} {pc n cs ss : Nat} {lv : Lv} {st : List Value} {ws : List AC} {q' : AS} (C : CxI p l R s m args meth c cc nL on CS SS d lo A D tys cy) (hd : decode cc pc = .ok (.aastore, n)) (h : ai on r nL CS SS lo .aastore n (pc, lv, st, ws, cs, ss) = some q') (K : GK p l e R s m args below meth c Q nL r A D cy al q') : GA p l e R s m args below meth c Q nL r A D cy al (pc, lv, st, ws, cs, ss) := by
  obtain ⟨⟨hx, hb, hml, hown, hts, hin⟩, ⟨hnw, hK, hT, hO⟩, hA, ⟨hR1, hR2, hR3, hR4⟩, hC⟩ := C
  intro ls H locs hl hP hD hS
  simp only [ai] at h
  split at h
  · rename_i v i a rest
    split at h
    · rename_i es ha
      split at h
      · rename_i hn
        obtain ⟨rfl, hra, ha0, hk23, hk27, hrv, hv0, hvl, hfi, hv13, hcn, hin9, hel⟩ := hn
        cases h
        have he := wl_at cy al ha hra
        have hv := wl_at cy al (isFi_e hfi) hrv
        have hv2 : rl cy al v none = .inr (kd v, (List.range (nf (kd v))).map (fv al hp0 v)) := by
          show cel cy al hp0 v = _
          unfold cel
          rw [if_pos hv13]
        rw [hv2] at hv
        have hT0 := hT (kd a - 20) (by omega)
        rw [show 20 + (kd a - 20) = kd a by omega, tyA_o _ (by omega) (by omega), ← hcn] at hT0
        have hil : i.toNatClampNeg < es.length := by
          rw [hel]
          rcases Nat.lt_or_ge i.toNatClampNeg (ln a) with c | c
          · exact c
          · exact absurd (Or.inr c) hin9
        show W p l e R s m args below meth c H locs _ _ Q (F0 m pc ls ((Value.ref v :: Value.int i :: Value.ref a :: rest).map (vm al)))
        rw [List.map_cons, List.map_cons, List.map_cons, vm_ref al hv0, vm_ref al ha0]
        refine va_astq (r := (RN (kd v), TN (kd v), nf (kd v))) hx hb hK hP hD hS (a - r) (kd a - 20) (v - r) (kd v) he hT0 hv (tn_ok hv13) hin9 hd (fun H1 locs1 hP1 hD1 hS1 => ?_)
        rw [← qel_s al hil hv0] at hP1 hD1
        have hset := wl_st cy al ws (some (.inr (.inr (es.set i.toNatClampNeg v)))) hra
        have hset' : (wl cy al r ws).set (a - r) (al a, .inl (cy (kd a), ln a, .inr (.inr (.inr (.inr (qel al (es.set i.toNatClampNeg v))))))) = wl cy al r (ws.set (a - r) (some (.inr (.inr (es.set i.toNatClampNeg v))))) := hset
        rw [hset'] at hP1 hD1
        exact K al (fun _ _ => rfl) ls H1 locs1 hl hP1 hD1 hS1
      · cases h
    · cases h
  · cases h
theorem mi_iast {al : Nat → Nat} {pc n cs ss : Nat} {lv : Lv} {st : List Value} {ws : List AC} {q' : AS} (C : CxI p l R s m args meth c cc nL on CS SS d lo A D tys cy) (hd : decode cc pc = .ok (.iastore, n)) (h : ai on r nL CS SS lo .iastore n (pc, lv, st, ws, cs, ss) = some q') (K : GK p l e R s m args below meth c Q nL r A D cy al q') : GA p l e R s m args below meth c Q nL r A D cy al (pc, lv, st, ws, cs, ss) := by
  obtain ⟨⟨hx, hb, hml, hown, hts, hin⟩, ⟨hnw, hK, hT, hO⟩, hA, ⟨hR1, hR2, hR3, hR4⟩, hC⟩ := C
  intro ls H locs hl hP hD hS
  simp only [ai] at h
  split at h
  · rename_i x i a rest
    split at h
    · rename_i u ha
      split at h
      · rename_i hn
        obtain ⟨rfl, hra, ha0, hk20, hin9⟩ := hn
        cases h
        have he := wl_at cy al ha hra
        have he' : (wl cy al r ws)[a - r]? = some (al a, .inl (cy 20, ln a, .inl (lkp u))) := by
          rw [he]
          show some (al a, Sum.inl (cy (kd a), ln a, Sum.inl (lkp u))) = _
          rw [hk20]
        have eu : upd (lkp u) i.toNatClampNeg x = lkp ((i.toNatClampNeg, x) :: u) := by
          funext j
          show (if j = i.toNatClampNeg then x else lkp u j) = if i.toNatClampNeg = j then x else lkp u j
          by_cases c : j = i.toNatClampNeg
          · rw [if_pos c, if_pos c.symm]
          · rw [if_neg c, if_neg (fun e => c e.symm)]
        have hset := wl_st cy al ws (some (.inr (.inl ((i.toNatClampNeg, x) :: u)))) hra
        have hset' : (wl cy al r ws).set (a - r) (al a, .inl (cy 20, ln a, .inl (lkp ((i.toNatClampNeg, x) :: u)))) = wl cy al r (ws.set (a - r) (some (.inr (.inl ((i.toNatClampNeg, x) :: u))))) := by
          rw [← hset]
          show _ = (wl cy al r ws).set (a - r) (al a, Sum.inl (cy (kd a), ln a, Sum.inl (lkp ((i.toNatClampNeg, x) :: u))))
          rw [hk20]
        show W p l e R s m args below meth c H locs _ _ Q (F0 m pc ls ((Value.int x :: Value.int i :: Value.ref a :: rest).map (vm al)))
        rw [List.map_cons, List.map_cons, List.map_cons, vm_ref al ha0]
        refine va_iast hx hb hK hP hD hS (a - r) 0 he' (hT 0 (by omega)) hin9 hd (fun H1 locs1 hP1 hD1 hS1 => ?_)
        rw [eu, hset'] at hP1 hD1
        exact K al (fun _ _ => rfl) ls H1 locs1 hl hP1 hD1 hS1
      · cases h
    · cases h
  · cases h
end MKR
