/-! ===== the makers: calls ===== -/
theorem good0 (w0 : Cond) (h0 : w0 ∈ W0) : GoodIn W0 (w0 :: W0) := fun w hw => by
  have hw0 : w ∈ W0 := by
    rcases List.mem_cons.mp hw with rfl | q
    · exact h0
    · exact q
  exact ⟨hw0, good_of_word (List.mem_filter.mp hw0).2⟩
theorem ym_all : ∀ c, c < 13 → (ymI c).cls = RN c ∧ (ymI c).cls ≠ "java/lang/invoke/MethodHandle" ∧ (ymI c).cls ≠ "java/lang/invoke/VarHandle" ∧ (parseMethodDescriptor (ymI c).desc).map (fun d => d.parameters.length) = some (arI c) ∧ (ymI c).name = "<init>" ∧ mlI c ≤ 2 ∧ plainName (ymI c).cls = true := by decide +kernel
theorem k_lim : Cond.code yX11_limitOf cX11_limitOf 1 (some .int) ∈ W0 := mk_K_limitOf.1.1.1
theorem lk_lim : Lk 9 42 yX11_limitOf := Or.inr ⟨"GrainInn", nw_in (tb1_in (i := 95) (by decide +kernel)) rfl⟩
theorem d_lim_0 : decode cX11_limitOf 0 = .ok (.iload_n 0, 1) := by decide +kernel
theorem d_lim_1 : decode cX11_limitOf 1 = .ok (.lookupswitch 33 #[(1, 27), (2, 30)], 27) := by decide +kernel
theorem d_lim_28 : decode cX11_limitOf 28 = .ok (.bipush 40, 2) := by decide +kernel
theorem d_lim_30 : decode cX11_limitOf 30 = .ok (.ireturn, 1) := by decide +kernel
theorem d_lim_31 : decode cX11_limitOf 31 = .ok (.bipush 10, 2) := by decide +kernel
theorem d_lim_33 : decode cX11_limitOf 33 = .ok (.ireturn, 1) := by decide +kernel
theorem d_lim_34 : decode cX11_limitOf 34 = .ok (.bipush 7, 2) := by decide +kernel
theorem d_lim_36 : decode cX11_limitOf 36 = .ok (.ireturn, 1) := by decide +kernel
theorem lim_at (x : Int32) : (1 : Int) + Op.lookupswitch.offset [(1, 27), (2, 30)] 33 x.toInt = ((if x = 1 then 28 else if x = 2 then 31 else 34 : Nat) : Int) := by
  exact lkf_ok [(1, 27), (2, 30)] [(1, 28), (2, 31)] 1 34 33 x (by decide) (by decide) (by decide)
theorem c_lim (l : Launch) (x : Int32) : Met l yX11_limitOf (.code yX11_limitOf cX11_limitOf 1 (some .int) :: W0) (rmi 0 0 0) (va_Pc [.int x] (fun _ => True)) (va_Qi (fun r (_ : Unit) => r = lim x) (fun _ _ => True) (fun _ => False)) 0 0 (fun _ => False) := by
  refine Met.ofW (cc := cX11_limitOf) (maxL := 1) (ret := some .int) (by decide) rfl ?_
  intro p e s m args below meth c s₁ B hml hv
  obtain ⟨rfl, -⟩ := hv
  have hx := B.exec
  have hb := B.bytes
  rw [lg_entry_eq]
  have hl := lv_entry [Value.int x] (n := 1) (Nat.le_refl _)
  have h0 := hl.2.2 (0, .int x) List.mem_cons_self
  refine lv_iload_n hx hb d_lim_0 rfl h0 ?_
  have fin : ∀ (pc : Nat) (v : Int) (w : Int32) (ls : Array Slot), decode cX11_limitOf pc = .ok (.bipush v, 2) → decode cX11_limitOf (pc + 2) = .ok (.ireturn, 1) → (Int8.ofInt v).toInt32 = w → w = lim x → W p l e (headSpec (.code yX11_limitOf cX11_limitOf 1 (some .int) :: W0) (rmi 0 0 0)).room s m [Value.int x].toArray below meth c s.heap [] 0 0 (MQ below (va_Qi (fun r (_ : Unit) => r = lim x) (fun _ _ => True) (fun _ => False)) [Value.int x].toArray s 0 0 (fun _ => False)) (F0 m pc ls []) := by
    intro pc v w ls h1 h2 h3 h4
    refine lv_bipush hx hb h1 h3 ?_
    exact W.iret hx hb B.returns (fun t ht _ => ⟨⟨w, (), rfl, h4, trivial⟩, va_S.F va_S.rf ht⟩) (fun q hq => by cases hq) h2 B.notSynchronized
  refine lv_lookup hx hb d_lim_1 (by decide) rfl (lim_at x) ?_
  unfold lim at fin
  by_cases c1 : x = 1
  · rw [if_pos c1]
    exact fin 28 40 40 _ d_lim_28 d_lim_30 rfl (by rw [if_pos c1])
  · rw [if_neg c1]
    by_cases c2 : x = 2
    · rw [if_pos c2]
      exact fin 31 10 10 _ d_lim_31 d_lim_33 rfl (by rw [if_neg c1, if_pos c2])
    · rw [if_neg c2]
      exact fin 34 7 7 _ d_lim_34 d_lim_36 rfl (by rw [if_neg c1, if_neg c2])
theorem preI_blind {D : va_G} {tys : List (ClassId × FieldType)} {cy : Nat → ClassId} {al : Nat → Nat} {c r n0 : Nat} (as : List Value) : FrameBlind (va_Pc as (preI D tys cy al c r n0)) := by
  intro a U g mk q
  obtain ⟨q0, q1, qP, qK⟩ := q
  exact ⟨q0, q1, qP, KxA.same (s := U) (U := U.calling g mk a) qK rfl⟩
/-- what a call of a constructor wants of the caller -/
def CxC (p : Program) (l : Launch) (R : Room) (s : State) (m : MethodId) (args : Array Value) (c : Code) (cc : ByteArray) (nL on CS SS d : Nat) (lo : List Nat) (A : Nat → Prop) (D : va_G) (tys : List (ClassId × FieldType)) (cy : Nat → ClassId) : Prop :=
  (p.tables.exec = Jvm.exec ∧ c.code = cc ∧ c.maxLocals = nL ∧ s.vm.findClass (RN on) = some m.cls ∧ (∀ w ∈ W0, w.before args s = true)) ∧ KxA D tys cy s ∧ (∀ q, s.heap.size ≤ q → A q) ∧ (d + 2 ≤ R.frames ∧ 300 + 100 * d ≤ R.locals ∧ CS ≤ R.cells ∧ SS ≤ R.slots) ∧ ∀ cl ∈ lo, cl < 13 ∧ ∀ k as, okA cl k as = true → kd k = cl → CtP l D tys cy d cl k (szI cl) (szI cl - 1) (slI cl k) as
section MKR
variable {p : Program} {l : Launch} {e : Env} {R : Room} {s : State} {m : MethodId} {args : Array Value} {below : List Frame} {meth : Method} {c : Code} {Q : State → Prop}
variable {cc : ByteArray} {nL on r CS SS d : Nat} {lo : List Nat} {A : Nat → Prop} {D : va_G} {tys : List (ClassId × FieldType)} {cy : Nat → ClassId}
theorem mi_stat {al : Nat → Nat} {pc n cs ss : Nat} {lv : Lv} {st : List Value} {ws : List AC} {q' : AS} {x : Nat} (C : CxI p l R s m args meth c cc nL on CS SS d lo A D tys cy) (hd : decode cc pc = .ok (.invokestatic x, n)) (h : ai on r nL CS SS lo (.invokestatic x) n (pc, lv, st, ws, cs, ss) = some q') (K : GK p l e R s m args below meth c Q nL r A D cy al q') : GA p l e R s m args below meth c Q nL r A D cy al (pc, lv, st, ws, cs, ss) := by
  obtain ⟨⟨hx, hb, hml, hown, hts, hin⟩, ⟨hnw, hK, hT, hO⟩, hA, ⟨hR1, hR2, hR3, hR4⟩, hC⟩ := C
  intro ls H locs hl hP hD hS
  simp only [ai] at h
  split at h
  · rename_i hxl
    split at h
    · rename_i y z rest
      split at h
      · rename_i hn
        obtain ⟨rfl, hsm, hcs, hss⟩ := hn
        cases h
        exact va_mmax hx hb (hml.trans hl.1.symm) hown (hts _ (xlt_ok hxl)) (hts _ w_maxs) (hts _ w_mathi) (hts _ w_maxc) (by omega) (by rw [sm_map]; omega) (Nat.le_trans hcs hR3) (Nat.le_trans hss hR4) hd (K al (fun _ _ => rfl) ls H locs hl hP hD hS)
      · cases h
    · cases h
  · split at h
    · rename_i hon
      obtain ⟨rfl, rfl⟩ := hon
      split at h
      · rename_i y rest
        split at h
        · rename_i hn
          obtain ⟨rfl, hsm, hcs, hss⟩ := hn
          cases h
          obtain ⟨m1, m2⟩ := mk_K_limitOf
          obtain ⟨⟨m1, m3⟩, ⟨m4, m5, m6⟩, m7⟩ := m1
          have K2 := K al (fun _ _ => rfl) ls
          dsimp only at K2
          have hpv : PreS s H (va_Pc [.int y] (fun _ => True)) [.int y] := ⟨fun a U g mk q => ⟨q.1, trivial⟩, fun U hU hW => ⟨rfl, trivial⟩⟩
          have lk := lk_lim
          have hrun : va_Run p l e R s m args below meth c H locs cs ss 0 0 (F0 m pc ls ((Value.int y :: rest).map (vm al))) (rest.map (vm al)) (va_Qi (fun r (_ : Unit) => r = lim y) (fun _ _ => True) (fun _ => False) [Value.int y].toArray) (fun _ => False) := by
            rcases lk with hL | ⟨host, hL⟩
            · exact va_runS (Ts := W0) (own := RN 9) (n := 1) (maxL := 1) (bytes := cX11_limitOf) (ret := some .int) ⟨hx, hb, hml, hown, hts⟩ (c_lim l y) ⟨callB_of (ws' := W0) 1 hts (good0 _ m1) rfl rfl rfl (hts _ m3) (hts _ hL) ⟨m4, m5, m6⟩ ⟨by show 0 + 1 + 1 ≤ _; omega, by show 8 + (1 + 11) + (200 + 100 * 0) ≤ _; omega⟩, hts _ m2⟩ hpv rfl rfl hl.1 rfl (lv_room (by rw [sm_map]; exact hsm)) hd ⟨by omega, by omega⟩
            · exact va_runSN (Ts := W0) (own := RN 9) (n := 1) (maxL := 1) (bytes := cX11_limitOf) (ret := some .int) (host := host) ⟨hx, hb, hml, hown, hts⟩ (c_lim l y) ⟨va_cnB (ws' := W0) 1 hts (good0 _ m1) rfl rfl rfl (hnw _ hL) (hts _ m3) ⟨m4, m5, m6⟩ ⟨by show 0 + 1 + 1 ≤ _; omega, by show 8 + (1 + 11) + (200 + 100 * 0) ≤ _; omega⟩, hts _ m2, trivial⟩ hpv rfl rfl hl.1 rfl (lv_room (by rw [sm_map]; exact hsm)) hd ⟨by omega, by omega⟩
          refine va_calli hrun hS (fun q _ w => absurd w id) (fun q w => absurd w id) (fun r9 u t H1 locs1 hH1 hal hp _ hsz hkp hS1 => ?_)
          subst hp
          exact K2 H1 locs1 hl (hP.kept (fun k q hk => hkp q.1 ((hP k q hk).lt) id)) hD hS1
        · cases h
      · cases h
    · cases h
theorem cx_c (C : CxI p l R s m args meth c cc nL on CS SS d lo A D tys cy) : CxC p l R s m args c cc nL on CS SS d lo A D tys cy := ⟨⟨C.1.1, C.1.2.1, C.1.2.2.1, C.1.2.2.2.1, C.1.2.2.2.2.1⟩, C.2⟩
theorem ct_call {al : Nat → Nat} {pc cs ss k x : Nat} {as : List Value} {ws : List AC} {ls : Array Slot} {H : Heap} {locs : List Loc} {stk rest : List Value} (C : CxC p l R s m args c cc nL on CS SS d lo A D tys cy) (hd : decode cc pc = .ok (.invokespecial x, 3)) (hk : k = r + ws.length - 1) (hr : r ≤ k) (hk0 : k ≠ 0) (hk13 : kd k < 13) (hiv : (on, x, kd k) ∈ IVT) (hlo : kd k ∈ lo) (hob : ws[k - r]? = some (some (.inl (dfl (kd k))))) (hok : okA (kd k) k as = true) (hlen : as.length = arI (kd k)) (hsm : (rest.map fun v => v.category).sum ≤ 8) (hcs : cs + (szI (kd k) - 1) ≤ CS) (hss : ss + slI (kd k) k ≤ SS) (hsw : swl k r (ws.take (k - r)) = true)
    (hl : ls.size = nL) (hP : va_P D vwCl (wl cy al r ws) H) (hD : va_D A (wl cy al r ws)) (hS : va_S A s.heap H locs) (hstk : stk = (as.map (vm al)).reverse ++ .ref (al k) :: rest)
    (K : ∀ (al' : Nat → Nat) (H1 : Heap) (locs1 : List Loc), (∀ j, j ≤ k → al' j = al j) → va_P D vwCl (wl cy al' r (ws.take (k - r) ++ List.replicate (szI (kd k)) none)) H1 → va_D A (wl cy al' r (ws.take (k - r) ++ List.replicate (szI (kd k)) none)) → va_S A s.heap H1 locs1 → W p l e R s m args below meth c H1 locs1 (cs + (szI (kd k) - 1)) (ss + slI (kd k) k) Q (F0 m (pc + 3) ls rest)) : W p l e R s m args below meth c H locs cs ss Q (F0 m pc ls stk) := by
  subst hstk
  obtain ⟨⟨hx, hb, hml, hown, hts⟩, hKx, hA, ⟨hR1, hR2, hR3, hR4⟩, hC⟩ := C
  have hnw := hKx.1
  have he := wl_at cy al hob hr
  have hM := (hC _ hlo).2 k as hok rfl al H.size
  obtain ⟨y1, y2, y3, y4, y5, y6, y7⟩ := ym_all _ hk13
  obtain ⟨i1, i2, i3, i4⟩ := iw_ok hk13
  have hlt : al k < H.size := (hP _ _ he).lt
  have hpv : PreS s H (va_Pc ((.ref k :: as : List Value).map (vm al)) (preI D tys cy al (kd k) k H.size)) (.ref (al k) :: as.map (vm al)) := ⟨preI_blind _, fun U hU hW => ⟨by rw [List.map_cons, vm_ref al hk0], by rw [hU], by rw [hU]; exact hP.sub [k - r] (by show List.filterMap _ _ = _; rw [List.filterMap_cons, he]; rfl), hKx.go hW⟩⟩
  have hini : (Cond.initialized (ymI (kd k)).cls).before args s = true := by rw [y1]; exact hts _ i2
  have hrun := fun a9 : Lk on x (ymI (kd k)) => show va_Run p l e R s m args below meth c H locs cs ss (szI (kd k) - 1) (slI (kd k) k) (F0 m pc ls ((as.map (vm al)).reverse ++ .ref (al k) :: rest)) rest (va_Qv (fun al' : Nat → Nat => ∀ j, j ≤ k → al' j = al j) (fun al' t => va_P D vwCl (wl cy al' k (List.replicate (szI (kd k)) none)) t.heap ∧ va_D (frI al k H.size) (wl cy al' k (List.replicate (szI (kd k)) none))) (frI al k H.size) (Value.ref (al k) :: as.map (vm al)).toArray) (frI al k H.size) from by
    unfold Lk at a9
    rcases a9 with hL | ⟨host, hL⟩
    · exact va_runI (Ts := W0) (own := RN on) (n := arI (kd k)) (maxL := mlI (kd k)) (bytes := ccI (kd k)) ⟨hx, hb, hml, hown, hts⟩ hM ⟨callB_of (ws' := W0) _ hts (good0 _ i3) rfl rfl rfl hini (hts _ hL) ⟨y2, y3, y4⟩ ⟨by show d + 1 + 1 ≤ _; omega, by show 8 + (mlI (kd k) + 11) + (200 + 100 * d) ≤ _; omega⟩, y5, hts _ i4⟩ hpv rfl (by rw [List.length_map]; exact hlen) hl rfl (lv_room hsm) hd ⟨by omega, by omega⟩
    · exact va_runIN (Ts := W0) (own := RN on) (n := arI (kd k)) (maxL := mlI (kd k)) (bytes := ccI (kd k)) (host := host) ⟨hx, hb, hml, hown, hts⟩ hM ⟨va_cnB (ws' := W0) _ hts (good0 _ i3) rfl rfl rfl (hnw _ hL) hini ⟨y2, y3, y4⟩ ⟨by show d + 1 + 1 ≤ _; omega, by show 8 + (mlI (kd k) + 11) + (200 + 100 * d) ≤ _; omega⟩, y5, hts _ i4⟩ hpv rfl (by rw [List.length_map]; exact hlen) hl rfl (lv_room hsm) hd ⟨by omega, by omega⟩
  have hrun := hrun (ivt_ok hiv)
  have hfA : ∀ q, frI al k H.size q → A q := fun q w => by
    rcases w with rfl | w
    · exact hD.2 _ _ he
    · exact hA _ (Nat.le_trans hS.1 w)
  refine va_callv hrun hS (fun q _ w => hfA q w) hfA (fun al' t H1 locs1 hH1 hal hp hb9 hsz hkp hS1 => ?_)
  obtain ⟨hP1, hD1⟩ := hb9
  rw [hH1] at hP1
  have hlt9 : k - r < ws.length := (List.getElem?_eq_some_iff.mp hob).1
  have htl : (ws.take (k - r)).length = k - r := by rw [List.length_take]; omega
  have hpre : ∀ (i : Nat) (q : Nat × va_E), (wl cy al r (ws.take (k - r)))[i]? = some q → i < k - r ∧ (wl cy al r ws)[i]? = some q := by
    intro i q hq
    have hi : i < k - r := by
      have := (List.getElem?_eq_some_iff.mp hq).1
      rw [wl_len, htl] at this
      exact this
    refine ⟨hi, ?_⟩
    rw [wl_get, List.getElem?_take_of_lt hi] at hq
    rw [wl_get]
    exact hq
  have hne : ∀ (i : Nat) (q : Nat × va_E), (wl cy al r (ws.take (k - r)))[i]? = some q → ¬ frI al k H.size q.1 := by
    intro i q hq w
    obtain ⟨a1, a2⟩ := hpre i q hq
    rcases w with w | w
    · have := hD.1 _ _ _ _ a2 he w
      omega
    · have := (hP _ _ a2).lt
      omega
  have ew : wl cy al' r (ws.take (k - r) ++ List.replicate (szI (kd k)) none) = wl cy al r (ws.take (k - r)) ++ wl cy al' k (List.replicate (szI (kd k)) none) := by
    rw [wl_app, wl_cg (n := k) (by omega) (fun j hj => hp j (by omega)) r _ hsw (by omega), htl, show r + (k - r) = k by omega]
  have K2 := K al' H1 locs1 hp
  rw [ew] at K2
  refine K2 (va_P.app (fun i q hq => ((hP _ _ (hpre i q hq).2).kept (hkp q.1 ((hP _ _ (hpre i q hq).2).lt) (hne i q hq)))) hP1) (va_D.app ⟨fun i j p q h1 h2 h3 => hD.1 i j p q (hpre _ _ h1).2 (hpre _ _ h2).2 h3, fun i q hq => hD.2 _ _ (hpre _ _ hq).2⟩ ⟨hD1.1, fun i q hq => hfA _ (hD1.2 i q hq)⟩ (fun i j p q h1 h2 h3 => hne i p h1 (by rw [h3]; exact hD1.2 j q h2))) hS1
theorem mi_ctor {al : Nat → Nat} {pc cs ss k x : Nat} {lv : Lv} {as rest : List Value} {ws : List AC} (C : CxI p l R s m args meth c cc nL on CS SS d lo A D tys cy) (hd : decode cc pc = .ok (.invokespecial x, 3)) (hk : k = r + ws.length - 1) (hr : r < k) (hk13 : kd k < 13) (hiv : (on, x, kd k) ∈ IVT) (hlo : kd k ∈ lo) (hob : ws[k - r]? = some (some (.inl (dfl (kd k))))) (hok : okA (kd k) k as = true) (hlen : as.length = arI (kd k)) (hsm : sm rest ≤ 8) (hcs : cs + (szI (kd k) - 1) ≤ CS) (hss : ss + slI (kd k) k ≤ SS) (hsw : swl k r (ws.take (k - r)) = true) (hst : rest.all (svl (k + 1)) = true) (hlv : lv.all (fun z => svl (k + 1) z.2) = true)
    (K : GK p l e R s m args below meth c Q nL r A D cy al (pc + 3, lv, rest, ws.take (k - r) ++ List.replicate (szI (kd k)) none, cs + (szI (kd k) - 1), ss + slI (kd k) k)) : GA p l e R s m args below meth c Q nL r A D cy al (pc, lv, as.reverse ++ .ref k :: rest, ws, cs, ss) := by
  intro ls H locs hl hP hD hS
  refine ct_call (rest := rest.map (vm al)) (cx_c C) hd hk (Nat.le_of_lt hr) (by omega) hk13 hiv hlo hob hok hlen (by rw [sm_map]; exact hsm) hcs hss hsw hl.1 hP hD hS ?_ (fun al' H1 locs1 hp hP1 hD1 hS1 => ?_)
  · show (as.reverse ++ Value.ref k :: rest).map (vm al) = _
    rw [List.map_append, List.map_reverse, List.map_cons, vm_ref al (by omega : k ≠ 0)]
  have K2 := K al' (fun j hj => hp j (by omega)) ls H1 locs1
  dsimp only at K2
  rw [vmps_cg (n := k + 1) (fun j hj => hp j (by omega)) hlv, vms_cg (n := k + 1) (fun j hj => hp j (by omega)) hst] at K2
  exact K2 hl hP1 hD1 hS1
theorem mi_spec {al : Nat → Nat} {pc n cs ss : Nat} {lv : Lv} {st : List Value} {ws : List AC} {q' : AS} {x : Nat} (C : CxI p l R s m args meth c cc nL on CS SS d lo A D tys cy) (hd : decode cc pc = .ok (.invokespecial x, n)) (h : ai on r nL CS SS lo (.invokespecial x) n (pc, lv, st, ws, cs, ss) = some q') (K : GK p l e R s m args below meth c Q nL r A D cy al q') : GA p l e R s m args below meth c Q nL r A D cy al (pc, lv, st, ws, cs, ss) := by
  simp only [ai] at h
  split at h
  · rename_i hxl
    obtain ⟨⟨hx, hb, hml, hown, hts, hin⟩, ⟨hnw, hK, hT, hO⟩, hA, ⟨hR1, hR2, hR3, hR4⟩, hC⟩ := C
    intro ls H locs hl hP hD hS
    split at h
    · rename_i k rest
      split at h
      · rename_i hn
        obtain ⟨rfl, hk0, hsm⟩ := hn
        cases h
        show W p l e R s m args below meth c H locs _ _ Q (F0 m pc ls ((Value.ref k :: rest).map (vm al)))
        rw [List.map_cons, vm_ref al hk0]
        refine W.objInit hx hb hown (hts _ (obj_lk hxl)) (hts _ w_obj.1) (hts _ w_obj.2) rfl (by rw [hml]; exact hl.1) rfl hd (by omega) (by rw [sm_map]; show 2 * 0 + _ + 12 ≤ _; omega) ?_
        exact W.eq (g2 := F0 m (pc + 3) ls (rest.map (vm al))) rfl (K al (fun _ _ => rfl) ls H locs hl hP hD hS)
      · cases h
    · cases h
  · split at h
    · rename_i k hk
      split at h
      · rename_i hn
        obtain ⟨rfl, hkk, hrk, hk13, hiv, hlo, hob, hok, hsm, hcs, hss, hsw, hst, hlv⟩ := hn
        cases h
        rw [← hkk] at hk
        obtain ⟨as, eas⟩ : ∃ as, as = (st.take (arI (kd k))).reverse := ⟨_, rfl⟩
        obtain ⟨hlt, hget⟩ := List.getElem?_eq_some_iff.mp hk
        have est : st = as.reverse ++ .ref k :: st.drop (arI (kd k) + 1) := by
          rw [eas, List.reverse_reverse, ← hget, List.getElem_cons_drop, List.take_append_drop]
        have hlen : as.length = arI (kd k) := by
          rw [eas, List.length_reverse, List.length_take]
          omega
        rw [← eas] at hok
        have := mi_ctor (rest := st.drop (arI (kd k) + 1)) C hd hkk hrk hk13 hiv hlo (isOb_e hob) hok hlen hsm hcs hss hsw hst hlv K
        rw [← est] at this
        exact this
      · cases h
    · cases h
end MKR
