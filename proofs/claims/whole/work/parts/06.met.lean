/-! ===== the machine keeps the rules ===== -/
theorem wsp_D {cy : Nat → ClassId} {al : Nat → Nat} {A : Nat → Prop} (hi : ∀ i j, kd i ≠ 99 → kd j ≠ 99 → al i = al j → i = j) (hA : ∀ q, Ow al q → A q) (h : Hp) : va_D A (wsp cy al h) := by
  have kok : ∀ i, i < 280 → kd (i + 1) ≠ 99 := by
    have hb : (List.range 280).all (fun i => decide (kd (i + 1) ≠ 99)) = true := by decide +kernel
    intro i h
    have := List.all_eq_true.mp hb i (List.mem_range.mpr h)
    simpa using this
  have at' : ∀ (k : Nat) (q : Nat × va_E), (wsp cy al h)[k]? = some q → k < 280 ∧ q.1 = al (k + 1) := by
    intro k q hk
    have hl : k < 280 := by
      have := (List.getElem?_eq_some_iff.mp hk).1
      rwa [wsp_len] at this
    rw [wsp_at cy al h hl] at hk
    cases hk
    exact ⟨hl, rfl⟩
  refine ⟨fun i j p q h1 h2 hpq => ?_, fun k q hk => ?_⟩
  · obtain ⟨a1, a2⟩ := at' i p h1
    obtain ⟨b1, b2⟩ := at' j q h2
    have := hi (i + 1) (j + 1) (kok i a1) (kok j b1) (by rw [← a2, ← b2]; exact hpq)
    omega
  · obtain ⟨a1, a2⟩ := at' k q hk
    rw [a2]
    exact hA _ ⟨k + 1, kok k a1, rfl⟩
theorem lv_args_map (al : Nat → Nat) : ∀ (as : List Value) (i : Nat), lv_args i (as.map (vm al)) = (lv_args i as).map (vmp al)
  | [], i => rfl
  | v :: r, i => by
    rw [List.map_cons, lv_args, lv_args, List.map_cons, vm_cat, lv_args_map al r]
    rfl
theorem lg_sl_map (al : Nat → Nat) (as : List Value) : (lg_sl (as.map (vm al))).length = (lg_sl as).length := by
  induction as with
  | nil => rfl
  | cons v r ih =>
    simp only [lg_sl, List.map_cons, List.flatMap_cons, List.length_append] at ih ⊢
    rw [ih, vm_cat]
    split <;> rfl
theorem bw_blind (E : En) (h : Hp) (as : List Value) : FrameBlind (va_Pc as (Bw E h)) := by
  intro a U g mk q
  obtain ⟨q0, qP, qB⟩ := q
  exact ⟨q0, qP, Bs.same (s := U) (U := U.calling g mk a) qB rfl⟩
theorem str_recv {E : En} {s : State} {H : Heap} {locs : List Loc} {i : Nat} (hi : i < 16) (hB : Bs E s s.heap) (hk : ∀ q, q < s.heap.size → ¬ Ow (eA E) q → H[q]? = s.heap[q]?) : ∃ cell : Cell, H[eA E (400 + i)]? = some cell ∧ cell.vm.isStatics = false ∧ s.vm.findClass "java/lang/String" = some cell.cls := by
  obtain ⟨-, -, h9, -⟩ := hB
  obtain ⟨cell, h1, h2, h3, -⟩ := ((h9.1 i hi).1.kept hk)
  exact ⟨cell, h1, h2, h3⟩
section GMR
variable {p : Program} {e : Env} {R : Room} {s : State} {m : MethodId} {args : Array Value} {below : List Frame} {meth : Method} {c : Code} {cells slots : Nat} {Q : State → Prop}
variable {A : Nat → Prop} {E : En} {d on : Nat} {z : Mt} {Post : Option Value → Hp → Prop}
theorem gm_vret (hx : p.tables.exec = Jvm.exec) (hb : c.code = z.2.1) (hr : meth.sig.returnType = z.2.2.2) (hlk : meth.locks = false) : RlR z Post (GM p (eL E) e R s m args below meth c 0 0 (MQ below (QC E Post) args s 0 0 (Ow (eA E))) z.2.2.1 (Ow (eA E)) (eD E) (eC E) (eA E)) := by
  refine ⟨?_, ?_, ?_, ?_⟩
  · intro pc lv h hd hz hp ls H locs hl hP hS
    exact W.vret hx hb (hr.trans hz) (fun t ht _ => ⟨⟨none, h, rfl, hp, by rw [ht]; exact hP⟩, hS.F ht⟩) hS.2.2 hd hlk
  · intro pc lv v h hd hz hp ls H locs hl hP hS
    exact W.iret (v := v) hx hb (hr.trans hz) (fun t ht _ => ⟨⟨some (.int v), h, rfl, hp, by rw [ht]; exact hP⟩, hS.F ht⟩) hS.2.2 hd hlk
  · intro pc lv v h hd hz hv hp ls H locs hl hP hS
    exact W.zret (v := v) hx hb (hr.trans hz) (by rcases hv with rfl | rfl <;> rfl) (fun t ht _ => ⟨⟨some (.int v), h, rfl, hp, by rw [ht]; exact hP⟩, hS.F ht⟩) hS.2.2 hd hlk
  · intro pc lv k n h hd hz hp ls H locs hl hP hS
    refine W.aret (v := vm (eA E) (.ref k)) hx hb (hr.trans hz) (Or.inl ⟨n, rfl⟩) ?_ (fun t ht _ => ⟨⟨some (.ref k), h, rfl, hp, by rw [ht]; exact hP⟩, hS.F ht⟩) hS.2.2 hd hlk
    unfold vm
    dsimp only
    split
    · exact Or.inl rfl
    · exact Or.inr ⟨_, rfl⟩
theorem gm_after {pc : Nat} {lv : Lv} {as rest st0 : List Value} {P : Option Value → Hp → Prop} {ls : Array Slot} {H : Heap} {locs : List Loc} (hAO : ∀ q, q < s.heap.size → A q → Ow (eA E) q) (hOA : ∀ q, Ow (eA E) q → A q) (hl : lv_has ls z.2.2.1 (lv.map (vmp (eA E)))) (hS : va_S A s.heap H locs)
    (hr : va_Run p (eL E) e R s m args below meth c H locs cells slots 0 0 (F0 m pc ls st0) (rest.map (vm (eA E))) (QC E P (as.map (vm (eA E))).toArray) (Ow (eA E)))
    (K : ∀ r h', P r h' → GM p (eL E) e R s m args below meth c cells slots Q z.2.2.1 A (eD E) (eC E) (eA E) (pc + 3) lv (rtl r rest) h') : W p (eL E) e R s m args below meth c H locs cells slots Q (F0 m pc ls st0) := by
  intro T hT X
  obtain ⟨v, st₀, t, T', L, h0, X', hL, e1, e2, ⟨⟨r, h', hv, hp, hb⟩, hz, hk⟩, st⟩ := hr T hT X
  rw [h0] at hz hk
  have hv2 : v = r.map (vm (eA E)) := by cases hv; rfl
  subst hv2
  obtain ⟨t2, a1, b1⟩ := K r h' hp ls T'.heap (locs ++ L) hl (by rw [e1]; exact hb) ⟨Nat.le_trans hS.1 (by rw [e1]; exact hz), fun q h1 h2 => by rw [e1, hk q (Nat.lt_of_lt_of_le h1 hS.1) (fun w => h2 (hOA q w))]; exact hS.2.1 q h1 h2, fun q hq => by
    rcases List.mem_append.mp hq with h | h
    · exact hS.2.2 q h
    · exact hOA _ (hL q h)⟩ T' rfl X'
  refine ⟨t2, st t2 ?_, b1⟩
  have e9 : (r.map (vm (eA E))).toList ++ rest.map (vm (eA E)) = (rtl r rest).map (vm (eA E)) := by cases r <;> rfl
  show Steps _ _ _ (T'.setTop { F0 m pc ls st0 with pc := pc + 3, stack := _ }) t2
  rw [e9]
  exact a1
theorem rl_gm (C : Cx p R s m args c z.2.1 z.2.2.1 on cells slots A (eD E) (eT E) (eC E) (eA E) (eS E)) (hB : Bs E s s.heap) (hAO : ∀ q, q < s.heap.size → A q → Ow (eA E) q) (hOA : ∀ q, Ow (eA E) q → A q) (hR : d + 2 ≤ R.frames ∧ 300 + 100 * d ≤ R.locals) (hret : RlR z Post (GM p (eL E) e R s m args below meth c cells slots Q z.2.2.1 A (eD E) (eC E) (eA E))) : Rl E d on z Post (GM p (eL E) e R s m args below meth c cells slots Q z.2.2.1 A (eD E) (eC E) (eA E)) := by
  obtain ⟨⟨hx, hb, hml, hown, hts, hnw⟩, ⟨hK, hD, hT⟩, -, hR1, hR2, hR3, hR4⟩ := id C
  have hgood : ∀ (w0 : Cond), w0 ∈ W0 → GoodIn W0 (w0 :: W0) := fun w0 h0 w hw => by
    have hw0 : w ∈ W0 := by
      rcases List.mem_cons.mp hw with rfl | q
      · exact h0
      · exact q
    exact ⟨hw0, good_of_word (List.mem_filter.mp hw0).2⟩
  have hpre : ∀ (h : Hp) (H : Heap) (locs : List Loc), va_P (eD E) vwCl (wsp (eC E) (eA E) h) H → va_S A s.heap H locs → ∀ (as : List Value) (U : State), U.heap = H → s.WarmedH U.vm → va_Pc (as.map (vm (eA E))) (Bw E h) (as.map (vm (eA E))).toArray U := by
    intro h H locs hP hS as U hU hW
    refine ⟨rfl, by rw [hU]; exact hP, ?_⟩
    rw [hU]
    exact hB.go hW hS.1 (fun q h1 h2 => hS.2.1 q h1 (fun a => h2 (hAO q h1 a)))
  refine ⟨⟨?_, ?_, ?_, ?_, ⟨?_, ?_⟩, ⟨?_, ?_⟩⟩, ⟨?_, ?_⟩, hret⟩
  · intro f pc ops pc' cs qs lv st h r L hbk he hL K
    exact blk_sound C f pc ops pc' lv st h r L hbk he (al_all hL) K
  · intro pc lv lv' st h hs K ls H locs hl hP hS
    refine K ls H locs ⟨hl.1, hl.2.1, fun q hq => ?_⟩ hP hS
    obtain ⟨q', h1, rfl⟩ := List.mem_map.mp hq
    exact hl.2.2 _ (List.mem_map.mpr ⟨q', hs q' h1, rfl⟩)
  · intro cc off tgt pc lv x st h hd ht K1 K2 ls H locs hl hP hS
    cases cc
    · exact lv_if_eq hx hb hd ht (fun q => K1 q ls H locs hl hP hS) (fun q => K2 q ls H locs hl hP hS)
    · exact lv_if_ne hx hb hd ht (fun q => K1 q ls H locs hl hP hS) (fun q => K2 (fun w => w q) ls H locs hl hP hS)
    · exact lv_if_lt hx hb hd ht (fun q => K1 q ls H locs hl hP hS) (fun q => K2 q ls H locs hl hP hS)
    · exact lv_if_ge hx hb hd ht (fun q => K1 q ls H locs hl hP hS) (fun q => K2 q ls H locs hl hP hS)
    · exact lv_if_gt hx hb hd ht (fun q => K1 q ls H locs hl hP hS) (fun q => K2 q ls H locs hl hP hS)
    · exact lv_if_le hx hb hd ht (fun q => K1 q ls H locs hl hP hS) (fun q => K2 q ls H locs hl hP hS)
  · intro cc off tgt pc lv x y st h hd ht K1 K2 ls H locs hl hP hS
    cases cc
    · exact lv_icmp_eq hx hb hd ht (fun q => K1 q ls H locs hl hP hS) (fun q => K2 q ls H locs hl hP hS)
    · exact lv_icmp_ne hx hb hd ht (fun q => K1 q ls H locs hl hP hS) (fun q => K2 (fun w => w q) ls H locs hl hP hS)
    · exact lv_icmp_lt hx hb hd ht (fun q => K1 q ls H locs hl hP hS) (fun q => K2 q ls H locs hl hP hS)
    · exact lv_icmp_ge hx hb hd ht (fun q => K1 q ls H locs hl hP hS) (fun q => K2 q ls H locs hl hP hS)
    · exact lv_icmp_gt hx hb hd ht (fun q => K1 q ls H locs hl hP hS) (fun q => K2 q ls H locs hl hP hS)
    · exact lv_icmp_le hx hb hd ht (fun q => K1 q ls H locs hl hP hS) (fun q => K2 q ls H locs hl hP hS)
  · intro off tgt pc lv k st h hd ht K1 K2 ls H locs hl hP hS
    by_cases hk : k = 0
    · subst hk
      exact lv_ifnullN hx hb hd ht (K1 rfl ls H locs hl hP hS)
    · rw [List.map_cons, vm_ref _ hk]
      exact lv_ifnull hx hb hd (K2 hk ls H locs hl hP hS)
  · intro off tgt pc lv k st h hd ht K1 K2 ls H locs hl hP hS
    by_cases hk : k = 0
    · subst hk
      exact lv_ifnonnullN hx hb hd (K2 rfl ls H locs hl hP hS)
    · rw [List.map_cons, vm_ref _ hk]
      exact lv_ifnonnull hx hb hd ht (K1 hk ls H locs hl hP hS)
  · intro dflt lo hi offs len pc ts d lv x st h hd hw K ls H locs hl hP hS
    simp only [swok, Bool.and_eq_true, decide_eq_true_eq] at hw
    obtain ⟨⟨⟨⟨h1, h2⟩, h3⟩, h4⟩, h5⟩ := hw
    by_cases hin : lo ≤ x.toInt ∧ x.toInt ≤ hi
    · have hg := swf_in ts lo d x h4 (by omega) hin.1 (by omega)
      have h6 := congrArg (fun l : List Int => l[(x.toInt - lo).toNat]?) h3
      simp only [List.getElem?_map, hg, Option.map_some] at h6
      cases ho : offs.toList[(x.toInt - lo).toNat]? with
      | none => rw [ho] at h6; cases h6
      | some o =>
        rw [ho] at h6
        simp only [Option.map_some, Option.some.injEq] at h6
        exact lv_tableIn hx hb hd (by omega) (by omega) (off := o) (by rw [← Array.getElem?_toList]; exact ho) h6 (K ls H locs hl hP hS)
    · rw [swf_out ts lo d x h4 (by omega) (by omega)] at K
      exact lv_tableOut hx hb hd (by omega) h1 (K ls H locs hl hP hS)
  · intro dflt ps len pc ts d lv x st h hd hw K ls H locs hl hP hS
    simp only [lkok, Bool.and_eq_true, decide_eq_true_eq] at hw
    obtain ⟨⟨⟨h1, h2⟩, h3⟩, h4⟩ := hw
    have hb4 : ∀ t ∈ ts, -1000 ≤ t.1 ∧ t.1 ≤ 1000 := fun t ht => by
      have := List.all_eq_true.mp h4 t ht
      simpa using this
    exact lv_lookup hx hb hd h3 rfl (lkf_ok ps.toList ts pc d dflt x h1 h2 hb4) (K ls H locs hl hP hS)
  · intro y idx n pc k lv as rest h P hd hM hL hRc hn hsm hC K ls H locs hl hP hS
    obtain ⟨⟨⟨m1, m2⟩, ⟨m3, m4, m5⟩, m6⟩, m7, m8⟩ := hM
    have hk0 : k ≠ 0 := by
      rcases hRc with ⟨a, -⟩ | ⟨a, -, -⟩
      · exact kd_pos (by omega)
      · intro q; rw [q] at a; exact absurd a (by decide)
    have hrecv : ∃ cell : Cell, H[eA E k]? = some cell ∧ cell.vm.isStatics = false ∧ s.vm.findClass y.1.cls = some cell.cls := by
      rcases hRc with ⟨a, b⟩ | ⟨a, b, c9⟩
      · have h99 : kd k ≠ 99 := by omega
        have he := wsp_get (eC E) (eA E) h h99
        rw [show cel (eC E) (eA E) h k = .inr (kd k, (List.range (nf (kd k))).map (fv (eA E) h k)) by unfold cel; rw [if_pos a]] at he
        rw [b]
        exact va_recv hK hP (tn_ok a) he
      · rw [c9]
        have := str_recv (locs := locs) (i := k - 400) (by omega) hB (H := H) (fun q h1 h2 => hS.2.1 q h1 (fun a => h2 (hAO q h1 a)))
        rwa [show 400 + (k - 400) = k by omega] at this
    have e1 : (as.reverse ++ .ref k :: rest).map (vm (eA E)) = (as.map (vm (eA E))).reverse ++ .ref (eA E k) :: rest.map (vm (eA E)) := by
      rw [List.map_append, List.map_reverse, List.map_cons, vm_ref _ hk0]
    have e2 : ((.ref k :: as : List Value).map (vm (eA E))) = .ref (eA E k) :: as.map (vm (eA E)) := by rw [List.map_cons, vm_ref _ hk0]
    have hpv : PreV s H y.1.cls (eA E k) (va_Pc ((.ref k :: as : List Value).map (vm (eA E))) (Bw E h)) (as.map (vm (eA E))) := ⟨bw_blind E h _, hrecv, fun U hU hW => by
      have := hpre h H locs hP hS (.ref k :: as) U hU hW
      rw [e2] at this ⊢
      exact this⟩
    have hmm : lv_has ls z.2.2.1 (lv.map (vmp (eA E))) := hl
    rw [e1]
    refine gm_after (as := .ref k :: as) hAO hOA hl hS ?_ K
    rw [e2]
    rcases hL with hL | ⟨host, hL⟩
    · exact va_runV (Ts := W0) (own := RN on) (C := y.1.cls) (n := n) (maxL := y.2.2.1) (bytes := y.2.1) (ret := y.2.2.2) ⟨hx, hb, hml, hown, hts⟩ hC ⟨callB_of (ws' := W0) n hts (hgood _ m1) rfl rfl rfl (hts _ m2) (hts _ hL) ⟨m3, m4, m5⟩ ⟨by show d + 1 + 1 ≤ _; omega, by show 8 + (y.2.2.1 + 11) + (200 + 100 * d) ≤ _; omega⟩, hts _ m7, hts _ m8⟩ hpv rfl (by rw [List.length_map]; exact hn) hl.1 rfl (lv_room (by rw [sm_map]; exact hsm)) hd ⟨hR3, hR4⟩
    · exact va_runVN (Ts := W0) (own := RN on) (C := y.1.cls) (n := n) (maxL := y.2.2.1) (bytes := y.2.1) (ret := y.2.2.2) (host := host) ⟨hx, hb, hml, hown, hts⟩ hC ⟨va_cnB (ws' := W0) n hts (hgood _ m1) rfl rfl rfl (hnw _ hL) (hts _ m2) ⟨m3, m4, m5⟩ ⟨by show d + 1 + 1 ≤ _; omega, by show 8 + (y.2.2.1 + 11) + (200 + 100 * d) ≤ _; omega⟩, hts _ m7, hts _ m8⟩ hpv rfl (by rw [List.length_map]; exact hn) hl.1 rfl (lv_room (by rw [sm_map]; exact hsm)) hd ⟨hR3, hR4⟩
  · intro y idx n pc lv as rest h P hd hM hL hn hsm hC K ls H locs hl hP hS
    obtain ⟨⟨⟨m1, m2⟩, ⟨m3, m4, m5⟩, m6⟩, m7⟩ := hM
    have e1 : (as.reverse ++ rest).map (vm (eA E)) = (as.map (vm (eA E))).reverse ++ rest.map (vm (eA E)) := by
      rw [List.map_append, List.map_reverse]
    have hpv : PreS s H (va_Pc (as.map (vm (eA E))) (Bw E h)) (as.map (vm (eA E))) := ⟨bw_blind E h _, fun U hU hW => hpre h H locs hP hS as U hU hW⟩
    rw [e1]
    refine gm_after (as := as) hAO hOA hl hS ?_ K
    rcases hL with hL | ⟨host, hL⟩
    · exact va_runS (Ts := W0) (own := RN on) (n := n) (maxL := y.2.2.1) (bytes := y.2.1) (ret := y.2.2.2) ⟨hx, hb, hml, hown, hts⟩ hC ⟨callB_of (ws' := W0) n hts (hgood _ m1) rfl rfl rfl (hts _ m2) (hts _ hL) ⟨m3, m4, m5⟩ ⟨by show d + 1 + 1 ≤ _; omega, by show 8 + (y.2.2.1 + 11) + (200 + 100 * d) ≤ _; omega⟩, hts _ m7⟩ hpv rfl (by rw [List.length_map]; exact hn) hl.1 rfl (lv_room (by rw [sm_map]; exact hsm)) hd ⟨hR3, hR4⟩
    · exact va_runSN (Ts := W0) (own := RN on) (n := n) (maxL := y.2.2.1) (bytes := y.2.1) (ret := y.2.2.2) (host := host) ⟨hx, hb, hml, hown, hts⟩ hC ⟨va_cnB (ws' := W0) n hts (hgood _ m1) rfl rfl rfl (hnw _ hL) (hts _ m2) ⟨m3, m4, m5⟩ ⟨by show d + 1 + 1 ≤ _; omega, by show 8 + (y.2.2.1 + 11) + (200 + 100 * d) ≤ _; omega⟩, hts _ m7, trivial⟩ hpv rfl (by rw [List.length_map]; exact hn) hl.1 rfl (lv_room (by rw [sm_map]; exact hsm)) hd ⟨hR3, hR4⟩
end GMR
/-- a method's contract out of the rules -/
theorem cn_of {E : En} {d on : Nat} {z : Mt} {as : List Value} {h : Hp} {Post : Option Value → Hp → Prop} (hz : z.1.cls = RN on ∧ plainName z.1.cls = true ∧ (lg_sl as).length ≤ z.2.2.1) (hG : ∀ G, Rl E d on z Post G → G 0 (lv_args 0 as) [] h) : Cn E (d + 1) z as h Post := by
  obtain ⟨h1, h2, h3⟩ := hz
  refine Met.ofW (cc := z.2.1) (maxL := z.2.2.1) (ret := z.2.2.2) h2 rfl ?_
  intro p e s m args below meth c s₁ B hml hv
  obtain ⟨rfl, hP, hB⟩ := hv
  have hts0 := atoms_spec (ws := .code z.1 z.2.1 z.2.2.1 z.2.2.2 :: W0) B.pre
  have hts : ∀ w ∈ W0, w.before (as.map (vm (eA E))).toArray s = true := fun w hw => hts0 w (List.mem_cons_of_mem _ hw)
  have hown : s.vm.findClass (RN on) = some m.cls := by rw [← h1]; exact findClass_of_methodNamed B.named
  obtain ⟨⟨b1, b2, b3, b4⟩, ⟨b5, b6, b7, b8⟩, b9, b10⟩ := id hB
  have C : Cx p (rmd (d + 1)) s m (as.map (vm (eA E))).toArray c z.2.1 z.2.2.1 on 0 0 (Ow (eA E)) (eD E) (eT E) (eC E) (eA E) (eS E) :=
    ⟨⟨B.exec, B.bytes, hml, hown, hts, b1⟩, ⟨b2, fun h => wsp_D b4 (fun _ q => q) h, b3⟩, ⟨b5, b6, b7, b8⟩, by show 1 ≤ d + 1 + 1; omega, by show 100 ≤ 200 + 100 * (d + 1); omega, Nat.zero_le _, Nat.zero_le _⟩
  have hR := rl_gm (e := e) (below := below) (meth := meth) (d := d) (Q := MQ below (QC E Post) (as.map (vm (eA E))).toArray s 0 0 (Ow (eA E))) C hB (fun _ _ q => q) (fun _ q => q) ⟨by show d + 2 ≤ d + 1 + 1; omega, by show 300 + 100 * d ≤ 200 + 100 * (d + 1); omega⟩ (gm_vret (E := E) (Post := Post) B.exec B.bytes B.returns B.notSynchronized)
  have K := hG _ hR
  rw [lg_entry_eq]
  have hl := lv_entry (as.map (vm (eA E))) (n := z.2.2.1) (by rw [lg_sl_map]; exact h3)
  rw [lv_args_map] at hl
  exact K _ s.heap [] hl hP va_S.rf
