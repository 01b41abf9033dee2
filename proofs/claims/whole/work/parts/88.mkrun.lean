/-! ===== the makers: a run is sound; every constructor's contract ===== -/
section MKR
variable {p : Program} {l : Launch} {e : Env} {R : Room} {s : State} {m : MethodId} {args : Array Value} {below : List Frame} {meth : Method} {c : Code} {Q : State → Prop}
variable {cc : ByteArray} {nL on r CS SS d : Nat} {lo : List Nat} {A : Nat → Prop} {D : va_G} {tys : List (ClassId × FieldType)} {cy : Nat → ClassId}
theorem mi_any {al : Nat → Nat} {pc n cs ss : Nat} {lv : Lv} {st : List Value} {ws : List AC} {q' : AS} {i : Instr} (C : CxI p l R s m args meth c cc nL on CS SS d lo A D tys cy) (hd : decode cc pc = .ok (i, n)) (h : ai on r nL CS SS lo i n (pc, lv, st, ws, cs, ss) = some q') (K : GK p l e R s m args below meth c Q nL r A D cy al q') : GA p l e R s m args below meth c Q nL r A D cy al (pc, lv, st, ws, cs, ss) := by
  cases i with
  | aload_n k => exact mi_aload C hd h K
  | iload_n k => exact mi_iload C hd h K
  | istore_n k => exact mi_istore C hd h K
  | iconst v => exact mi_const (Or.inl ⟨v, rfl⟩) C hd h K
  | bipush v => exact mi_const (Or.inr (Or.inl ⟨v, rfl⟩)) C hd h K
  | sipush v => exact mi_const (Or.inr (Or.inr ⟨v, rfl⟩)) C hd h K
  | dup => exact mi_dup C hd h K
  | idiv => exact mi_idiv C hd h K
  | iinc k v => exact mi_iinc C hd h K
  | goto o => exact mi_goto C hd h K
  | if_icmp cmp o => cases cmp with
    | ge => exact mi_icmp C hd h K
    | _ => exact absurd (show (none : Option AS) = some q' from h) (fun w => by cases w)
  | getfield x => exact mi_getf C hd h K
  | putfield x => exact mi_putf C hd h K
  | newarray t => exact mi_newa C hd h K
  | anewarray x => exact mi_anew C hd h K
  | new x => exact mi_new C hd h K
  | arraylength => exact mi_alen C hd h K
  | aastore => exact mi_aast C hd h K
  | iastore => exact mi_iast C hd h K
  | invokespecial x => exact mi_spec C hd h K
  | invokestatic x => exact mi_stat C hd h K
  | _ => exact absurd (show (none : Option AS) = some q' from h) (fun w => by cases w)
theorem rn_ok {qf : AS} (C : CxI p l R s m args meth c cc nL on CS SS d lo A D tys cy) : ∀ (f : Nat) (q : AS) (al : Nat → Nat), rnA on r nL CS SS lo cc f q = some qf → (∀ al' : Nat → Nat, (∀ j, j ≤ r → al' j = al j) → decode cc qf.1 = .ok (.return_, 1) → GA p l e R s m args below meth c Q nL r A D cy al' qf) → GA p l e R s m args below meth c Q nL r A D cy al q
  | 0, q, al, h, _ => by cases h
  | f + 1, (pc, lv, st, ws, cs, ss), al, h, E => by
    unfold rnA at h
    dsimp only at h
    split at h
    · rename_i n hd
      split at h
      · rename_i hn
        subst hn
        cases h
        exact E al (fun _ _ => rfl) hd
      · cases h
    · rename_i i n _ hd
      rw [Option.bind_eq_some_iff] at h
      obtain ⟨q1, h1, h2⟩ := h
      exact mi_any C hd h1 (fun al' ha => rn_ok C f q1 al' h2 (fun al2 hb => E al2 (fun j hj => (hb j hj).trans (ha j hj))))
    · cases h
end MKR
theorem mtc_ok (cy : Nat → ClassId) (al : Nat → Nat) {k : Nat} {a : AC} (h : mtc k a = true) : rl cy al k a = rl cy al k none := by
  rcases a with _ | (fs | (u | es))
  · rfl
  · simp only [mtc, Bool.and_eq_true, decide_eq_true_eq] at h
    obtain ⟨h1, h2⟩ := h
    subst h2
    show Sum.inr (kd k, List.map (vm al) _) = cel cy al hp0 k
    unfold cel
    rw [if_pos h1, List.map_map]
    refine congrArg (fun z => Sum.inr (kd k, z)) (List.map_congr_left (fun j _ => ?_))
    unfold fv
    dsimp only [Function.comp]
    by_cases c0 : sl (kd k) j = 0
    · rw [if_pos c0, if_pos c0]
      rfl
    · rw [if_neg c0, if_neg c0]
      by_cases c1 : sl (kd k) j = 1
      · rw [if_pos c1, if_pos c1]
      · rw [if_neg c1, if_neg c1]
        by_cases c2 : sl (kd k) j = 2
        · rw [if_pos c2, if_pos c2]
        · rw [if_neg c2, if_neg c2]
          rfl
  · simp only [mtc, Bool.and_eq_true, decide_eq_true_eq] at h
    obtain ⟨h1, h2, h3⟩ := h
    subst h3
    show Sum.inl (cy (kd k), ln k, Sum.inl (lkp (lkH H0T k))) = cel cy al hp0 k
    unfold cel
    rw [if_neg (by omega), if_pos h2]
    rfl
  · simp only [mtc, Bool.and_eq_true, decide_eq_true_eq] at h
    obtain ⟨h1, h2⟩ := h
    subst h2
    show Sum.inl (cy (kd k), ln k, Sum.inr (Sum.inr (Sum.inr (Sum.inr (qel al (EL.getD k [])))))) = cel cy al hp0 k
    unfold cel
    rw [if_neg (by omega), if_neg (by omega)]
    rfl
theorem mtw_ok (cy : Nat → ClassId) (al : Nat → Nat) : ∀ (r : Nat) (ws : List AC), mtw r ws = true → wl cy al r ws = wl cy al r (List.replicate ws.length none)
  | _, [], _ => rfl
  | r, a :: w, h => by
    have h' : (mtc r a && mtw (r + 1) w) = true := h
    rw [Bool.and_eq_true] at h'
    show (al r, rl cy al r a) :: wl cy al (r + 1) w = (al r, rl cy al r none) :: wl cy al (r + 1) (List.replicate w.length none)
    rw [mtc_ok cy al h'.1, mtw_ok cy al (r + 1) w h'.2]
theorem kd_281 {k : Nat} (h : kd k < 13) : k < 281 := by
  have := kd_rng (k := k) (by omega)
  omega
theorem ct_of {l : Launch} {D : va_G} {tys : List (ClassId × FieldType)} {cy : Nat → ClassId} {d c r : Nat} {lo : List Nat} {as : List Value} (hc : c < 13) (hkd : kd r = c) (hlen : (lg_sl (.ref r :: as)).length ≤ mlI c) (hmk : mkI lo c r as = true) (hlo : ∀ cl ∈ lo, cl < 13 ∧ ∀ k as, okA cl k as = true → kd k = cl → CtP l D tys cy d cl k (szI cl) (szI cl - 1) (slI cl k) as) : CtP l D tys cy (d + 1) c r (szI c) (szI c - 1) (slI c r) as := by
  intro al n0
  obtain ⟨y1, y2, y3, y4, y5, y6, y7⟩ := ym_all _ hc
  have hr0 : r ≠ 0 := kd_pos (by omega)
  refine Met.ofW (cc := ccI c) (maxL := mlI c) (ret := none) y7 rfl ?_
  intro p e s m args below meth cd s₁ B hml hv
  obtain ⟨rfl, hn0, hP, hK⟩ := hv
  subst hn0
  have hts0 := atoms_spec (ws := .code (ymI c) (ccI c) (mlI c) none :: W0) B.pre
  have hts : ∀ w ∈ W0, w.before ((Value.ref r :: as).map (vm al)).toArray s = true := fun w hw => hts0 w (List.mem_cons_of_mem _ hw)
  have hown : s.vm.findClass (RN c) = some m.cls := by rw [← y1]; exact findClass_of_methodNamed B.named
  have hin : meth.name = "<init>" := (name_of_methodNamed B.named B.method).1.trans y5
  have C : CxI p l (headSpec (.code (ymI c) (ccI c) (mlI c) none :: W0) (rmi (d + 1) (szI c - 1) (slI c r))).room s m ((Value.ref r :: as).map (vm al)).toArray meth cd (ccI c) (mlI c) c (szI c - 1) (slI c r) d lo (frI al r s.heap.size) D tys cy :=
    ⟨⟨B.exec, B.bytes, hml, hown, hts, hin⟩, hK, fun q hq => Or.inr hq, ⟨by show d + 2 ≤ d + 1 + 1; omega, by show 300 + 100 * d ≤ 200 + 100 * (d + 1); omega, Nat.le_refl _, Nat.le_refl _⟩, hlo⟩
  unfold mkI at hmk
  split at hmk
  · rename_i qf hq
    obtain ⟨pf, lf, sf, wf, cf, xf⟩ := qf
    simp only [Bool.and_eq_true, decide_eq_true_eq] at hmk
    obtain ⟨e1, e2, e3, e4, e5⟩ := hmk
    subst e1 e4 e5
    rw [lg_entry_eq]
    have hl := lv_entry ((Value.ref r :: as).map (vm al)) (n := mlI c) (by rw [lg_sl_map]; exact hlen)
    rw [lv_args_map] at hl
    have e9 : wl cy al r [some (.inl (dfl c))] = [(al r, .inr (c, (dfl c).map (vm al)))] := by
      show [(al r, Sum.inr (kd r, (dfl c).map (vm al)))] = _
      rw [hkd]
    refine rn_ok C 1000 _ al hq (fun al' ha hdr => ?_) _ s.heap [] hl (by rw [e9]; exact hP) (by
      rw [e9]
      refine ⟨fun i j p q h1 h2 _ => ?_, fun k q hk => ?_⟩
      · have := (List.getElem?_eq_some_iff.mp h1).1
        have := (List.getElem?_eq_some_iff.mp h2).1
        simp only [List.length_cons, List.length_nil] at *
        omega
      · have hm := List.mem_of_getElem? hk
        rw [List.mem_singleton] at hm
        subst hm
        exact Or.inl rfl) va_S.rf
    intro ls H locs hl2 hP2 hD2 hS2
    dsimp only at hP2 hD2
    rw [mtw_ok cy al' r wf e3, e2] at hP2 hD2
    exact W.vret B.exec B.bytes B.returns (fun t ht _ => ⟨⟨al', rfl, fun k hk => ha k hk, by rw [ht]; exact hP2, hD2⟩, hS2.F ht⟩) hS2.2.2 hdr B.notSynchronized
  · cases hmk
section CT
variable {l : Launch} {D : va_G} {tys : List (ClassId × FieldType)} {cy : Nat → ClassId}
theorem ct_1 (d : Nat) : ∀ cl ∈ [0, 1, 2, 3, 8], cl < 13 ∧ ∀ k as, okA cl k as = true → kd k = cl → CtP l D tys cy (d + 1) cl k (szI cl) (szI cl - 1) (slI cl k) as := by
  have hno : ∀ cl ∈ ([] : List Nat), cl < 13 ∧ ∀ k as, okA cl k as = true → kd k = cl → CtP l D tys cy d cl k (szI cl) (szI cl - 1) (slI cl k) as := fun cl h => absurd h List.not_mem_nil
  intro cl hcl
  simp only [List.mem_cons, List.not_mem_nil, or_false] at hcl
  rcases hcl with rfl | rfl | rfl | rfl | rfl
  · refine ⟨by decide, fun k as ha hk => ?_⟩
    have : as = [] := of_decide_eq_true ha
    subst this
    exact ct_of (by decide) hk (Nat.le_refl 1) (mk_0 k (kd_281 (by omega)) hk) hno
  · refine ⟨by decide, fun k as ha hk => ?_⟩
    have : as = [] := of_decide_eq_true ha
    subst this
    exact ct_of (by decide) hk (Nat.le_refl 1) (mk_1 k (kd_281 (by omega)) hk) hno
  · refine ⟨by decide, fun k as ha hk => ?_⟩
    have : as = [.int (Int32.ofNat (ln (k + 1)))] := of_decide_eq_true ha
    subst this
    exact ct_of (by decide) hk (Nat.le_refl 2) (mk_2 k (kd_281 (by omega)) hk) hno
  · refine ⟨by decide, fun k as ha hk => ?_⟩
    have : as = [] := of_decide_eq_true ha
    subst this
    exact ct_of (by decide) hk (Nat.le_refl 1) (mk_3 k (kd_281 (by omega)) hk) hno
  · refine ⟨by decide, fun k as ha hk => ?_⟩
    have : as = [] := of_decide_eq_true ha
    subst this
    exact ct_of (by decide) hk (Nat.le_refl 1) (mk_8 k (kd_281 (by omega)) hk) hno
theorem ct_2 (d : Nat) : ∀ cl ∈ [3, 4, 5, 6, 7, 9, 10], cl < 13 ∧ ∀ k as, okA cl k as = true → kd k = cl → CtP l D tys cy (d + 2) cl k (szI cl) (szI cl - 1) (slI cl k) as := by
  have h1 := ct_1 (l := l) (D := D) (tys := tys) (cy := cy) d
  intro cl hcl
  simp only [List.mem_cons, List.not_mem_nil, or_false] at hcl
  rcases hcl with rfl | rfl | rfl | rfl | rfl | rfl | rfl
  · exact ct_1 (d + 1) 3 (by decide)
  · refine ⟨by decide, fun k as ha hk => ?_⟩
    have ha' : (decide (as = [Value.ref 3]) && decide (k = 46)) = true := ha
    rw [Bool.and_eq_true, decide_eq_true_eq, decide_eq_true_eq] at ha'
    obtain ⟨rfl, rfl⟩ := ha'
    exact ct_of (by decide) hk (Nat.le_refl 2) mk_4 h1
  · refine ⟨by decide, fun k as ha hk => ?_⟩
    have : as = [] := of_decide_eq_true ha
    subst this
    exact ct_of (by decide) hk (Nat.le_refl 1) (mk_5 k (kd_281 (by omega)) hk) h1
  · refine ⟨by decide, fun k as ha hk => ?_⟩
    have : as = [] := of_decide_eq_true ha
    subst this
    exact ct_of (by decide) hk (Nat.le_refl 1) (mk_6 k (kd_281 (by omega)) hk) h1
  · refine ⟨by decide, fun k as ha hk => ?_⟩
    have : as = [] := of_decide_eq_true ha
    subst this
    exact ct_of (by decide) hk (Nat.le_succ 1) (mk_7 k (kd_281 (by omega)) hk) h1
  · refine ⟨by decide, fun k as ha hk => ?_⟩
    have : as = [] := of_decide_eq_true ha
    subst this
    exact ct_of (by decide) hk (Nat.le_succ 1) (mk_9 k (kd_281 (by omega)) hk) h1
  · refine ⟨by decide, fun k as ha hk => ?_⟩
    have : as = [] := of_decide_eq_true ha
    subst this
    exact ct_of (by decide) hk (Nat.le_refl 1) (mk_10 k (kd_281 (by omega)) hk) h1
theorem mkd_11 : ∀ k, k < 281 → kd k = 11 → k = 1 := by decide +kernel
theorem mkd_12 : ∀ k, k < 281 → kd k = 12 → k = 251 := by decide +kernel
theorem ct_3 : ∀ cl ∈ [11, 12], cl < 13 ∧ ∀ k as, okA cl k as = true → kd k = cl → CtP l D tys cy 3 cl k (szI cl) (szI cl - 1) (slI cl k) as := by
  intro cl hcl
  simp only [List.mem_cons, List.not_mem_nil, or_false] at hcl
  rcases hcl with rfl | rfl
  · refine ⟨by decide, fun k as ha hk => ?_⟩
    have : as = [] := of_decide_eq_true ha
    subst this
    cases mkd_11 k (kd_281 (by omega)) hk
    exact ct_of (by decide) hk (Nat.le_succ 1) mk_11 (ct_2 0)
  · refine ⟨by decide, fun k as ha hk => ?_⟩
    have : as = [] := of_decide_eq_true ha
    subst this
    cases mkd_12 k (kd_281 (by omega)) hk
    exact ct_of (by decide) hk (Nat.le_refl 1) mk_12 (fun cl h => absurd h List.not_mem_nil)
end CT
