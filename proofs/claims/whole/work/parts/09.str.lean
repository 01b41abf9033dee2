/-! ===== String.length and String.charAt on the constants ===== -/
def Cp (E : En) (d : Nat) (y : Mt) (as : List Value) (v : Option Value) : Prop :=
  Met (eL E) y.1 (.code y.1 y.2.1 y.2.2.1 y.2.2.2 :: W0) (rmd d) (va_Pc as (fun U => Bs E U U.heap)) (fun _ st oc t => oc = .returned v ∧ t.heap = st.heap) 0 0 (Ow (eA E))
/-- what a body of such a piece has -/
def Cq (E : En) (d : Nat) (own : String) (y : Mt) (p : Program) (s : State) (m : MethodId) (args : Array Value) (meth : Method) (c : Code) : Prop :=
  p.tables.exec = Jvm.exec ∧ c.code = y.2.1 ∧ c.maxLocals = y.2.2.1 ∧ s.vm.findClass own = some m.cls ∧ (∀ w ∈ W0, w.before args s = true) ∧ meth.sig.returnType = y.2.2.2 ∧ meth.locks = false ∧ Bs E s s.heap
theorem cp_of {E : En} {d : Nat} {own : String} {y : Mt} {as : List Value} {v : Option Value} (hy : y.1.cls = own ∧ plainName y.1.cls = true ∧ (lg_sl as).length ≤ y.2.2.1)
    (body : ∀ (p : Program) (e : Env) (s : State) (m : MethodId) (below : List Frame) (meth : Method) (c : Code), Cq E d own y p s m as.toArray meth c → ∀ ls, lv_has ls y.2.2.1 (lv_args 0 as) → W p (eL E) e (rmd d) s m as.toArray below meth c s.heap [] 0 0 (MQ below (fun _ st oc t => oc = .returned v ∧ t.heap = st.heap) as.toArray s 0 0 (Ow (eA E))) (F0 m 0 ls [])) : Cp E d y as v := by
  obtain ⟨h1, h2, h3⟩ := hy
  refine Met.ofW (cc := y.2.1) (maxL := y.2.2.1) (ret := y.2.2.2) h2 rfl ?_
  intro p e s m args below meth c s₁ B hml hv
  obtain ⟨rfl, hB⟩ := hv
  have hts0 := atoms_spec (ws := .code y.1 y.2.1 y.2.2.1 y.2.2.2 :: W0) B.pre
  have hts : ∀ w ∈ W0, w.before as.toArray s = true := fun w hw => hts0 w (List.mem_cons_of_mem _ hw)
  have hown : s.vm.findClass own = some m.cls := by rw [← h1]; exact findClass_of_methodNamed B.named
  rw [lg_entry_eq]
  exact body p e s m below meth c ⟨B.exec, B.bytes, hml, hown, hts, B.returns, B.notSynchronized, hB⟩ _ (lv_entry as (n := y.2.2.1) h3)
theorem cp_goodIn {w0 : Cond} (h0 : w0 ∈ W0) : GoodIn W0 (w0 :: W0) := fun w hw => by
  have hw0 : w ∈ W0 := by
    rcases List.mem_cons.mp hw with rfl | q
    · exact h0
    · exact q
  exact ⟨hw0, good_of_word (List.mem_filter.mp hw0).2⟩
section CPC
variable {E : En} {d : Nat} {own : String} {z : Mt} {p : Program} {e : Env} {s : State} {m : MethodId} {args : Array Value} {below : List Frame} {meth : Method} {c : Code} {Q : State → Prop} {locs : List Loc} {pc : Nat} {ls : Array Slot} {v : Option Value}
theorem cp_after {st0 rest : List Value} (hS : va_S (Ow (eA E)) s.heap s.heap locs)
    (hr : va_Run p (eL E) e (rmd (d + 1)) s m args below meth c s.heap locs 0 0 0 0 (F0 m pc ls st0) rest (fun st oc t => oc = .returned v ∧ t.heap = st.heap) (Ow (eA E)))
    (K : ∀ locs1, va_S (Ow (eA E)) s.heap s.heap locs1 → W p (eL E) e (rmd (d + 1)) s m args below meth c s.heap locs1 0 0 Q (F0 m (pc + 3) ls (v.toList ++ rest))) : W p (eL E) e (rmd (d + 1)) s m args below meth c s.heap locs 0 0 Q (F0 m pc ls st0) := by
  intro T hT X
  obtain ⟨v', st₀, t, T', L, h0, X', hL, e1, e2, ⟨hv, hh⟩, st⟩ := hr T hT X
  cases hv
  obtain ⟨t2, a1, b1⟩ := K (locs ++ L) ⟨Nat.le_refl _, fun _ _ _ => rfl, fun q hq => by
    rcases List.mem_append.mp hq with h | h
    · exact hS.2.2 q h
    · exact hL q h⟩ T' (by rw [e1, hh, h0]) X'
  exact ⟨t2, st t2 a1, b1⟩
theorem cp_S {y : Mt} {idx n : Nat} {as rest : List Value} (C : Cq E (d + 1) own z p s m args meth c) (hls : ls.size = z.2.2.1) (hS : va_S (Ow (eA E)) s.heap s.heap locs) (hd : decode z.2.1 pc = .ok (.invokestatic idx, 3)) (hM : MkS y n) (hL : Cond.methodLink own idx y.1 ∈ W0) (hn : as.length = n) (hsm : (rest.map fun v => v.category).sum ≤ 8) (hC : Cp E d y as v)
    (K : ∀ locs1, va_S (Ow (eA E)) s.heap s.heap locs1 → W p (eL E) e (rmd (d + 1)) s m args below meth c s.heap locs1 0 0 Q (F0 m (pc + 3) ls (v.toList ++ rest))) : W p (eL E) e (rmd (d + 1)) s m args below meth c s.heap locs 0 0 Q (F0 m pc ls (as.reverse ++ rest)) := by
  obtain ⟨hx, hb, hml, hown, hts, hr, hlk, hB⟩ := C
  obtain ⟨⟨⟨m1, m2⟩, ⟨m3, m4, m5⟩, m6⟩, m7⟩ := hM
  refine cp_after hS ?_ K
  exact va_runS (Ts := W0) (own := own) (n := n) (maxL := y.2.2.1) (bytes := y.2.1) (ret := y.2.2.2) ⟨hx, hb, hml, hown, hts⟩ hC ⟨callB_of (ws' := W0) n hts (cp_goodIn m1) rfl rfl rfl (hts _ m2) (hts _ hL) ⟨m3, m4, m5⟩ ⟨by show d + 1 + 1 ≤ d + 1 + 1; omega, by show 8 + (y.2.2.1 + 11) + (200 + 100 * d) ≤ 200 + 100 * (d + 1); omega⟩, hts _ m7⟩ ⟨fun a U g mk q => ⟨q.1, Bs.same (s := U) (U := U.calling g mk a) q.2 rfl⟩, fun U hU hW => ⟨rfl, by show Bs E U U.heap; rw [hU]; exact hB.go hW (Nat.le_refl _) (fun _ _ _ => rfl)⟩⟩ rfl hn hls rfl (lv_room hsm) hd ⟨Nat.zero_le _, Nat.zero_le _⟩
theorem cp_V {y : Mt} {idx n i : Nat} {as rest : List Value} (C : Cq E (d + 1) own z p s m args meth c) (hi : i < 16) (hcl : y.1.cls = "java/lang/String") (hls : ls.size = z.2.2.1) (hS : va_S (Ow (eA E)) s.heap s.heap locs) (hd : decode z.2.1 pc = .ok (.invokevirtual idx, 3)) (hM : MkV y n) (hL : Cond.methodLink own idx y.1 ∈ W0) (hn : as.length = n) (hsm : (rest.map fun v => v.category).sum ≤ 8) (hC : Cp E d y (.ref (eA E (400 + i)) :: as) v)
    (K : ∀ locs1, va_S (Ow (eA E)) s.heap s.heap locs1 → W p (eL E) e (rmd (d + 1)) s m args below meth c s.heap locs1 0 0 Q (F0 m (pc + 3) ls (v.toList ++ rest))) : W p (eL E) e (rmd (d + 1)) s m args below meth c s.heap locs 0 0 Q (F0 m pc ls (as.reverse ++ .ref (eA E (400 + i)) :: rest)) := by
  obtain ⟨hx, hb, hml, hown, hts, hr, hlk, hB⟩ := C
  obtain ⟨⟨⟨m1, m2⟩, ⟨m3, m4, m5⟩, m6⟩, m7, m8⟩ := hM
  have hrc := str_recv (locs := locs) hi hB (H := s.heap) (fun _ _ _ => rfl)
  refine cp_after hS ?_ K
  exact va_runV (Ts := W0) (own := own) (C := y.1.cls) (n := n) (maxL := y.2.2.1) (bytes := y.2.1) (ret := y.2.2.2) ⟨hx, hb, hml, hown, hts⟩ hC ⟨callB_of (ws' := W0) n hts (cp_goodIn m1) rfl rfl rfl (hts _ m2) (hts _ hL) ⟨m3, m4, m5⟩ ⟨by show d + 1 + 1 ≤ d + 1 + 1; omega, by show 8 + (y.2.2.1 + 11) + (200 + 100 * d) ≤ 200 + 100 * (d + 1); omega⟩, hts _ m7, hts _ m8⟩ ⟨fun a U g mk q => ⟨q.1, Bs.same (s := U) (U := U.calling g mk a) q.2 rfl⟩, by rw [hcl]; exact hrc, fun U hU hW => ⟨rfl, by show Bs E U U.heap; rw [hU]; exact hB.go hW (Nat.le_refl _) (fun _ _ _ => rfl)⟩⟩ rfl hn hls rfl (lv_room hsm) hd ⟨Nat.zero_le _, Nat.zero_le _⟩
end CPC
set_option maxRecDepth 100000 in
theorem cp_checkIndexP {E : En} {d : Nat} {i n : Int32} {f : Value} (hf : f = .null ∨ ∃ t, f = .ref t) (h0 : ¬ i < 0) (hn : i < n) : Cp E d z_J_checkIndexP [.int i, .int n, f] (some (.int i)) := by
  have hc1 : f.category = 1 := by rcases hf with rfl | ⟨t, rfl⟩ <;> rfl
  refine cp_of (own := RJ3) ⟨rfl, by decide +kernel, by rcases hf with rfl | ⟨t, rfl⟩ <;> exact Nat.le_of_ble_eq_true rfl⟩ ?_
  intro p e s m below meth c C ls hl
  obtain ⟨hx, hb, hml, hown, hts, hr, hlk, hB⟩ := C
  have hS : va_S (Ow (eA E)) s.heap s.heap [] := va_S.rf
  have h1 : ls[0]? = some (.val (.int i)) := hl.2.2 (0, .int i) (by simp [lv_args])
  have h2 : ls[1]? = some (.val (.int n)) := hl.2.2 (1, .int n) (by simp [lv_args, Value.category])
  refine lv_iload_n hx hb (k := 0) (by decide +kernel) rfl h1 ?_
  refine lv_if_lt (off := 8) (tgt := 9) hx hb (by decide +kernel) (by decide) (fun q => absurd q h0) (fun _ => ?_)
  refine lv_iload_n hx hb (k := 0) (by decide +kernel) rfl h1 ?_
  refine lv_iload_n hx hb (k := 1) (by decide +kernel) rfl h2 ?_
  refine lv_icmp_lt (off := 10) (tgt := 16) hx hb (by decide +kernel) (by decide) (fun _ => ?_) (fun q => absurd hn q)
  refine lv_iload_n hx hb (k := 0) (by decide +kernel) rfl h1 ?_
  exact W.iret (v := i) hx hb hr (fun t ht _ => ⟨rfl, ht⟩) hS.2.2 (by decide +kernel) hlk
set_option maxRecDepth 100000 in
theorem cp_checkIndex {E : En} {d : Nat} {i n : Int32} (h0 : ¬ i < 0) (hn : i < n) : Cp E (d + 1) z_J_checkIndex [.int i, .int n] none := by
  refine cp_of (own := RJ0) ⟨rfl, by decide +kernel, Nat.le_of_ble_eq_true rfl⟩ ?_
  intro p e s m below meth c C ls hl
  obtain ⟨hx, hb, hml, hown, hts, hr, hlk, hB⟩ := id C
  have hS : va_S (Ow (eA E)) s.heap s.heap [] := va_S.rf
  have h1 : ls[0]? = some (.val (.int i)) := hl.2.2 (0, .int i) (by simp [lv_args])
  have h2 : ls[1]? = some (.val (.int n)) := hl.2.2 (1, .int n) (by simp [lv_args, Value.category])
  refine lv_iload_n hx hb (k := 0) (by decide +kernel) rfl h1 ?_
  refine lv_iload_n hx hb (k := 1) (by decide +kernel) rfl h2 ?_
  obtain ⟨f, hf, hZ⟩ : ∃ f : Value, (f = .null ∨ ∃ t, f = .ref t) ∧ va_Z "jdk/internal/util/Preconditions" "SIOOBE_FORMATTER" "Ljava/util/function/BiFunction;" f (Ow (eA E)) s s.heap := by
    rcases hB.2.2.2.2 with q | ⟨t, q⟩
    · exact ⟨_, Or.inl rfl, q⟩
    · exact ⟨_, Or.inr ⟨t, rfl⟩, q⟩
  refine va_gets (own := RJ0) (index := 1053) hx hb hZ hS hown (hts _ flw_sioobe) (fun _ h9 => h9) (by decide +kernel) ?_
  refine cp_S (y := z_J_checkIndexP) (idx := 1059) (n := 3) (as := [.int i, .int n, f]) (rest := []) C hl.1 hS (by decide +kernel) mk_J_checkIndexP lkw_J_checkIndexP rfl (Nat.zero_le _) (cp_checkIndexP hf h0 hn) (fun locs1 hS1 => ?_)
  refine lv_pop hx hb (va := .int i) (by decide +kernel) rfl ?_
  exact W.vret hx hb hr (fun t ht _ => ⟨rfl, ht⟩) hS1.2.2 (by decide +kernel) hlk
set_option maxRecDepth 100000 in
theorem cp_coder {E : En} {d i : Nat} (hi : i < 16) : Cp E d z_J_coder [.ref (eA E (400 + i))] (some (.int 0)) := by
  refine cp_of (own := RJ0) ⟨rfl, by decide +kernel, Nat.le_of_ble_eq_true rfl⟩ ?_
  intro p e s m below meth c C ls hl
  obtain ⟨hx, hb, hml, hown, hts, hr, hlk, hB⟩ := id C
  have hS : va_S (Ow (eA E)) s.heap s.heap [] := va_S.rf
  have h1 : ls[0]? = some (.val (.ref (eA E (400 + i)))) := hl.2.2 (0, .ref (eA E (400 + i))) (by simp [lv_args])
  refine va_gets (own := RJ0) (index := 38) hx hb hB.2.2.2.1 hS hown (hts _ flw_compact) (fun _ h9 => h9) (by decide +kernel) ?_
  refine lv_if_eq (off := 10) (tgt := 13) hx hb (by decide +kernel) (by decide) (fun q => absurd q (by decide)) (fun _ => ?_)
  refine lv_aload_n hx hb (k := 0) (by decide +kernel) rfl h1 ?_
  refine vk_getf (own := RJ0) (index := 15) hx hb (hB.2.2.1.1 i hi).2.1 hS hown (hts _ flw_coder) (fun _ h9 => h9) (by decide +kernel) ?_
  refine lv_goto (tgt := 14) hx hb (off := 4) (by decide +kernel) (by decide) ?_
  exact W.zret (v := 0) hx hb hr rfl (fun t ht _ => ⟨rfl, ht⟩) hS.2.2 (by decide +kernel) hlk
set_option maxRecDepth 100000 in
theorem cp_isLatin1 {E : En} {d i : Nat} (hi : i < 16) : Cp E d z_J_isLatin1 [.ref (eA E (400 + i))] (some (.int 1)) := by
  refine cp_of (own := RJ0) ⟨rfl, by decide +kernel, Nat.le_of_ble_eq_true rfl⟩ ?_
  intro p e s m below meth c C ls hl
  obtain ⟨hx, hb, hml, hown, hts, hr, hlk, hB⟩ := id C
  have hS : va_S (Ow (eA E)) s.heap s.heap [] := va_S.rf
  have h1 : ls[0]? = some (.val (.ref (eA E (400 + i)))) := hl.2.2 (0, .ref (eA E (400 + i))) (by simp [lv_args])
  refine va_gets (own := RJ0) (index := 38) hx hb hB.2.2.2.1 hS hown (hts _ flw_compact) (fun _ h9 => h9) (by decide +kernel) ?_
  refine lv_if_eq (off := 14) (tgt := 17) hx hb (by decide +kernel) (by decide) (fun q => absurd q (by decide)) (fun _ => ?_)
  refine lv_aload_n hx hb (k := 0) (by decide +kernel) rfl h1 ?_
  refine vk_getf (own := RJ0) (index := 15) hx hb (hB.2.2.1.1 i hi).2.1 hS hown (hts _ flw_coder) (fun _ h9 => h9) (by decide +kernel) ?_
  refine lv_if_ne (off := 7) (tgt := 17) hx hb (by decide +kernel) (by decide) (fun q => absurd rfl q) (fun _ => ?_)
  refine lv_iconst (n := 1) (v := 1) hx hb (by decide +kernel) (by decide) ?_
  refine lv_goto (tgt := 18) hx hb (off := 4) (by decide +kernel) (by decide) ?_
  exact W.zret (v := 1) hx hb hr rfl (fun t ht _ => ⟨rfl, ht⟩) hS.2.2 (by decide +kernel) hlk
theorem slen_b : (List.range 16).all (fun i => decide (Int32.ofNat (SLEN.getD i 0) >>> ((0 : Int32) &&& 31) = Int32.ofNat (SLEN.getD i 0)) && decide (SLEN.getD i 0 < 100)) = true := by decide +kernel
set_option maxRecDepth 100000 in
theorem cp_length {E : En} {d i : Nat} (hi : i < 16) : Cp E (d + 1) z_J_length [.ref (eA E (400 + i))] (some (.int (Int32.ofNat (SLEN.getD i 0)))) := by
  refine cp_of (own := RJ0) ⟨rfl, by decide +kernel, Nat.le_of_ble_eq_true rfl⟩ ?_
  intro p e s m below meth c C ls hl
  obtain ⟨hx, hb, hml, hown, hts, hr, hlk, hB⟩ := id C
  have hS : va_S (Ow (eA E)) s.heap s.heap [] := va_S.rf
  have h1 : ls[0]? = some (.val (.ref (eA E (400 + i)))) := hl.2.2 (0, .ref (eA E (400 + i))) (by simp [lv_args])
  refine lv_aload_n hx hb (k := 0) (by decide +kernel) rfl h1 ?_
  refine vk_getf (own := RJ0) (index := 9) hx hb (hB.2.2.1.1 i hi).2.2.1 hS hown (hts _ flw_value) (fun _ h9 => h9) (by decide +kernel) ?_
  refine va_tlen hx hb (hB.2.2.1.1 i hi).2.2.2 hS rfl (by decide +kernel) ?_
  refine lv_aload_n hx hb (k := 0) (by decide +kernel) rfl h1 ?_
  refine cp_V (y := z_J_coder) (idx := 335) (n := 0) (as := []) (rest := [.int (Int32.ofNat (SLEN.getD i 0))]) C hi rfl hl.1 hS (by decide +kernel) mk_J_coder lkw_J_coder rfl (Nat.le_of_ble_eq_true rfl) (cp_coder hi) (fun locs1 hS1 => ?_)
  refine lv_ishr hx hb (by decide +kernel) ?_
  have hq := List.all_eq_true.mp slen_b i (List.mem_range.mpr hi)
  simp only [Bool.and_eq_true, decide_eq_true_eq] at hq
  rw [hq.1]
  exact W.iret (v := Int32.ofNat (SLEN.getD i 0)) hx hb hr (fun t ht _ => ⟨rfl, ht⟩) hS1.2.2 (by decide +kernel) hlk
theorem sbyt_b : (List.range 16).all (fun i => (List.range (SLEN.getD i 0)).all (fun j => decide (((((SBYT.getD i []).getD j 0) &&& 255).toUInt32 % 65536).toInt32 = (SBYT.getD i []).getD j 0) && decide (narrow .char (.int ((SBYT.getD i []).getD j 0)) = .int ((SBYT.getD i []).getD j 0)))) = true := by decide +kernel
theorem sbyt_ok {i : Nat} (hi : i < 16) {j : Int32} (hj : inb j (SLEN.getD i 0)) : ((((SBYT.getD i []).getD j.toNatClampNeg 0) &&& 255).toUInt32 % 65536).toInt32 = (SBYT.getD i []).getD j.toNatClampNeg 0 ∧ narrow .char (.int ((SBYT.getD i []).getD j.toNatClampNeg 0)) = .int ((SBYT.getD i []).getD j.toNatClampNeg 0) := by
  have hq := List.all_eq_true.mp (List.all_eq_true.mp sbyt_b i (List.mem_range.mpr hi)) j.toNatClampNeg (List.mem_range.mpr (Nat.not_le.mp fun q => hj (Or.inr q)))
  simp only [Bool.and_eq_true, decide_eq_true_eq] at hq
  exact hq
theorem inb_lt {i : Nat} (hi : i < 16) {j : Int32} (hj : inb j (SLEN.getD i 0)) : ¬ j < 0 ∧ j < Int32.ofNat (SLEN.getD i 0) := by
  have hq := List.all_eq_true.mp slen_b i (List.mem_range.mpr hi)
  simp only [Bool.and_eq_true, decide_eq_true_eq] at hq
  obtain ⟨k, hk, rfl⟩ := vp_in_of hj (by omega)
  exact ⟨nI_pos (by omega), nI_lt hk (by omega)⟩
set_option maxRecDepth 100000 in
theorem cp_charAtL {E : En} {d i : Nat} (hi : i < 16) {j : Int32} (hj : inb j (SLEN.getD i 0)) : Cp E (d + 2) z_J_charAtL [.ref (eA E (500 + i)), .int j] (some (.int ((SBYT.getD i []).getD j.toNatClampNeg 0))) := by
  refine cp_of (own := RJ1) ⟨rfl, by decide +kernel, Nat.le_of_ble_eq_true rfl⟩ ?_
  intro p e s m below meth c C ls hl
  obtain ⟨hx, hb, hml, hown, hts, hr, hlk, hB⟩ := id C
  have hS : va_S (Ow (eA E)) s.heap s.heap [] := va_S.rf
  have h1 : ls[0]? = some (.val (.ref (eA E (500 + i)))) := hl.2.2 (0, .ref (eA E (500 + i))) (by simp [lv_args])
  have h2 : ls[1]? = some (.val (.int j)) := hl.2.2 (1, .int j) (by simp [lv_args, Value.category])
  obtain ⟨hj0, hjn⟩ := inb_lt hi hj
  obtain ⟨e1, e2⟩ := sbyt_ok hi hj
  refine lv_iload_n hx hb (k := 1) (by decide +kernel) rfl h2 ?_
  refine lv_aload_n hx hb (k := 0) (by decide +kernel) rfl h1 ?_
  refine va_tlen hx hb (hB.2.2.1.1 i hi).2.2.2 hS rfl (by decide +kernel) ?_
  refine cp_S (y := z_J_checkIndex) (idx := 9) (n := 2) (as := [.int j, .int (Int32.ofNat (SLEN.getD i 0))]) (rest := []) C hl.1 hS (by decide +kernel) mk_J_checkIndex lkw_J_checkIndex rfl (Nat.zero_le _) (cp_checkIndex hj0 hjn) (fun locs1 hS1 => ?_)
  refine lv_aload_n hx hb (k := 0) (by decide +kernel) rfl h1 ?_
  refine lv_iload_n hx hb (k := 1) (by decide +kernel) rfl h2 ?_
  refine va_tb hx hb (hB.2.2.1.1 i hi).2.2.2 hS1 hj rfl (by decide +kernel) ?_
  refine lv_sipush (n := 255) (v := 255) hx hb (by decide +kernel) (by decide) ?_
  refine lv_iand hx hb (by decide +kernel) ?_
  refine lv_i2c hx hb (by decide +kernel) e1 ?_
  exact W.zret hx hb hr e2 (fun t ht _ => ⟨rfl, ht⟩) hS1.2.2 (by decide +kernel) hlk
set_option maxRecDepth 100000 in
theorem cp_charAt {E : En} {d i : Nat} (hi : i < 16) {j : Int32} (hj : inb j (SLEN.getD i 0)) : Cp E (d + 3) z_J_charAt [.ref (eA E (400 + i)), .int j] (some (.int ((SBYT.getD i []).getD j.toNatClampNeg 0))) := by
  refine cp_of (own := RJ0) ⟨rfl, by decide +kernel, Nat.le_of_ble_eq_true rfl⟩ ?_
  intro p e s m below meth c C ls hl
  obtain ⟨hx, hb, hml, hown, hts, hr, hlk, hB⟩ := id C
  have hS : va_S (Ow (eA E)) s.heap s.heap [] := va_S.rf
  have h1 : ls[0]? = some (.val (.ref (eA E (400 + i)))) := hl.2.2 (0, .ref (eA E (400 + i))) (by simp [lv_args])
  have h2 : ls[1]? = some (.val (.int j)) := hl.2.2 (1, .int j) (by simp [lv_args, Value.category])
  obtain ⟨e1, e2⟩ := sbyt_ok hi hj
  refine lv_aload_n hx hb (k := 0) (by decide +kernel) rfl h1 ?_
  refine cp_V (d := d + 2) (y := z_J_isLatin1) (idx := 492) (n := 0) (as := []) (rest := []) C hi rfl hl.1 hS (by decide +kernel) mk_J_isLatin1 lkw_J_isLatin1 rfl (Nat.le_of_ble_eq_true rfl) (cp_isLatin1 hi) (fun locs1 hS1 => ?_)
  refine lv_if_eq (off := 12) (tgt := 16) hx hb (by decide +kernel) (by decide) (fun q => absurd q (by decide)) (fun _ => ?_)
  refine lv_aload_n hx hb (k := 0) (by decide +kernel) rfl h1 ?_
  refine vk_getf (own := RJ0) (index := 9) hx hb (hB.2.2.1.1 i hi).2.2.1 hS1 hown (hts _ flw_value) (fun _ h9 => h9) (by decide +kernel) ?_
  refine lv_iload_n hx hb (k := 1) (by decide +kernel) rfl h2 ?_
  refine cp_S (d := d + 2) (y := z_J_charAtL) (idx := 495) (n := 2) (as := [.ref (eA E (500 + i)), .int j]) (rest := []) C hl.1 hS1 (by decide +kernel) mk_J_charAtL lkw_J_charAtL rfl (Nat.zero_le _) (cp_charAtL hi hj) (fun locs2 hS2 => ?_)
  exact W.zret hx hb hr e2 (fun t ht _ => ⟨rfl, ht⟩) hS2.2.2 (by decide +kernel) hlk
theorem cn_of_cp {E : En} {d : Nat} {y : Mt} {as : List Value} {v : Option Value} {h : Hp} {P : Option Value → Hp → Prop} (hC : Cp E d y (as.map (vm (eA E))) (v.map (vm (eA E)))) (hP : P v h) : Cn E d y as h P := by
  intro p e ha hc hk s m args below hf happ hPc hK
  obtain ⟨n, o, h1, h2, h3, ⟨hv, hh⟩, hF⟩ := hC p e ha hc hk s m args below hf happ ⟨hPc.1, hPc.2.2⟩ trivial
  refine ⟨n, o, h1, h2, h3, ⟨⟨v, h, hv, hP, by rw [hh]; exact hPc.2.1⟩, by rw [hh]; exact Nat.le_refl _, fun q _ _ => by rw [hh]⟩, hF⟩
theorem c_J_length {E : En} {d : Nat} (h : Hp) (x0 : Nat) {P : Int32 → Prop} (hO : Okk (str_len x0) P) : Cn E (d + 1) z_J_length [.ref x0] h (RIp h P) := by
  obtain ⟨⟨g1, g2⟩, hO⟩ := ok_if hO
  have hv := cp_length (E := E) (d := d) (i := x0 - 400) (by omega)
  rw [show 400 + (x0 - 400) = x0 by omega] at hv
  refine cn_of_cp (v := some (.int (Int32.ofNat (SLEN.getD (x0 - 400) 0)))) ?_ ⟨_, rfl, rfl, ok_some hO⟩
  rw [List.map_cons, vm_ref _ (by omega)]
  exact hv
theorem c_J_charAt {E : En} {d : Nat} (h : Hp) (x0 : Nat) (x1 : Int32) {P : Int32 → Prop} (hO : Okk (str_at x0 x1) P) : Cn E (d + 3) z_J_charAt [.ref x0, .int x1] h (RIp h P) := by
  obtain ⟨⟨⟨g1, g2⟩, g3⟩, hO⟩ := ok_if hO
  have hv := cp_charAt (E := E) (d := d) (i := x0 - 400) (by omega) g3
  rw [show 400 + (x0 - 400) = x0 by omega] at hv
  refine cn_of_cp (v := some (.int ((SBYT.getD (x0 - 400) []).getD x1.toNatClampNeg 0))) ?_ ⟨_, rfl, rfl, ok_some hO⟩
  rw [List.map_cons, vm_ref _ (by omega)]
  exact hv
