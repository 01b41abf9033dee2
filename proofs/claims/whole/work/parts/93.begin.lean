/-! ===== the start: both constructors, then the law ===== -/
theorem lvs_of {ls : Array Slot} {n : Nat} {l1 l2 : List (Nat × Value)} (h : lv_has ls n l1) (hs : ∀ q ∈ l2, q ∈ l1) : lv_has ls n l2 := ⟨h.1, h.2.1, fun q hq => h.2.2 q (hs q hq)⟩
/-- all labels: the made cells, the script, the constants, their bytes -/
def alZ (al : Nat → Nat) (b : Nat) (adK adV : Nat → Nat) (j : Nat) : Nat := if j < 281 then al j else if j = 300 then b else if j < 500 then adK (j - 400) else adV (j - 500)
theorem alZ_lo {al : Nat → Nat} {b : Nat} {adK adV : Nat → Nat} {j : Nat} (h : j < 281) : alZ al b adK adV j = al j := if_pos h
theorem alZ_b {al : Nat → Nat} {b : Nat} {adK adV : Nat → Nat} : alZ al b adK adV 300 = b := rfl
theorem alZ_k {al : Nat → Nat} {b : Nat} {adK adV : Nat → Nat} {i : Nat} (h : i < 16) : alZ al b adK adV (400 + i) = adK i := by
  unfold alZ
  rw [if_neg (by omega), if_neg (by omega), if_pos (by omega), show 400 + i - 400 = i by omega]
theorem alZ_v {al : Nat → Nat} {b : Nat} {adK adV : Nat → Nat} {i : Nat} : alZ al b adK adV (500 + i) = adV i := by
  unfold alZ
  rw [if_neg (by omega), if_neg (by omega), if_neg (by omega), show 500 + i - 500 = i by omega]
section BEG
variable {p : Program} {e : Env} {s : State} {m : MethodId} {below : List Frame} {meth : Method} {c : Code} {b L : Nat} {xs : Nat → Int32}
/-- from pc 16 on -/
theorem st_law (l : Launch) (hL : L ≤ 4096) (C0 : lw_At p s m meth c b L xs) (hlaw : Okk (W_law (xs, L) hp0) (fun r => r.1 = 1)) {D : va_G} {tys : List (ClassId × FieldType)} {cy : Nat → ClassId} (hK : KxA D tys cy s) {al : Nat → Nat} {H : Heap} {locs : List Loc} {ls : Array Slot}
    (hl : lv_has ls 4 [(0, .ref b), (1, .ref (al 1)), (2, .ref (al 251))]) (hP : va_P D vwCl (wl cy al 1 (List.replicate 280 none)) H) (hD : va_D (fun q => s.heap.size ≤ q) (wl cy al 1 (List.replicate 280 none))) (hS : va_S (fun q => s.heap.size ≤ q) s.heap H locs) : W p l e room_1 s m #[Value.ref b] below meth c H locs 280 11627 (lw_Z below #[Value.ref b] s) (F0 m 16 ls []) := by
  obtain ⟨adK, adV, hR, hV⟩ := st_str C0
  obtain ⟨hx, hb, hret, hml, hown, hts, hX, hbl, hlk, hgv⟩ := C0
  have hs := flat_of_before _ hgv
  obtain ⟨hnw, hKK, hT, hO⟩ := hK
  have htw : ∀ w ∈ W0, w.before #[Value.ref b] s = true := fun w hw => hts w (List.mem_filter.mp hw).1
  have hA : ∀ a : Nat, a < s.heap.size → ¬ s.heap.size ≤ a := fun a ha => by omega
  obtain ⟨al4, eal⟩ : ∃ al4, al4 = alZ al b adK adV := ⟨_, rfl⟩
  have a300 : al4 300 = b := by rw [eal]; exact alZ_b
  have aK : ∀ i, i < 16 → al4 (400 + i) = adK i := fun i hi => by rw [eal]; exact alZ_k hi
  have aV : ∀ i, al4 (500 + i) = adV i := fun i => by rw [eal]; exact alZ_v
  have aL : ∀ j, j < 281 → al4 j = al j := fun j hj => by rw [eal]; exact alZ_lo hj
  have ew : wl cy al 1 (List.replicate 280 none) = wsp cy al4 hp0 := by
    rw [← wl_cg (n := 281) (by omega) aL 1 _ sw_280 (by rw [List.length_replicate]; omega), wl_wsp]
  rw [ew] at hP hD
  have hge : ∀ k, kd k ≠ 99 → s.heap.size ≤ al4 k := fun k hk => hD.2 _ _ (wsp_get cy al4 hp0 hk)
  have hinj : ∀ i j, kd i ≠ 99 → kd j ≠ 99 → al4 i = al4 j → i = j := fun i j hi hj hij => by
    have h1 := hD.1 _ _ _ _ (wsp_get cy al4 hp0 hi) (wsp_get cy al4 hp0 hj) hij
    have := kd_rng hi
    have := kd_rng hj
    omega
  have hOA : ∀ q, Ow al4 q → s.heap.size ≤ q := fun q hq => by
    obtain ⟨k, hk, rfl⟩ := hq
    exact hge k hk
  have hRR : ∀ r ∈ LDS, vk_R (RN r.1) r.2.1 (STX.getD r.2.2 "") (al4 (400 + r.2.2)) s := fun r hr => by
    rw [aK _ (w_lds r hr).1]
    exact hR r hr
  obtain ⟨E, eE⟩ : ∃ E : En, E = (l, D, tys, cy, al4, (xs, L)) := ⟨_, rfl⟩
  have hB : Bs E s s.heap := by
    rw [eE]
    refine ⟨⟨hnw, hKK, hT, hinj⟩, ⟨hRR, ?_, ?_, ?_⟩, ?_, ?_, ?_⟩
    · show va_X (al4 300) L xs s s.heap
      rw [a300]
      exact hX
    · show al4 300 < s.heap.size
      rw [a300]
      exact hbl
    · intro w
      have h1 := hOA _ w
      have h2 : al4 300 = b := a300
      have h3 : s.heap.size ≤ al4 300 := h1
      omega
    · refine vk_S.narrow (A := fun q => s.heap.size ≤ q) ⟨fun i hi => ?_, fun i j hi hj w => hV.2 i j hi hj ?_⟩ hOA
      · show va_O _ (al4 (400 + i)) _ _ _ ∧ va_OF _ _ _ _ (al4 (400 + i)) _ _ _ ∧ va_OF _ _ _ (.ref (al4 (500 + i))) (al4 (400 + i)) _ _ _ ∧ va_T _ (al4 (500 + i)) _ _ _ _ _
        rw [aK i hi, aV i]
        exact hV.1 i hi
      · have w' : al4 (400 + i) = al4 (400 + j) := w
        rw [aK i hi, aK j hj] at w'
        exact w'
    · exact va_Z.narrow (va_Zof (hts _ w_cs.1) (hts _ w_cs.2) (va_eqt (hs _ f_cs.1)) hA) hOA
    · exact va_Zq.narrow (va_Zqof (hts _ w_sf.1) (hts _ w_sf.2) (hs _ f_cs.2) hA) hOA
  have C : Cx p room_1 s m #[Value.ref b] c z_W_law.2.1 z_W_law.2.2.1 13 280 11627 (fun q => s.heap.size ≤ q) (eD E) (eT E) (eC E) (eA E) (eS E) := by
    rw [eE]
    refine ⟨⟨hx, hb, hml, hown, htw, hnw⟩, ⟨hKK, fun h => wsp_D hinj hOA h, hT⟩, ⟨hRR, ?_, ?_, ?_⟩, by decide, by decide, by decide, by decide⟩
    · show va_X (al4 300) L xs s s.heap
      rw [a300]
      exact hX
    · show al4 300 < s.heap.size
      rw [a300]
      exact hbl
    · show ¬ s.heap.size ≤ al4 300
      rw [a300]
      omega
  have hlaw' : Okk (W_law (eS E) hp0) (fun r => r.1 = 1) := by
    rw [eE]
    exact hlaw
  have hOA' : ∀ q, Ow (eA E) q → s.heap.size ≤ q := by
    rw [eE]
    exact hOA
  have hret' : RlR z_W_law (RI (fun r => r.1 = 1)) (GM p (eL E) e room_1 s m #[Value.ref b] below meth c 280 11627 (lw_Z below #[Value.ref b] s) z_W_law.2.2.1 (fun q => s.heap.size ≤ q) (eD E) (eC E) (eA E)) := by
    refine ⟨fun pc lv h hd hz => (by cases hz), fun pc lv v h hd hz => (by cases hz), fun pc lv v h hd hz hv hp => ?_, fun pc lv k n h hd hz => (by cases hz)⟩
    intro ls H locs hl hP hS
    obtain ⟨v', e1, e2⟩ := hp
    cases e1
    have e3 : v = 1 := e2
    subst e3
    exact va_forget (fun q hq => hS.2.2 q hq) (W.widen (by omega) (by omega) (lw_ret hx hb hret hlk hd))
  have hG := rl_gm (e := e) (below := below) (meth := meth) (d := 3 + 16) (Q := lw_Z below #[Value.ref b] s) C hB (fun q h1 h2 => absurd h2 (hA q h1)) hOA' ⟨by decide, by decide⟩ hret'
  have K := c_W_law hG hlaw'
  rw [eE] at K
  refine K ls H locs ?_ hP hS
  show lv_has ls 4 [(0, vm al4 (.ref 300)), (1, vm al4 (.ref 1)), (2, vm al4 (.ref 251))]
  rw [vm_ref al4 (by decide : (300 : Nat) ≠ 0), vm_ref al4 (by decide : (1 : Nat) ≠ 0), vm_ref al4 (by decide : (251 : Nat) ≠ 0), a300, aL 1 (by omega), aL 251 (by omega)]
  exact hl
theorem st_go (l : Launch) (hL : L ≤ 4096) (C0 : lw_At p s m meth c b L xs) (hlaw : Okk (W_law (xs, L) hp0) (fun r => r.1 = 1)) : W p l e room_1 s m #[Value.ref b] below meth c s.heap [] 0 0 (lw_Z below #[Value.ref b] s) (entryFrame m ([Value.ref b] : List Value).toArray 4) := by
  obtain ⟨D, tys, cy, hK⟩ := st_kd C0
  have C00 := C0
  obtain ⟨hx, hb, hret, hml, hown, hts, hX, hbl, hlk, hgv⟩ := C0
  have htw : ∀ w ∈ W0, w.before #[Value.ref b] s = true := fun w hw => hts w (List.mem_filter.mp hw).1
  have Cc : CxC p l room_1 s m #[Value.ref b] c code 4 13 600000 7302250 3 [11, 12] (fun q => s.heap.size ≤ q) D tys cy := ⟨⟨hx, hb, hml, hown, htw⟩, hK, fun q h => h, ⟨by decide, by decide, by decide, by decide⟩, ct_3⟩
  rw [lg_entry_eq]
  have hl := lv_entry [Value.ref b] (n := 4) (show 1 ≤ 4 by omega)
  obtain ⟨i1, i2, i3, i4⟩ := iw_ok (c := 11) (by omega)
  obtain ⟨j1, j2, j3, j4⟩ := iw_ok (c := 12) (by omega)
  have fs0 : ∀ c, c < 13 → ∀ j, j < nf c → defaultValue (tyN c j) = vp_V ((dfl c).map (vm (fun _ => 0))) j := dfl_d
  -- new GrainInn
  refine va_new (D := D) (cl := vwCl) (tys := tys) (A := fun q => s.heap.size ≤ q) (ws := []) (H0 := s.heap) (ci := 11) (fs := (dfl 11).map (vm (fun _ => 0))) (C := RN 11) (T := TN 11) (N := nf 11) hx hb htw (uws_in (by omega)) (tyN 11) (tyn_ok (by omega)) hown (htw _ w_law.1) (htw _ i1) (htw _ i2) hK.2.1 (fun k q h => (by cases h)) ⟨fun i j p q h => (by cases h), fun k q h => (by cases h)⟩ va_S.rf (fun q h => h) (tn_ok (by omega)) (fs0 11 (by omega)) (by decide) (by decide) d_law_0 (fun q1 H1 hP1 hD1 hS1 => ?_)
  refine lv_dup hx hb d_law_3 rfl ?_
  obtain ⟨al1, e1⟩ : ∃ al1 : Nat → Nat, al1 = fun _ => q1 := ⟨_, rfl⟩
  have ew1 : wl cy al1 1 [some (.inl (dfl 11))] = [] ++ [(q1, .inr (11, (dfl 11).map (vm (fun _ => 0))))] := by
    rw [dfl_vm (fun _ => 0) al1, e1]
    rfl
  rw [← ew1] at hP1 hD1
  refine ct_call (al := al1) (r := 1) (k := 1) (as := []) (ws := [some (.inl (dfl 11))]) (rest := [.ref q1]) Cc d_law_4 rfl (by omega) (by omega) (by decide) (by decide) (by decide) rfl rfl rfl (show 1 ≤ 8 by omega) (by decide) (by decide) rfl hl.1 hP1 hD1 hS1 (by rw [e1]; rfl) (fun al2 H2 locs2 hp2 hP2 hD2 hS2 => ?_)
  have a21 : al2 1 = q1 := by rw [hp2 1 (by omega), e1]
  have hP2 : va_P D vwCl (wl cy al2 1 (List.replicate 250 none)) H2 := hP2
  have hD2 : va_D (fun q => s.heap.size ≤ q) (wl cy al2 1 (List.replicate 250 none)) := hD2
  show W p l e room_1 s m #[Value.ref b] below meth c H2 locs2 250 5298 _ (F0 m 7 _ [.ref q1])
  refine lv_astore_n (i := 1) (lv' := [(1, .ref q1), (0, .ref b)]) hx hb d_law_7 rfl hl (by omega) rfl (fun ls1 hl1 => ?_)
  -- new GrainInnModel
  refine va_new (D := D) (cl := vwCl) (tys := tys) (A := fun q => s.heap.size ≤ q) (H0 := s.heap) (ci := 12) (fs := (dfl 12).map (vm (fun _ => 0))) (C := RN 12) (T := TN 12) (N := nf 12) hx hb htw (uws_in (by omega)) (tyN 12) (tyn_ok (by omega)) hown (htw _ w_law.2) (htw _ j1) (htw _ j2) hK.2.1 hP2 hD2 hS2 (fun q h => h) (tn_ok (by omega)) (fs0 12 (by omega)) (by decide) (by decide) d_law_8 (fun q2 H3 hP3 hD3 hS3 => ?_)
  refine lv_dup hx hb d_law_11 rfl ?_
  have ew3 := wl_push (cy := cy) (al := al2) (q := q2) (r := 1) (n := 251) (b := some (.inl (dfl 12))) (e := .inr (12, (dfl 12).map (vm (fun _ => 0)))) (by rw [List.length_replicate]) (by rw [List.length_replicate]; omega) sw_250 (by rw [dfl_vm (fun _ => 0) (va_up al2 251 q2)]; rfl)
  rw [← ew3] at hP3 hD3
  have el : (List.replicate 250 (none : AC) ++ [(some (Sum.inl (dfl 12)) : AC)]).length = 251 := by rw [List.length_append, List.length_replicate]; rfl
  have et : (List.replicate 250 (none : AC) ++ [(some (Sum.inl (dfl 12)) : AC)]).take (251 - 1) = List.replicate 250 none := List.take_left' (by rw [List.length_replicate])
  have eg : (List.replicate 250 (none : AC) ++ [(some (Sum.inl (dfl 12)) : AC)])[251 - 1]? = some (some (.inl (dfl 12))) := by
    rw [List.getElem?_append_right (by rw [List.length_replicate]; omega), List.length_replicate]
    rfl
  refine ct_call (al := va_up al2 251 q2) (r := 1) (k := 251) (as := []) (rest := [.ref q2]) Cc d_law_12 (by rw [el]) (by omega) (by omega) (by decide) (by decide) (by decide) eg rfl rfl (show 1 ≤ 8 by omega) (by decide) (by decide) (by rw [et]; exact sw_250) hl1.1 hP3 hD3 hS3 (by rw [va_up_self]; rfl) (fun al3 H4 locs4 hp4 hP4 hD4 hS4 => ?_)
  rw [et] at hP4 hD4
  have er : List.replicate 250 (none : AC) ++ List.replicate (szI (kd 251)) none = List.replicate 280 none := List.replicate_append_replicate
  rw [er] at hP4 hD4
  have a41 : al3 1 = q1 := by rw [hp4 1 (by omega), va_up_lt al2 q2 (by omega), a21]
  have a42 : al3 251 = q2 := by rw [hp4 251 (by omega), va_up_self]
  show W p l e room_1 s m #[Value.ref b] below meth c H4 locs4 280 11627 _ (F0 m 15 _ [.ref q2])
  refine lv_astore_n (i := 2) (lv' := [(2, .ref q2), (1, .ref q1), (0, .ref b)]) hx hb d_law_15 rfl hl1 (by omega) rfl (fun ls2 hl2 => ?_)
  refine st_law l hL C00 hlaw hK (al := al3) (lvs_of hl2 ?_) hP4 hD4 hS4
  rw [a41, a42]
  intro q hq
  simp only [List.mem_cons, List.not_mem_nil, or_false] at hq ⊢
  rcases hq with h | h | h
  · exact Or.inr (Or.inr h)
  · exact Or.inr (Or.inl h)
  · exact Or.inl h
end BEG
