section STR
variable {p : Program} {s : State} {m : MethodId} {meth : Method} {c : Code} {b L : Nat} {xs : Nat → Int32}
theorem st_str (C0 : lw_At p s m meth c b L xs) : ∃ adK adV : Nat → Nat, (∀ r ∈ LDS, vk_R (RN r.1) r.2.1 (STX.getD r.2.2 "") (adK r.2.2) s) ∧ vk_S 16 SLEN SBYT adK adV (fun q => s.heap.size ≤ q) s s.heap := by
  obtain ⟨hx, hb, hret, hml, hown, hts, hX, hbl, hlk, hgv⟩ := C0
  have hs := flat_of_before _ hgv
  obtain ⟨adK, adV, h1, h2⟩ := vk_Sof (args := #[Value.ref b]) (s := s) (N := 16) (tm := tmS) (len := SLEN) (byt := SBYT) (A := fun q => s.heap.size ≤ q) f_sl (fun i hi => hs _ (f_s1 i hi).1) (fun i hi => hs _ (f_s1 i hi).2.1) (fun i hi => hs _ (f_s1 i hi).2.2.1) (fun i hi => hs _ (f_s1 i hi).2.2.2) (fun i hi j hj => hs _ (f_s2 i hi j hj)) (fun i j hi hj hij => (f_s3 i hi j hj hij).imp (fun h => hs _ h) (fun h => hs _ h)) (fun a ha => by omega)
  refine ⟨adK, adV, fun r hr => ?_, h1⟩
  obtain ⟨a1, a2, a3⟩ := w_lds r hr
  have h3 := hts _ (w_str r hr)
  have h4 := h2 r.2.2 a1
  unfold tmS at h4
  rw [← a3] at h4
  rw [a2] at h3 ⊢
  exact vk_R.of h3 h4
theorem st_kd (C0 : lw_At p s m meth c b L xs) : ∃ (D : va_G) (tys : List (ClassId × FieldType)) (cy : Nat → ClassId), KxA D tys cy s := by
  obtain ⟨hx, hb, hret, hml, hown, hts, hX, hbl, hlk, hgv⟩ := C0
  have htw : ∀ w ∈ W0, w.before #[Value.ref b] s = true := fun w hw => hts w (List.mem_filter.mp hw).1
  have h0 : ∀ k : Nat, ∃ q : ClassId × (Nat → Nat), k < 13 → u_Kn s (RN k) (TN k) (nf k) q.1 q.2 := by
    intro k
    by_cases hk : k < 13
    · obtain ⟨cC, iS, h⟩ := u_known htw (uws_in hk) (htw _ (iw_ok hk).1)
      exact ⟨(cC, iS), fun _ => h⟩
    · exact ⟨(0, fun _ => 0), fun h => absurd h hk⟩
  obtain ⟨f, hf⟩ := Classical.axiomOfChoice h0
  have h1 : ∀ t : Nat, ∃ cA : ClassId, t < 7 → ArrOfT s cA (tyA t) ∧ va_RA s cA (tyA t) := by
    intro t
    have prim : ∀ ty : FieldType, (∀ n, ty ≠ .object n) → (Cond.arrayClass ty).before #[Value.ref b] s = true → tyA t = ty → ∃ cA : ClassId, t < 7 → ArrOfT s cA (tyA t) ∧ va_RA s cA (tyA t) := by
      intro ty hty hw e
      obtain ⟨cA, kA, comp, g1, g2, g3⟩ := Cond.arrayClass_spec (args := #[Value.ref b]) (first := s) (o := none) (s := s) (idx := []) hw
      refine ⟨cA, fun _ => ?_⟩
      rw [e]
      refine ⟨fun n z => ⟨fun k h => (by cases h), kA, g2, comp, g3⟩, ?_⟩
      cases ty with
      | object n => exact absurd rfl (hty n)
      | _ => exact g1
    have obj : ∀ n : String, (Cond.arrayOver (.object n)).before #[Value.ref b] s = true → tyA t = .object n → ∃ cA : ClassId, t < 7 → ArrOfT s cA (tyA t) ∧ va_RA s cA (tyA t) := by
      intro n hw e
      obtain ⟨comp, cA, kA, g1, g2, g3, g4, g5⟩ := Cond.arrayOver_spec (args := #[Value.ref b]) (first := s) (o := none) (s := s) (idx := []) hw
      refine ⟨cA, fun _ => ?_⟩
      rw [e]
      exact ⟨fun n z => ⟨fun k h => (by cases h), kA, g3, comp, g4⟩, kA, comp, g3, g4, g1, g5⟩
    by_cases ht : t < 7
    · by_cases c3 : 3 ≤ t
      · refine obj (tyC t) ?_ (tyA_o t c3 ht)
        have := hts _ (w_over (t - 3) (by omega))
        rwa [show 3 + (t - 3) = t by omega] at this
      · rcases (by omega : t = 0 ∨ t = 1 ∨ t = 2) with rfl | rfl | rfl
        · exact prim .int (fun n h => by cases h) (htw _ w_arr.1) rfl
        · exact prim .byte (fun n h => by cases h) (htw _ w_arr.2.1) rfl
        · exact prim .boolean (fun n h => by cases h) (htw _ w_arr.2.2) rfl
    · exact ⟨0, fun h => absurd h ht⟩
  obtain ⟨cA, hA⟩ := Classical.axiomOfChoice h1
  refine ⟨(fun k => (f k).1, fun k => (f k).2), (List.range 7).map (fun t => (cA t, tyA t)), fun k => cA (k - 20), fun w hw => ?_, ⟨fun k q hq => ?_, fun k q hq => ?_⟩, fun t ht => ?_, fun t ht => va_AO.of (A := #[Value.ref b]) (hts _ (w_over t ht))⟩
  · obtain ⟨a1, a2⟩ := List.mem_filter.mp hw
    have h0 := hts w a1
    cases w <;> first
      | (cases a2; done)
      | exact va_Nw.of rfl h0
  · have hk : k < 13 := (List.getElem?_eq_some_iff.mp hq).1
    have e := (tn_ok hk).symm.trans hq
    cases e
    exact hf k hk
  · have hk : k < 7 := by
      have := (List.getElem?_eq_some_iff.mp hq).1
      rw [List.length_map, List.length_range] at this
      exact this
    rw [List.getElem?_map, List.getElem?_range hk] at hq
    cases hq
    exact hA k hk
  · rw [List.getElem?_map, List.getElem?_range ht]
    show some (cA t, tyA t) = some (cA (20 + t - 20), tyA t)
    rw [show 20 + t - 20 = t by omega]
end STR
theorem wl_wsp (cy : Nat → ClassId) (al : Nat → Nat) : wl cy al 1 (List.replicate 280 none) = wsp cy al hp0 := by
  apply List.ext_getElem?
  intro i
  rw [wl_get]
  by_cases hi : i < 280
  · rw [wsp_at cy al hp0 hi, List.getElem?_replicate, if_pos hi, show 1 + i = i + 1 by omega]
    rfl
  · rw [List.getElem?_replicate, if_neg hi, List.getElem?_eq_none (by rw [wsp_len]; omega)]
    rfl
theorem sw_250 : swl 251 1 (List.replicate 250 none) = true := by decide +kernel
theorem sw_280 : swl 281 1 (List.replicate 280 none) = true := by decide +kernel
theorem d_law_0 : decode code 0 = .ok (.new 7, 3) := by decide +kernel
theorem d_law_3 : decode code 3 = .ok (.dup, 1) := by decide +kernel
theorem d_law_4 : decode code 4 = .ok (.invokespecial 9, 3) := by decide +kernel
theorem d_law_7 : decode code 7 = .ok (.astore_n 1, 1) := by decide +kernel
theorem d_law_8 : decode code 8 = .ok (.new 10, 3) := by decide +kernel
theorem d_law_11 : decode code 11 = .ok (.dup, 1) := by decide +kernel
theorem d_law_12 : decode code 12 = .ok (.invokespecial 12, 3) := by decide +kernel
theorem d_law_15 : decode code 15 = .ok (.astore_n 2, 1) := by decide +kernel
theorem w_law : Cond.classLink (RN 13) 7 (RN 11) ∈ W0 ∧ Cond.classLink (RN 13) 10 (RN 12) ∈ W0 := ⟨clt_ok (q := (13, 7, 11)) (by decide), clt_ok (q := (13, 10, 12)) (by decide)⟩
