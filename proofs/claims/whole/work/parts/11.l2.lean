/-! GrainInnModel.deedBy(J)I -/
noncomputable def M_deedBy_j73 (s0 : Int32) : Option Int32 := some s0
noncomputable def M_deedBy (x0 : Int64) : Option Int32 := if (lg_cmp x0 (7563636 : Int64)) = 0 then ((M_deedBy_j73 (0 : Int32))) else (if (lg_cmp x0 (7561593 : Int64)) = 0 then ((M_deedBy_j73 (1 : Int32))) else (if (lg_cmp x0 (474214787188 : Int64)) = 0 then ((M_deedBy_j73 (2 : Int32))) else (if (lg_cmp x0 (495589684578 : Int64)) = 0 then ((M_deedBy_j73 (3 : Int32))) else (if (lg_cmp x0 (1785686382 : Int64)) = 0 then ((M_deedBy_j73 (4 : Int32))) else (if (lg_cmp x0 (495807392116 : Int64)) = 0 then ((M_deedBy_j73 (5 : Int32))) else ((M_deedBy_j73 (-1 : Int32))))))))
set_option maxRecDepth 100000 in
set_option maxHeartbeats 4000000 in
theorem c_M_deedBy {E : En} {d : Nat} (h : Hp) (x0 : Int64) {P : Int32 → Prop} (hO : Okk (M_deedBy x0) P) : Cn E (d + 1) z_M_deedBy [.long x0] h (RIp h P) := by
  refine cn_of (on := 12) (d := d + 0) ⟨rfl, by decide +kernel, Nat.le_of_ble_eq_true rfl⟩ (fun G hG => ?_)
  unfold M_deedBy at hO
  show G 0 [(0, .long x0)] [] h
  have j73 : ∀ (s0 : Int32), Okk (M_deedBy_j73 s0) P → G 73 [] [.int s0] h := by
    intro s0 hO
    unfold M_deedBy_j73 at hO
    exact eI hG 73 (by decide +kernel) rfl ⟨s0, rfl, rfl, ok_some (Q := P) hO⟩
  refine rb hG 6 0 5 [.lload 0, .ldc2_w 0, .lcmp] [] [7563636] [(0, .long x0)] [.int (lg_cmp x0 (7563636 : Int64))] h [] (by decide +kernel) rfl trivial ?_
  refine riN hG (7) 12 5 (by decide +kernel) (by decide) (fun c1 => ?_) (fun c1 => ?_)
  · have hO := ok_pos c1 hO
    refine rb hG 5 8 73 [.ldc_w 0] [0] [] [(0, .long x0)] [.int (0 : Int32)] h [] (by decide +kernel) rfl trivial ?_
    refine rs hG [] [] rfl ?_
    exact j73 (0 : Int32) hO
  · have hO := ok_neg c1 hO
    refine rb hG 6 12 17 [.lload 0, .ldc2_w 0, .lcmp] [] [7561593] [(0, .long x0)] [.int (lg_cmp x0 (7561593 : Int64))] h [] (by decide +kernel) rfl trivial ?_
    refine riN hG (7) 24 17 (by decide +kernel) (by decide) (fun c2 => ?_) (fun c2 => ?_)
    · have hO := ok_pos c2 hO
      refine rb hG 5 20 73 [.ldc_w 0] [1] [] [(0, .long x0)] [.int (1 : Int32)] h [] (by decide +kernel) rfl trivial ?_
      refine rs hG [] [] rfl ?_
      exact j73 (1 : Int32) hO
    · have hO := ok_neg c2 hO
      refine rb hG 6 24 29 [.lload 0, .ldc2_w 0, .lcmp] [] [474214787188] [(0, .long x0)] [.int (lg_cmp x0 (474214787188 : Int64))] h [] (by decide +kernel) rfl trivial ?_
      refine riN hG (7) 36 29 (by decide +kernel) (by decide) (fun c3 => ?_) (fun c3 => ?_)
      · have hO := ok_pos c3 hO
        refine rb hG 5 32 73 [.ldc_w 0] [2] [] [(0, .long x0)] [.int (2 : Int32)] h [] (by decide +kernel) rfl trivial ?_
        refine rs hG [] [] rfl ?_
        exact j73 (2 : Int32) hO
      · have hO := ok_neg c3 hO
        refine rb hG 6 36 41 [.lload 0, .ldc2_w 0, .lcmp] [] [495589684578] [(0, .long x0)] [.int (lg_cmp x0 (495589684578 : Int64))] h [] (by decide +kernel) rfl trivial ?_
        refine riN hG (7) 48 41 (by decide +kernel) (by decide) (fun c4 => ?_) (fun c4 => ?_)
        · have hO := ok_pos c4 hO
          refine rb hG 5 44 73 [.ldc_w 0] [3] [] [(0, .long x0)] [.int (3 : Int32)] h [] (by decide +kernel) rfl trivial ?_
          refine rs hG [] [] rfl ?_
          exact j73 (3 : Int32) hO
        · have hO := ok_neg c4 hO
          refine rb hG 6 48 53 [.lload 0, .ldc2_w 0, .lcmp] [] [1785686382] [(0, .long x0)] [.int (lg_cmp x0 (1785686382 : Int64))] h [] (by decide +kernel) rfl trivial ?_
          refine riN hG (7) 60 53 (by decide +kernel) (by decide) (fun c5 => ?_) (fun c5 => ?_)
          · have hO := ok_pos c5 hO
            refine rb hG 5 56 73 [.ldc_w 0] [4] [] [(0, .long x0)] [.int (4 : Int32)] h [] (by decide +kernel) rfl trivial ?_
            refine rs hG [] [] rfl ?_
            exact j73 (4 : Int32) hO
          · have hO := ok_neg c5 hO
            refine rb hG 6 60 65 [.lload 0, .ldc2_w 0, .lcmp] [] [495807392116] [(0, .long x0)] [.int (lg_cmp x0 (495807392116 : Int64))] h [] (by decide +kernel) rfl trivial ?_
            refine riN hG (7) 72 65 (by decide +kernel) (by decide) (fun c6 => ?_) (fun c6 => ?_)
            · have hO := ok_pos c6 hO
              refine rb hG 5 68 73 [.ldc_w 0] [5] [] [(0, .long x0)] [.int (5 : Int32)] h [] (by decide +kernel) rfl trivial ?_
              refine rs hG [] [] rfl ?_
              exact j73 (5 : Int32) hO
            · have hO := ok_neg c6 hO
              refine rb hG 4 72 73 [.ldc_w 0] [-1] [] [(0, .long x0)] [.int (-1 : Int32)] h [] (by decide +kernel) rfl trivial ?_
              refine rs hG [] [] rfl ?_
              exact j73 (-1 : Int32) hO
/-! GrainInnModel.has(II)Z -/
noncomputable def M_has_j14 (s0 : Int32) : Option Int32 := if s0 = 0 ∨ s0 = 1 then (some s0) else none
noncomputable def M_has (x0 : Int32) (x1 : Int32) : Option Int32 := if ((sr x0 x1) &&& (1 : Int32)) = (1 : Int32) then ((M_has_j14 (1 : Int32))) else ((M_has_j14 (0 : Int32)))
set_option maxRecDepth 100000 in
set_option maxHeartbeats 4000000 in
theorem c_M_has {E : En} {d : Nat} (h : Hp) (x0 : Int32) (x1 : Int32) {P : Int32 → Prop} (hO : Okk (M_has x0 x1) P) : Cn E (d + 1) z_M_has [.int x0, .int x1] h (RIp h P) := by
  refine cn_of (on := 12) (d := d + 0) ⟨rfl, by decide +kernel, Nat.le_of_ble_eq_true rfl⟩ (fun G hG => ?_)
  unfold M_has at hO
  show G 0 [(0, .int x0), (1, .int x1)] [] h
  have j14 : ∀ (s0 : Int32), Okk (M_has_j14 s0) P → G 14 [] [.int s0] h := by
    intro s0 hO
    unfold M_has_j14 at hO
    obtain ⟨g1, hO⟩ := ok_if hO
    exact eZ hG 14 (by decide +kernel) rfl g1 ⟨s0, rfl, rfl, ok_some (Q := P) hO⟩
  refine rb hG 9 0 6 [.iload 0, .iload 1, .ishr, .ldc_w 0, .iand, .ldc_w 0] [1] [] [(0, .int x0), (1, .int x1)] [.int (1 : Int32), .int ((sr x0 x1) &&& (1 : Int32))] h [] (by decide +kernel) rfl trivial ?_
  refine rjN hG (7) 13 6 (by decide +kernel) (by decide) (fun c2 => ?_) (fun c2 => ?_)
  · have hO := ok_pos c2 hO
    refine rb hG 5 9 14 [.ldc_w 0] [1] [] [(0, .int x0), (1, .int x1)] [.int (1 : Int32)] h [] (by decide +kernel) rfl trivial ?_
    refine rs hG [] [] rfl ?_
    exact j14 (1 : Int32) hO
  · have hO := ok_neg c2 hO
    refine rb hG 4 13 14 [.ldc_w 0] [0] [] [(0, .int x0), (1, .int x1)] [.int (0 : Int32)] h [] (by decide +kernel) rfl trivial ?_
    refine rs hG [] [] rfl ?_
    exact j14 (0 : Int32) hO
/-! GrainInnModel.sitters()Z -/
noncomputable def M_sitters_j84 (x1 : Int32) (h : Hp) : Option (Int32 × Hp) := bnd (wr h 262 (Int32.toNatClampNeg (2 : Int32)) x1) fun h1 => some ((1 : Int32), h1)
noncomputable def M_sitters_j74 (s0 : Int32) (s1 : Int32) (h : Hp) : Option ((Int32 × Hp) ⊕ (Int32 × Hp)) := bnd ((s0 ||| s1)) fun y2 => if (h.1 251 13) = (3 : Int32) then (some (.inl (y2, h))) else (((M_sitters_j84 y2 h).map Sum.inr))
noncomputable def M_sitters_j50 (x1 : Int32) (h : Hp) : Option ((Int32 × Hp) ⊕ (Int32 × Hp)) := if (8 : Int32) ≤ (h.1 262 (Int32.toNatClampNeg (2 : Int32))) then ((M_sitters_j74 x1 (0 : Int32) h)) else ((M_sitters_j74 x1 (sh (1 : Int32) (h.1 262 (Int32.toNatClampNeg (2 : Int32)))) h))
noncomputable def M_sitters_j18 (h : Hp) : Option (Int32 × Hp) := some ((0 : Int32), h)
noncomputable def M_sitters_b2 (x1 : Int32) (h : Hp) : Option ((Int32 × Hp) ⊕ (Int32 × Hp)) := bnd ((h.1 251 12)) fun y5 => (M_take h (2 : Int32) (0 : Int32) (7 : Int32)).bind fun (r6, h7) => if r6 = 0 then (((M_sitters_j18 h7).map Sum.inr)) else (if (8 : Int32) ≤ (h7.1 262 (Int32.toNatClampNeg (2 : Int32))) then ((M_sitters_j50 x1 h7)) else ((M_has x1 (h7.1 262 (Int32.toNatClampNeg (2 : Int32)))).bind fun r10 => if r10 = 0 then ((M_sitters_j50 x1 h7)) else ((M_later h7 (2 : Int32) y5).bind fun h12 => (M_sitters_j50 x1 h12))))
noncomputable def M_sitters_l2 (x1 : Int32) (h : Hp) : Option (Int32 × Hp) := lp (fun s : (Int32 × Hp) => M_sitters_b2 s.1 s.2) (x1, h)
theorem M_sitters_l2_eq (x1 : Int32) (h : Hp) : M_sitters_l2 x1 h = (M_sitters_b2 x1 h).bind (Sum.elim (fun q : (Int32 × Hp) => M_sitters_l2 q.1 q.2) some) := lp_eq _ _
noncomputable def M_sitters (h : Hp) : Option (Int32 × Hp) := (M_sitters_l2 (0 : Int32) h)
set_option maxRecDepth 100000 in
set_option maxHeartbeats 4000000 in
theorem c_M_sitters {E : En} {d : Nat} (h : Hp) {P : (Int32 × Hp) → Prop} (hO : Okk (M_sitters h) P) : Cn E (d + 5) z_M_sitters [.ref 251] h (RI P) := by
  refine cn_of (on := 12) (d := d + 4) ⟨rfl, by decide +kernel, Nat.le_of_ble_eq_true rfl⟩ (fun G hG => ?_)
  unfold M_sitters at hO
  show G 0 [(0, .ref 251)] [] h
  have j84 : ∀ (x1 : Int32) (h : Hp), Okk (M_sitters_j84 x1 h) P → G 84 [(0, .ref 251), (1, .int x1)] [] h := by
    intro x1 h hO
    unfold M_sitters_j84 at hO
    refine rbx hG 8 84 91 [.aload 0, .invokeinterface 1220 11, .ldc_w 0, .iload 1, .iastore] [2] [] (wr h 262 (Int32.toNatClampNeg (2 : Int32)) x1) (fun h1 => [(0, .ref 251), (1, .int x1)]) (fun h1 => []) (fun h1 => h1) [kd 251 = 12, kd 262 = 20 ∧ inb (2 : Int32) (ln 262)] (by decide +kernel) rfl ⟨kd_251, ⟨kd_262, (by decide +kernel)⟩⟩ hO (fun h1 hO => ?_)
    refine rb hG 4 91 92 [.ldc_w 0] [1] [] [(0, .ref 251), (1, .int x1)] [.int (1 : Int32)] h1 [] (by decide +kernel) rfl trivial ?_
    exact eZ hG 92 (by decide +kernel) rfl (Or.inr rfl) ⟨(1 : Int32), rfl, ok_some (Q := P) hO⟩
  have j18 : ∀ (h : Hp), Okk (M_sitters_j18 h) P → G 18 [] [] h := by
    intro h hO
    unfold M_sitters_j18 at hO
    refine rb hG 4 18 19 [.ldc_w 0] [0] [] [] [.int (0 : Int32)] h [] (by decide +kernel) rfl trivial ?_
    exact eZ hG 19 (by decide +kernel) rfl (Or.inl rfl) ⟨(0 : Int32), rfl, ok_some (Q := P) hO⟩
  have l2 : ∀ (x1 : Int32) (h : Hp), Okk (M_sitters_l2 x1 h) P → G 2 [(0, .ref 251), (1, .int x1)] [] h := by
    intro x1 h hO
    obtain ⟨H2, eH2⟩ : ∃ q : (Int32 × Hp) → Prop, q = fun s => G 2 [(0, .ref 251), (1, .int (s.1))] [] (s.2) := ⟨_, rfl⟩
    have w9 : H2 (x1, h) := by
      refine lp_wp (f := fun s : (Int32 × Hp) => M_sitters_b2 s.1 s.2) (H := H2) (Q := P) ?_ (x1, h) hO
      rintro ⟨x1, h⟩ hO
      rw [eH2]
      show G 2 [(0, .ref 251), (1, .int x1)] [] h
      have k2 : ∀ s : (Int32 × Hp), H2 s → G 2 [(0, .ref 251), (1, .int (s.1))] [] (s.2) := fun s q => by rw [eH2] at q; exact q
      replace hO : Okk (M_sitters_b2 x1 h) (Sum.elim H2 P) := hO
      clear eH2
      have j74 : ∀ (s0 : Int32) (s1 : Int32) (h : Hp), Okk (M_sitters_j74 s0 s1 h) (Sum.elim H2 P) → G 74 [(0, .ref 251)] [.int s1, .int s0] h := by
        intro s0 s1 h hO
        unfold M_sitters_j74 at hO
        refine rbx hG 5 74 76 [.ior, .istore 1] [] [] ((s0 ||| s1)) (fun y2 => [(1, .int y2), (0, .ref 251)]) (fun y2 => []) (fun y2 => h) [] (by decide +kernel) rfl trivial hO (fun y2 hO => ?_)
        refine rb hG 6 76 81 [.aload 0, .getfield 1213, .ldc_w 0] [3] [] [(1, .int y2), (0, .ref 251)] [.int (3 : Int32), .int (h.1 251 13)] h [kd 251 = 12] (by decide +kernel) rfl kd_251 ?_
        refine rj hG .eq (-79) 2 81 (by decide +kernel) (by decide) (fun c3 => ?_) (fun c3 => ?_)
        · have hO := ok_pos c3 hO
          refine rs hG [(0, .ref 251), (1, .int y2)] [1, 0] rfl ?_
          exact k2 (y2, h) (ok_some (Q := (Sum.elim H2 P)) hO)
        · have hO := ok_neg c3 hO
          refine rs hG [(0, .ref 251), (1, .int y2)] [1, 0] rfl ?_
          exact j84 y2 h (ok_inr hO)
      have j50 : ∀ (x1 : Int32) (h : Hp), Okk (M_sitters_j50 x1 h) (Sum.elim H2 P) → G 50 [(0, .ref 251), (1, .int x1)] [] h := by
        intro x1 h hO
        unfold M_sitters_j50 at hO
        refine rb hG 9 50 59 [.iload 1, .aload 0, .invokeinterface 1220 11, .ldc_w 0, .iaload, .ldc_w 1] [2, 8] [] [(0, .ref 251), (1, .int x1)] [.int (8 : Int32), .int (h.1 262 (Int32.toNatClampNeg (2 : Int32))), .int x1] h [kd 251 = 12, kd 262 = 20 ∧ inb (2 : Int32) (ln 262)] (by decide +kernel) rfl ⟨kd_251, ⟨kd_262, (by decide +kernel)⟩⟩ ?_
        refine rj hG .ge (14) 73 59 (by decide +kernel) (by decide) (fun c4 => ?_) (fun c4 => ?_)
        · have hO := ok_pos c4 hO
          refine rb hG 4 73 74 [.ldc_w 0] [0] [] [(0, .ref 251), (1, .int x1)] [.int (0 : Int32), .int x1] h [] (by decide +kernel) rfl trivial ?_
          refine rs hG [(0, .ref 251)] [0] rfl ?_
          exact j74 x1 (0 : Int32) h hO
        · have hO := ok_neg c4 hO
          refine rb hG 10 62 74 [.ldc_w 0, .aload 0, .invokeinterface 1220 11, .ldc_w 1, .iaload, .ishl] [1, 2] [] [(0, .ref 251), (1, .int x1)] [.int (sh (1 : Int32) (h.1 262 (Int32.toNatClampNeg (2 : Int32)))), .int x1] h [kd 251 = 12, kd 262 = 20 ∧ inb (2 : Int32) (ln 262)] (by decide +kernel) rfl ⟨kd_251, ⟨kd_262, (by decide +kernel)⟩⟩ ?_
          refine rs hG [(0, .ref 251)] [0] rfl ?_
          exact j74 x1 (sh (1 : Int32) (h.1 262 (Int32.toNatClampNeg (2 : Int32)))) h hO
      unfold M_sitters_b2 at hO
      refine rbx hG 6 2 7 [.aload 0, .getfield 1212, .istore 2] [] [] ((h.1 251 12)) (fun y5 => [(2, .int y5), (0, .ref 251), (1, .int x1)]) (fun y5 => []) (fun y5 => h) [kd 251 = 12] (by decide +kernel) rfl kd_251 hO (fun y5 hO => ?_)
      refine rb hG 7 7 12 [.aload 0, .ldc_w 0, .ldc_w 1, .ldc_w 2] [2, 0, 7] [] [(2, .int y5), (0, .ref 251), (1, .int x1)] [.int (7 : Int32), .int (0 : Int32), .int (2 : Int32), .ref 251] h [] (by decide +kernel) rfl trivial ?_
      refine rv hG z_M_take 170 3 12 251 [.int (2 : Int32), .int (0 : Int32), .int (7 : Int32)] [] (by decide +kernel) mk_M_take lk_12_170 rcv_251 rfl ⟨rfl, Nat.le_of_ble_eq_true rfl⟩ (c_M_take (d := d) h (2 : Int32) (0 : Int32) (7 : Int32) (ok_bind hO)) ?_
      rintro _ h7 ⟨r6, rfl, hO⟩
      refine riN hG (5) 20 15 (by decide +kernel) (by decide) (fun c8 => ?_) (fun c8 => ?_)
      · have hO := ok_pos c8 hO
        refine rs hG [] [] rfl ?_
        exact j18 h7 (ok_inr hO)
      · have hO := ok_neg c8 hO
        refine rb hG 8 20 28 [.aload 0, .invokeinterface 1220 11, .ldc_w 0, .iaload, .ldc_w 1] [2, 8] [] [(2, .int y5), (0, .ref 251), (1, .int x1)] [.int (8 : Int32), .int (h7.1 262 (Int32.toNatClampNeg (2 : Int32)))] h7 [kd 251 = 12, kd 262 = 20 ∧ inb (2 : Int32) (ln 262)] (by decide +kernel) rfl ⟨kd_251, ⟨kd_262, (by decide +kernel)⟩⟩ ?_
        refine rj hG .ge (22) 50 28 (by decide +kernel) (by decide) (fun c9 => ?_) (fun c9 => ?_)
        · have hO := ok_pos c9 hO
          refine rs hG [(0, .ref 251), (1, .int x1)] [1, 2] rfl ?_
          exact j50 x1 h7 hO
        · have hO := ok_neg c9 hO
          refine rb hG 8 31 38 [.iload 1, .aload 0, .invokeinterface 1220 11, .ldc_w 0, .iaload] [2] [] [(2, .int y5), (0, .ref 251), (1, .int x1)] [.int (h7.1 262 (Int32.toNatClampNeg (2 : Int32))), .int x1] h7 [kd 251 = 12, kd 262 = 20 ∧ inb (2 : Int32) (ln 262)] (by decide +kernel) rfl ⟨kd_251, ⟨kd_262, (by decide +kernel)⟩⟩ ?_
          refine rt hG z_M_has 103 2 38 [.int x1, .int (h7.1 262 (Int32.toNatClampNeg (2 : Int32)))] [] (by decide +kernel) mk_M_has lk_12_103 rfl ⟨rfl, Nat.le_of_ble_eq_true rfl⟩ (c_M_has (d := d + 3) h7 x1 (h7.1 262 (Int32.toNatClampNeg (2 : Int32))) (ok_bind hO)) ?_
          rintro _ _ ⟨r10, rfl, rfl, hO⟩
          refine ri hG .eq (9) 50 41 (by decide +kernel) (by decide) (fun c11 => ?_) (fun c11 => ?_)
          · have hO := ok_pos c11 hO
            refine rs hG [(0, .ref 251), (1, .int x1)] [1, 2] rfl ?_
            exact j50 x1 h7 hO
          · have hO := ok_neg c11 hO
            refine rb hG 6 44 47 [.aload 0, .ldc_w 0, .iload 2] [2] [] [(2, .int y5), (0, .ref 251), (1, .int x1)] [.int y5, .int (2 : Int32), .ref 251] h7 [] (by decide +kernel) rfl trivial ?_
            refine rv hG z_M_later 155 2 47 251 [.int (2 : Int32), .int y5] [] (by decide +kernel) mk_M_later lk_12_155 rcv_251 rfl ⟨rfl, Nat.le_of_ble_eq_true rfl⟩ (c_M_later (d := d + 3) h7 (2 : Int32) y5 (ok_bind hO)) ?_
            rintro _ h12 ⟨rfl, hO⟩
            refine rs hG [(0, .ref 251), (1, .int x1)] [1, 2] rfl ?_
            exact j50 x1 h12 hO
    rw [eH2] at w9
    exact w9
  refine rb hG 5 0 2 [.ldc_w 0, .istore 1] [0] [] [(1, .int (0 : Int32)), (0, .ref 251)] [] h [] (by decide +kernel) rfl trivial ?_
  refine rs hG [(0, .ref 251), (1, .int (0 : Int32))] [1, 0] rfl ?_
  exact l2 (0 : Int32) h hO
/-! GrainInnModel.deedNumbers(I)Z -/
noncomputable def M_deedNumbers_j62 (s0 : Int32) (h : Hp) : Option (Int32 × Hp) := if s0 = 0 ∨ s0 = 1 then (some (s0, h)) else none
noncomputable def M_deedNumbers_j61 (h : Hp) : Option (Int32 × Hp) := (M_deedNumbers_j62 (0 : Int32) h)
noncomputable def M_deedNumbers_j90 (s0 : Int32) (h : Hp) : Option (Int32 × Hp) := if s0 = 0 ∨ s0 = 1 then (some (s0, h)) else none
noncomputable def M_deedNumbers_j89 (h : Hp) : Option (Int32 × Hp) := (M_deedNumbers_j90 (0 : Int32) h)
noncomputable def M_deedNumbers_j131 (h : Hp) : Option (Int32 × Hp) := some ((1 : Int32), h)
noncomputable def M_deedNumbers_j130 (s0 : Int32) (h : Hp) : Option (Int32 × Hp) := if s0 = 0 ∨ s0 = 1 then (some (s0, h)) else none
noncomputable def M_deedNumbers_j129 (h : Hp) : Option (Int32 × Hp) := (M_deedNumbers_j130 (0 : Int32) h)
noncomputable def M_deedNumbers_j99 (h : Hp) : Option (Int32 × Hp) := (M_take h (1 : Int32) (0 : Int32) (4 : Int32)).bind fun (r4, h5) => if r4 = 0 then ((M_deedNumbers_j129 h5)) else ((M_takeBut h5 (2 : Int32) (0 : Int32) (4 : Int32) (h5.1 262 (Int32.toNatClampNeg (1 : Int32)))).bind fun (r7, h8) => if r7 = 0 then ((M_deedNumbers_j129 h8)) else ((M_deedNumbers_j130 (1 : Int32) h8)))
noncomputable def M_deedNumbers (h : Hp) (x1 : Int32) : Option (Int32 × Hp) := if x1 = (0 : Int32) then ((M_take h (1 : Int32) (0 : Int32) (4 : Int32)).bind fun (r11, h12) => if r11 = 0 then ((M_deedNumbers_j61 h12)) else ((M_sitters h12).bind fun (r14, h15) => if r14 = 0 then ((M_deedNumbers_j61 h15)) else ((M_deedNumbers_j62 (1 : Int32) h15)))) else (if x1 = (1 : Int32) then ((M_take h (1 : Int32) (0 : Int32) (7 : Int32)).bind fun (r18, h19) => if r18 = 0 then ((M_deedNumbers_j89 h19)) else ((M_take h19 (2 : Int32) (0 : Int32) (9 : Int32)).bind fun (r21, h22) => if r21 = 0 then ((M_deedNumbers_j89 h22)) else ((M_deedNumbers_j90 (1 : Int32) h22)))) else (if x1 = (2 : Int32) then ((M_deedNumbers_j131 h)) else (if x1 = (3 : Int32) then ((M_take h (1 : Int32) (0 : Int32) (4 : Int32)).bind fun (r26, h27) => if r26 = 0 ∨ r26 = 1 then (some (r26, h27)) else none) else (if x1 = (4 : Int32) then ((M_deedNumbers_j99 h)) else (if x1 = (5 : Int32) then ((M_deedNumbers_j99 h)) else ((M_deedNumbers_j131 h)))))))
set_option maxRecDepth 100000 in
set_option maxHeartbeats 4000000 in
theorem c_M_deedNumbers {E : En} {d : Nat} (h : Hp) (x1 : Int32) {P : (Int32 × Hp) → Prop} (hO : Okk (M_deedNumbers h x1) P) : Cn E (d + 6) z_M_deedNumbers [.ref 251, .int x1] h (RI P) := by
  refine cn_of (on := 12) (d := d + 5) ⟨rfl, by decide +kernel, Nat.le_of_ble_eq_true rfl⟩ (fun G hG => ?_)
  unfold M_deedNumbers at hO
  show G 0 [(0, .ref 251), (1, .int x1)] [] h
  have j62 : ∀ (s0 : Int32) (h : Hp), Okk (M_deedNumbers_j62 s0 h) P → G 62 [] [.int s0] h := by
    intro s0 h hO
    unfold M_deedNumbers_j62 at hO
    obtain ⟨g1, hO⟩ := ok_if hO
    exact eZ hG 62 (by decide +kernel) rfl g1 ⟨s0, rfl, ok_some (Q := P) hO⟩
  have j61 : ∀ (h : Hp), Okk (M_deedNumbers_j61 h) P → G 61 [] [] h := by
    intro h hO
    unfold M_deedNumbers_j61 at hO
    refine rb hG 4 61 62 [.ldc_w 0] [0] [] [] [.int (0 : Int32)] h [] (by decide +kernel) rfl trivial ?_
    exact j62 (0 : Int32) h hO
  have j90 : ∀ (s0 : Int32) (h : Hp), Okk (M_deedNumbers_j90 s0 h) P → G 90 [] [.int s0] h := by
    intro s0 h hO
    unfold M_deedNumbers_j90 at hO
    obtain ⟨g2, hO⟩ := ok_if hO
    exact eZ hG 90 (by decide +kernel) rfl g2 ⟨s0, rfl, ok_some (Q := P) hO⟩
  have j89 : ∀ (h : Hp), Okk (M_deedNumbers_j89 h) P → G 89 [] [] h := by
    intro h hO
    unfold M_deedNumbers_j89 at hO
    refine rb hG 4 89 90 [.ldc_w 0] [0] [] [] [.int (0 : Int32)] h [] (by decide +kernel) rfl trivial ?_
    exact j90 (0 : Int32) h hO
  have j131 : ∀ (h : Hp), Okk (M_deedNumbers_j131 h) P → G 131 [] [] h := by
    intro h hO
    unfold M_deedNumbers_j131 at hO
    refine rb hG 4 131 132 [.ldc_w 0] [1] [] [] [.int (1 : Int32)] h [] (by decide +kernel) rfl trivial ?_
    exact eZ hG 132 (by decide +kernel) rfl (Or.inr rfl) ⟨(1 : Int32), rfl, ok_some (Q := P) hO⟩
  have j130 : ∀ (s0 : Int32) (h : Hp), Okk (M_deedNumbers_j130 s0 h) P → G 130 [] [.int s0] h := by
    intro s0 h hO
    unfold M_deedNumbers_j130 at hO
    obtain ⟨g3, hO⟩ := ok_if hO
    exact eZ hG 130 (by decide +kernel) rfl g3 ⟨s0, rfl, ok_some (Q := P) hO⟩
  have j129 : ∀ (h : Hp), Okk (M_deedNumbers_j129 h) P → G 129 [] [] h := by
    intro h hO
    unfold M_deedNumbers_j129 at hO
    refine rb hG 4 129 130 [.ldc_w 0] [0] [] [] [.int (0 : Int32)] h [] (by decide +kernel) rfl trivial ?_
    exact j130 (0 : Int32) h hO
  have j99 : ∀ (h : Hp), Okk (M_deedNumbers_j99 h) P → G 99 [(0, .ref 251)] [] h := by
    intro h hO
    unfold M_deedNumbers_j99 at hO
    refine rb hG 7 99 103 [.aload 0, .ldc_w 0, .ldc_w 1, .ldc_w 2] [1, 0, 4] [] [(0, .ref 251)] [.int (4 : Int32), .int (0 : Int32), .int (1 : Int32), .ref 251] h [] (by decide +kernel) rfl trivial ?_
    refine rv hG z_M_take 170 3 103 251 [.int (1 : Int32), .int (0 : Int32), .int (4 : Int32)] [] (by decide +kernel) mk_M_take lk_12_170 rcv_251 rfl ⟨rfl, Nat.le_of_ble_eq_true rfl⟩ (c_M_take (d := d + 1) h (1 : Int32) (0 : Int32) (4 : Int32) (ok_bind hO)) ?_
    rintro _ h5 ⟨r4, rfl, hO⟩
    refine ri hG .eq (23) 129 106 (by decide +kernel) (by decide) (fun c6 => ?_) (fun c6 => ?_)
    · have hO := ok_pos c6 hO
      refine rs hG [] [] rfl ?_
      exact j129 h5 hO
    · have hO := ok_neg c6 hO
      refine rb hG 11 109 119 [.aload 0, .ldc_w 0, .ldc_w 1, .ldc_w 2, .aload 0, .invokeinterface 1220 11, .ldc_w 3, .iaload] [2, 0, 4, 1] [] [(0, .ref 251)] [.int (h5.1 262 (Int32.toNatClampNeg (1 : Int32))), .int (4 : Int32), .int (0 : Int32), .int (2 : Int32), .ref 251] h5 [kd 251 = 12, kd 262 = 20 ∧ inb (1 : Int32) (ln 262)] (by decide +kernel) rfl ⟨kd_251, ⟨kd_262, (by decide +kernel)⟩⟩ ?_
      refine rv hG z_M_takeBut 166 4 119 251 [.int (2 : Int32), .int (0 : Int32), .int (4 : Int32), .int (h5.1 262 (Int32.toNatClampNeg (1 : Int32)))] [] (by decide +kernel) mk_M_takeBut lk_12_166 rcv_251 rfl ⟨rfl, Nat.le_of_ble_eq_true rfl⟩ (c_M_takeBut (d := d + 2) h5 (2 : Int32) (0 : Int32) (4 : Int32) (h5.1 262 (Int32.toNatClampNeg (1 : Int32))) (ok_bind hO)) ?_
      rintro _ h8 ⟨r7, rfl, hO⟩
      refine ri hG .eq (7) 129 122 (by decide +kernel) (by decide) (fun c9 => ?_) (fun c9 => ?_)
      · have hO := ok_pos c9 hO
        refine rs hG [] [] rfl ?_
        exact j129 h8 hO
      · have hO := ok_neg c9 hO
        refine rb hG 5 125 130 [.ldc_w 0] [1] [] [(0, .ref 251)] [.int (1 : Int32)] h8 [] (by decide +kernel) rfl trivial ?_
        refine rs hG [] [] rfl ?_
        exact j130 (1 : Int32) h8 hO
  refine rb hG 4 0 1 [.iload 1] [] [] [(0, .ref 251), (1, .int x1)] [.int x1] h [] (by decide +kernel) rfl trivial ?_
  refine rw9 hG (130) (0) (5) #[(39), (62), (130), (90), (98), (98)] 39 1 [40, 63, 131, 91, 99, 99] 131 (by decide +kernel) (by decide +kernel) ?_
  refine sw_c (0 : Int32) (by decide) (fun c10 => ?_) (fun c10 => ?_)
  · have hO := ok_pos c10 hO
    refine rb hG 7 40 44 [.aload 0, .ldc_w 0, .ldc_w 1, .ldc_w 2] [1, 0, 4] [] [(0, .ref 251), (1, .int x1)] [.int (4 : Int32), .int (0 : Int32), .int (1 : Int32), .ref 251] h [] (by decide +kernel) rfl trivial ?_
    refine rv hG z_M_take 170 3 44 251 [.int (1 : Int32), .int (0 : Int32), .int (4 : Int32)] [] (by decide +kernel) mk_M_take lk_12_170 rcv_251 rfl ⟨rfl, Nat.le_of_ble_eq_true rfl⟩ (c_M_take (d := d + 1) h (1 : Int32) (0 : Int32) (4 : Int32) (ok_bind hO)) ?_
    rintro _ h12 ⟨r11, rfl, hO⟩
    refine ri hG .eq (14) 61 47 (by decide +kernel) (by decide) (fun c13 => ?_) (fun c13 => ?_)
    · have hO := ok_pos c13 hO
      refine rs hG [] [] rfl ?_
      exact j61 h12 hO
    · have hO := ok_neg c13 hO
      refine rb hG 4 50 51 [.aload 0] [] [] [(0, .ref 251), (1, .int x1)] [.ref 251] h12 [] (by decide +kernel) rfl trivial ?_
      refine rv hG z_M_sitters 212 0 51 251 [] [] (by decide +kernel) mk_M_sitters lk_12_212 rcv_251 rfl ⟨rfl, Nat.le_of_ble_eq_true rfl⟩ (c_M_sitters (d := d) h12 (ok_bind hO)) ?_
      rintro _ h15 ⟨r14, rfl, hO⟩
      refine ri hG .eq (7) 61 54 (by decide +kernel) (by decide) (fun c16 => ?_) (fun c16 => ?_)
      · have hO := ok_pos c16 hO
        refine rs hG [] [] rfl ?_
        exact j61 h15 hO
      · have hO := ok_neg c16 hO
        refine rb hG 5 57 62 [.ldc_w 0] [1] [] [(0, .ref 251), (1, .int x1)] [.int (1 : Int32)] h15 [] (by decide +kernel) rfl trivial ?_
        refine rs hG [] [] rfl ?_
        exact j62 (1 : Int32) h15 hO
  have hO := ok_neg c10 hO
  refine sw_c (1 : Int32) (by decide) (fun c17 => ?_) (fun c17 => ?_)
  · have hO := ok_pos c17 hO
    refine rb hG 7 63 68 [.aload 0, .ldc_w 0, .ldc_w 1, .ldc_w 2] [1, 0, 7] [] [(0, .ref 251), (1, .int x1)] [.int (7 : Int32), .int (0 : Int32), .int (1 : Int32), .ref 251] h [] (by decide +kernel) rfl trivial ?_
    refine rv hG z_M_take 170 3 68 251 [.int (1 : Int32), .int (0 : Int32), .int (7 : Int32)] [] (by decide +kernel) mk_M_take lk_12_170 rcv_251 rfl ⟨rfl, Nat.le_of_ble_eq_true rfl⟩ (c_M_take (d := d + 1) h (1 : Int32) (0 : Int32) (7 : Int32) (ok_bind hO)) ?_
    rintro _ h19 ⟨r18, rfl, hO⟩
    refine ri hG .eq (18) 89 71 (by decide +kernel) (by decide) (fun c20 => ?_) (fun c20 => ?_)
    · have hO := ok_pos c20 hO
      refine rs hG [] [] rfl ?_
      exact j89 h19 hO
    · have hO := ok_neg c20 hO
      refine rb hG 7 74 79 [.aload 0, .ldc_w 0, .ldc_w 1, .ldc_w 2] [2, 0, 9] [] [(0, .ref 251), (1, .int x1)] [.int (9 : Int32), .int (0 : Int32), .int (2 : Int32), .ref 251] h19 [] (by decide +kernel) rfl trivial ?_
      refine rv hG z_M_take 170 3 79 251 [.int (2 : Int32), .int (0 : Int32), .int (9 : Int32)] [] (by decide +kernel) mk_M_take lk_12_170 rcv_251 rfl ⟨rfl, Nat.le_of_ble_eq_true rfl⟩ (c_M_take (d := d + 1) h19 (2 : Int32) (0 : Int32) (9 : Int32) (ok_bind hO)) ?_
      rintro _ h22 ⟨r21, rfl, hO⟩
      refine ri hG .eq (7) 89 82 (by decide +kernel) (by decide) (fun c23 => ?_) (fun c23 => ?_)
      · have hO := ok_pos c23 hO
        refine rs hG [] [] rfl ?_
        exact j89 h22 hO
      · have hO := ok_neg c23 hO
        refine rb hG 5 85 90 [.ldc_w 0] [1] [] [(0, .ref 251), (1, .int x1)] [.int (1 : Int32)] h22 [] (by decide +kernel) rfl trivial ?_
        refine rs hG [] [] rfl ?_
        exact j90 (1 : Int32) h22 hO
  have hO := ok_neg c17 hO
  refine sw_c (2 : Int32) (by decide) (fun c24 => ?_) (fun c24 => ?_)
  · have hO := ok_pos c24 hO
    refine rs hG [] [] rfl ?_
    exact j131 h hO
  have hO := ok_neg c24 hO
  refine sw_c (3 : Int32) (by decide) (fun c25 => ?_) (fun c25 => ?_)
  · have hO := ok_pos c25 hO
    refine rb hG 7 91 95 [.aload 0, .ldc_w 0, .ldc_w 1, .ldc_w 2] [1, 0, 4] [] [(0, .ref 251), (1, .int x1)] [.int (4 : Int32), .int (0 : Int32), .int (1 : Int32), .ref 251] h [] (by decide +kernel) rfl trivial ?_
    refine rv hG z_M_take 170 3 95 251 [.int (1 : Int32), .int (0 : Int32), .int (4 : Int32)] [] (by decide +kernel) mk_M_take lk_12_170 rcv_251 rfl ⟨rfl, Nat.le_of_ble_eq_true rfl⟩ (c_M_take (d := d + 1) h (1 : Int32) (0 : Int32) (4 : Int32) (ok_bind hO)) ?_
    rintro _ h27 ⟨r26, rfl, hO⟩
    obtain ⟨g28, hO⟩ := ok_if hO
    exact eZ hG 98 (by decide +kernel) rfl g28 ⟨r26, rfl, ok_some (Q := P) hO⟩
  have hO := ok_neg c25 hO
  refine sw_c (4 : Int32) (by decide) (fun c29 => ?_) (fun c29 => ?_)
  · have hO := ok_pos c29 hO
    refine rs hG [(0, .ref 251)] [0] rfl ?_
    exact j99 h hO
  have hO := ok_neg c29 hO
  refine sw_c (5 : Int32) (by decide) (fun c30 => ?_) (fun c30 => ?_)
  · have hO := ok_pos c30 hO
    refine rs hG [(0, .ref 251)] [0] rfl ?_
    exact j99 h hO
  have hO := ok_neg c30 hO
  show G 131 _ _ _
  refine rs hG [] [] rfl ?_
  exact j131 h hO
/-! GrainInnModel.eveningLine(JI)Z -/
noncomputable def M_eveningLine (h : Hp) (x1 : Int64) (x3 : Int32) : Option (Int32 × Hp) := (M_deedBy x1).bind fun r1 => if r1 = (-1 : Int32) then ((M_fails h).bind fun (r3, h4) => if r3 = 0 ∨ r3 = 1 then (some (r3, h4)) else none) else ((M_full h (0 : Int32) (40 : Int32) x3).bind fun h6 => (M_token h6).bind fun h7 => bnd (wr h7 262 (Int32.toNatClampNeg (1 : Int32)) (-1 : Int32)) fun h8 => bnd (wr h8 262 (Int32.toNatClampNeg (2 : Int32)) (-1 : Int32)) fun h9 => (M_deedNumbers h9 r1).bind fun (r10, h11) => if r10 = 0 then (some ((0 : Int32), h11)) else (bnd (wr h11 262 (Int32.toNatClampNeg (0 : Int32)) r1) fun h13 => (M_keep h13 (0 : Int32) (1 : Int32) (3 : Int32) (40 : Int32)).bind fun h14 => some ((1 : Int32), h14)))
set_option maxRecDepth 100000 in
set_option maxHeartbeats 4000000 in
theorem c_M_eveningLine {E : En} {d : Nat} (h : Hp) (x1 : Int64) (x3 : Int32) {P : (Int32 × Hp) → Prop} (hO : Okk (M_eveningLine h x1 x3) P) : Cn E (d + 7) z_M_eveningLine [.ref 251, .long x1, .int x3] h (RI P) := by
  refine cn_of (on := 12) (d := d + 6) ⟨rfl, by decide +kernel, Nat.le_of_ble_eq_true rfl⟩ (fun G hG => ?_)
  unfold M_eveningLine at hO
  show G 0 [(0, .ref 251), (1, .long x1), (3, .int x3)] [] h
  refine rb hG 4 0 1 [.lload 1] [] [] [(0, .ref 251), (1, .long x1), (3, .int x3)] [.long x1] h [] (by decide +kernel) rfl trivial ?_
  refine rt hG z_M_deedBy 215 1 1 [.long x1] [] (by decide +kernel) mk_M_deedBy lk_12_215 rfl ⟨rfl, Nat.le_of_ble_eq_true rfl⟩ (c_M_deedBy (d := d + 5) h x1 (ok_bind hO)) ?_
  rintro _ _ ⟨r1, rfl, rfl, hO⟩
  refine rb hG 6 4 9 [.istore 4, .iload 4, .ldc_w 0] [-1] [] [(4, .int r1), (0, .ref 251), (1, .long x1), (3, .int x3)] [.int (-1 : Int32), .int r1] h [] (by decide +kernel) rfl trivial ?_
  refine rjN hG (8) 17 9 (by decide +kernel) (by decide) (fun c2 => ?_) (fun c2 => ?_)
  · have hO := ok_pos c2 hO
    refine rb hG 4 12 13 [.aload 0] [] [] [(4, .int r1), (0, .ref 251), (1, .long x1), (3, .int x3)] [.ref 251] h [] (by decide +kernel) rfl trivial ?_
    refine rv hG z_M_fails 151 0 13 251 [] [] (by decide +kernel) mk_M_fails lk_12_151 rcv_251 rfl ⟨rfl, Nat.le_of_ble_eq_true rfl⟩ (c_M_fails (d := d + 5) h (ok_bind hO)) ?_
    rintro _ h4 ⟨r3, rfl, hO⟩
    obtain ⟨g5, hO⟩ := ok_if hO
    exact eZ hG 16 (by decide +kernel) rfl g5 ⟨r3, rfl, ok_some (Q := P) hO⟩
  · have hO := ok_neg c2 hO
    refine rb hG 7 17 22 [.aload 0, .ldc_w 0, .ldc_w 1, .iload 3] [0, 40] [] [(4, .int r1), (0, .ref 251), (1, .long x1), (3, .int x3)] [.int x3, .int (40 : Int32), .int (0 : Int32), .ref 251] h [] (by decide +kernel) rfl trivial ?_
    refine rv hG z_M_full 188 3 22 251 [.int (0 : Int32), .int (40 : Int32), .int x3] [] (by decide +kernel) mk_M_full lk_12_188 rcv_251 rfl ⟨rfl, Nat.le_of_ble_eq_true rfl⟩ (c_M_full (d := d + 4) h (0 : Int32) (40 : Int32) x3 (ok_bind hO)) ?_
    rintro _ h6 ⟨rfl, hO⟩
    refine rb hG 4 25 26 [.aload 0] [] [] [(4, .int r1), (0, .ref 251), (1, .long x1), (3, .int x3)] [.ref 251] h6 [] (by decide +kernel) rfl trivial ?_
    refine rv hG z_M_token 163 0 26 251 [] [] (by decide +kernel) mk_M_token lk_12_163 rcv_251 rfl ⟨rfl, Nat.le_of_ble_eq_true rfl⟩ (c_M_token (d := d + 4) h6 (ok_bind hO)) ?_
    rintro _ h7 ⟨rfl, hO⟩
    refine rbx hG 8 29 36 [.aload 0, .invokeinterface 1220 11, .ldc_w 0, .ldc_w 1, .iastore] [1, -1] [] (wr h7 262 (Int32.toNatClampNeg (1 : Int32)) (-1 : Int32)) (fun h8 => [(4, .int r1), (0, .ref 251), (1, .long x1), (3, .int x3)]) (fun h8 => []) (fun h8 => h8) [kd 251 = 12, kd 262 = 20 ∧ inb (1 : Int32) (ln 262)] (by decide +kernel) rfl ⟨kd_251, ⟨kd_262, (by decide +kernel)⟩⟩ hO (fun h8 hO => ?_)
    refine rbx hG 8 36 43 [.aload 0, .invokeinterface 1220 11, .ldc_w 0, .ldc_w 1, .iastore] [2, -1] [] (wr h8 262 (Int32.toNatClampNeg (2 : Int32)) (-1 : Int32)) (fun h9 => [(4, .int r1), (0, .ref 251), (1, .long x1), (3, .int x3)]) (fun h9 => []) (fun h9 => h9) [kd 251 = 12, kd 262 = 20 ∧ inb (2 : Int32) (ln 262)] (by decide +kernel) rfl ⟨kd_251, ⟨kd_262, (by decide +kernel)⟩⟩ hO (fun h9 hO => ?_)
    refine rb hG 5 43 46 [.aload 0, .iload 4] [] [] [(4, .int r1), (0, .ref 251), (1, .long x1), (3, .int x3)] [.int r1, .ref 251] h9 [] (by decide +kernel) rfl trivial ?_
    refine rv hG z_M_deedNumbers 219 1 46 251 [.int r1] [] (by decide +kernel) mk_M_deedNumbers lk_12_219 rcv_251 rfl ⟨rfl, Nat.le_of_ble_eq_true rfl⟩ (c_M_deedNumbers (d := d) h9 r1 (ok_bind hO)) ?_
    rintro _ h11 ⟨r10, rfl, hO⟩
    refine riN hG (5) 54 49 (by decide +kernel) (by decide) (fun c12 => ?_) (fun c12 => ?_)
    · have hO := ok_pos c12 hO
      refine rb hG 4 52 53 [.ldc_w 0] [0] [] [(4, .int r1), (0, .ref 251), (1, .long x1), (3, .int x3)] [.int (0 : Int32)] h11 [] (by decide +kernel) rfl trivial ?_
      exact eZ hG 53 (by decide +kernel) rfl (Or.inl rfl) ⟨(0 : Int32), rfl, ok_some (Q := P) hO⟩
    · have hO := ok_neg c12 hO
      refine rbx hG 8 54 62 [.aload 0, .invokeinterface 1220 11, .ldc_w 0, .iload 4, .iastore] [0] [] (wr h11 262 (Int32.toNatClampNeg (0 : Int32)) r1) (fun h13 => [(4, .int r1), (0, .ref 251), (1, .long x1), (3, .int x3)]) (fun h13 => []) (fun h13 => h13) [kd 251 = 12, kd 262 = 20 ∧ inb (0 : Int32) (ln 262)] (by decide +kernel) rfl ⟨kd_251, ⟨kd_262, (by decide +kernel)⟩⟩ hO (fun h13 hO => ?_)
      refine rb hG 8 62 68 [.aload 0, .ldc_w 0, .ldc_w 1, .ldc_w 2, .ldc_w 3] [0, 1, 3, 40] [] [(4, .int r1), (0, .ref 251), (1, .long x1), (3, .int x3)] [.int (40 : Int32), .int (3 : Int32), .int (1 : Int32), .int (0 : Int32), .ref 251] h13 [] (by decide +kernel) rfl trivial ?_
      refine rv hG z_M_keep 196 4 68 251 [.int (0 : Int32), .int (1 : Int32), .int (3 : Int32), .int (40 : Int32)] [] (by decide +kernel) mk_M_keep lk_12_196 rcv_251 rfl ⟨rfl, Nat.le_of_ble_eq_true rfl⟩ (c_M_keep (d := d + 5) h13 (0 : Int32) (1 : Int32) (3 : Int32) (40 : Int32) (ok_bind hO)) ?_
      rintro _ h14 ⟨rfl, hO⟩
      refine rb hG 4 71 72 [.ldc_w 0] [1] [] [(4, .int r1), (0, .ref 251), (1, .long x1), (3, .int x3)] [.int (1 : Int32)] h14 [] (by decide +kernel) rfl trivial ?_
      exact eZ hG 72 (by decide +kernel) rfl (Or.inr rfl) ⟨(1 : Int32), rfl, ok_some (Q := P) hO⟩
/-! GrainInnModel.wishLine(JI)Z -/
noncomputable def M_wishLine_j123 (h : Hp) : Option (Int32 × Hp) := some ((0 : Int32), h)
noncomputable def M_wishLine_j117 (x4 : Int32) (s1 : Int32) (s2 : Int32) (s3 : Int32) (s4 : Int32) (h : Hp) : Option (Int32 × Hp) := (M_takeBut h s1 s2 s3 s4).bind fun (r1, h2) => if r1 = 0 then ((M_wishLine_j123 h2)) else (bnd (wr h2 262 (Int32.toNatClampNeg (0 : Int32)) x4) fun h4 => (M_keep h4 (0 : Int32) (1 : Int32) (3 : Int32) (10 : Int32)).bind fun h5 => some ((1 : Int32), h5))
noncomputable def M_wishLine_j101 (x4 : Int32) (s1 : Int32) (s2 : Int32) (s3 : Int32) (h : Hp) : Option (Int32 × Hp) := if (2 : Int32) ≤ x4 then ((M_wishLine_j117 x4 s1 s2 s3 (h.1 262 (Int32.toNatClampNeg (1 : Int32))) h)) else ((M_wishLine_j117 x4 s1 s2 s3 (-1 : Int32) h))
noncomputable def M_wishLine_j49 (x3 : Int32) (s0 : Int32) (h : Hp) : Option (Int32 × Hp) := if s0 = (-1 : Int32) then ((M_fails h).bind fun (r8, h9) => if r8 = 0 ∨ r8 = 1 then (some (r8, h9)) else none) else ((M_full h (0 : Int32) (10 : Int32) x3).bind fun h11 => (M_token h11).bind fun h12 => (M_take h12 (1 : Int32) (0 : Int32) (7 : Int32)).bind fun (r13, h14) => if r13 = 0 then ((M_wishLine_j123 h14)) else (if (2 : Int32) ≤ s0 then ((M_wishLine_j101 s0 (2 : Int32) (0 : Int32) (7 : Int32) h14)) else ((M_wishLine_j101 s0 (2 : Int32) (0 : Int32) (9 : Int32) h14))))
noncomputable def M_wishLine (h : Hp) (x1 : Int64) (x3 : Int32) : Option (Int32 × Hp) := if (lg_cmp x1 (1751474546 : Int64)) = 0 then ((M_wishLine_j49 x3 (0 : Int32) h)) else (if (lg_cmp x1 (1936225646 : Int64)) = 0 then ((M_wishLine_j49 x3 (1 : Int32) h)) else (if (lg_cmp x1 (418497262196 : Int64)) = 0 then ((M_wishLine_j49 x3 (2 : Int32) h)) else (if (lg_cmp x1 (108187867505765 : Int64)) = 0 then ((M_wishLine_j49 x3 (3 : Int32) h)) else ((M_wishLine_j49 x3 (-1 : Int32) h)))))
set_option maxRecDepth 100000 in
set_option maxHeartbeats 4000000 in
theorem c_M_wishLine {E : En} {d : Nat} (h : Hp) (x1 : Int64) (x3 : Int32) {P : (Int32 × Hp) → Prop} (hO : Okk (M_wishLine h x1 x3) P) : Cn E (d + 5) z_M_wishLine [.ref 251, .long x1, .int x3] h (RI P) := by
  refine cn_of (on := 12) (d := d + 4) ⟨rfl, by decide +kernel, Nat.le_of_ble_eq_true rfl⟩ (fun G hG => ?_)
  unfold M_wishLine at hO
  show G 0 [(0, .ref 251), (1, .long x1), (3, .int x3)] [] h
  have j123 : ∀ (h : Hp), Okk (M_wishLine_j123 h) P → G 123 [] [] h := by
    intro h hO
    unfold M_wishLine_j123 at hO
    refine rb hG 4 123 124 [.ldc_w 0] [0] [] [] [.int (0 : Int32)] h [] (by decide +kernel) rfl trivial ?_
    exact eZ hG 124 (by decide +kernel) rfl (Or.inl rfl) ⟨(0 : Int32), rfl, ok_some (Q := P) hO⟩
  have j117 : ∀ (x4 : Int32) (s1 : Int32) (s2 : Int32) (s3 : Int32) (s4 : Int32) (h : Hp), Okk (M_wishLine_j117 x4 s1 s2 s3 s4 h) P → G 117 [(0, .ref 251), (4, .int x4)] [.int s4, .int s3, .int s2, .int s1, .ref 251] h := by
    intro x4 s1 s2 s3 s4 h hO
    unfold M_wishLine_j117 at hO
    refine rv hG z_M_takeBut 166 4 117 251 [.int s1, .int s2, .int s3, .int s4] [] (by decide +kernel) mk_M_takeBut lk_12_166 rcv_251 rfl ⟨rfl, Nat.le_of_ble_eq_true rfl⟩ (c_M_takeBut (d := d + 1) h s1 s2 s3 s4 (ok_bind hO)) ?_
    rintro _ h2 ⟨r1, rfl, hO⟩
    refine riN hG (5) 125 120 (by decide +kernel) (by decide) (fun c3 => ?_) (fun c3 => ?_)
    · have hO := ok_pos c3 hO
      refine rs hG [] [] rfl ?_
      exact j123 h2 hO
    · have hO := ok_neg c3 hO
      refine rbx hG 8 125 133 [.aload 0, .invokeinterface 1220 11, .ldc_w 0, .iload 4, .iastore] [0] [] (wr h2 262 (Int32.toNatClampNeg (0 : Int32)) x4) (fun h4 => [(0, .ref 251), (4, .int x4)]) (fun h4 => []) (fun h4 => h4) [kd 251 = 12, kd 262 = 20 ∧ inb (0 : Int32) (ln 262)] (by decide +kernel) rfl ⟨kd_251, ⟨kd_262, (by decide +kernel)⟩⟩ hO (fun h4 hO => ?_)
      refine rb hG 8 133 139 [.aload 0, .ldc_w 0, .ldc_w 1, .ldc_w 2, .ldc_w 3] [0, 1, 3, 10] [] [(0, .ref 251), (4, .int x4)] [.int (10 : Int32), .int (3 : Int32), .int (1 : Int32), .int (0 : Int32), .ref 251] h4 [] (by decide +kernel) rfl trivial ?_
      refine rv hG z_M_keep 196 4 139 251 [.int (0 : Int32), .int (1 : Int32), .int (3 : Int32), .int (10 : Int32)] [] (by decide +kernel) mk_M_keep lk_12_196 rcv_251 rfl ⟨rfl, Nat.le_of_ble_eq_true rfl⟩ (c_M_keep (d := d + 3) h4 (0 : Int32) (1 : Int32) (3 : Int32) (10 : Int32) (ok_bind hO)) ?_
      rintro _ h5 ⟨rfl, hO⟩
      refine rb hG 4 142 143 [.ldc_w 0] [1] [] [(0, .ref 251), (4, .int x4)] [.int (1 : Int32)] h5 [] (by decide +kernel) rfl trivial ?_
      exact eZ hG 143 (by decide +kernel) rfl (Or.inr rfl) ⟨(1 : Int32), rfl, ok_some (Q := P) hO⟩
  have j101 : ∀ (x4 : Int32) (s1 : Int32) (s2 : Int32) (s3 : Int32) (h : Hp), Okk (M_wishLine_j101 x4 s1 s2 s3 h) P → G 101 [(0, .ref 251), (4, .int x4)] [.int s3, .int s2, .int s1, .ref 251] h := by
    intro x4 s1 s2 s3 h hO
    unfold M_wishLine_j101 at hO
    refine rb hG 5 101 104 [.iload 4, .ldc_w 0] [2] [] [(0, .ref 251), (4, .int x4)] [.int (2 : Int32), .int x4, .int s3, .int s2, .int s1, .ref 251] h [] (by decide +kernel) rfl trivial ?_
    refine rj hG .ge (7) 111 104 (by decide +kernel) (by decide) (fun c6 => ?_) (fun c6 => ?_)
    · have hO := ok_pos c6 hO
      refine rb hG 7 111 117 [.aload 0, .invokeinterface 1220 11, .ldc_w 0, .iaload] [1] [] [(0, .ref 251), (4, .int x4)] [.int (h.1 262 (Int32.toNatClampNeg (1 : Int32))), .int s3, .int s2, .int s1, .ref 251] h [kd 251 = 12, kd 262 = 20 ∧ inb (1 : Int32) (ln 262)] (by decide +kernel) rfl ⟨kd_251, ⟨kd_262, (by decide +kernel)⟩⟩ ?_
      exact j117 x4 s1 s2 s3 (h.1 262 (Int32.toNatClampNeg (1 : Int32))) h hO
    · have hO := ok_neg c6 hO
      refine rb hG 5 107 117 [.ldc_w 0] [-1] [] [(0, .ref 251), (4, .int x4)] [.int (-1 : Int32), .int s3, .int s2, .int s1, .ref 251] h [] (by decide +kernel) rfl trivial ?_
      exact j117 x4 s1 s2 s3 (-1 : Int32) h hO
  have j49 : ∀ (s0 : Int32) (h : Hp), Okk (M_wishLine_j49 x3 s0 h) P → G 49 [(0, .ref 251), (3, .int x3)] [.int s0] h := by
    intro s0 h hO
    unfold M_wishLine_j49 at hO
    refine rb hG 6 49 54 [.istore 4, .iload 4, .ldc_w 0] [-1] [] [(4, .int s0), (0, .ref 251), (3, .int x3)] [.int (-1 : Int32), .int s0] h [] (by decide +kernel) rfl trivial ?_
    refine rjN hG (8) 62 54 (by decide +kernel) (by decide) (fun c7 => ?_) (fun c7 => ?_)
    · have hO := ok_pos c7 hO
      refine rb hG 4 57 58 [.aload 0] [] [] [(4, .int s0), (0, .ref 251), (3, .int x3)] [.ref 251] h [] (by decide +kernel) rfl trivial ?_
      refine rv hG z_M_fails 151 0 58 251 [] [] (by decide +kernel) mk_M_fails lk_12_151 rcv_251 rfl ⟨rfl, Nat.le_of_ble_eq_true rfl⟩ (c_M_fails (d := d + 3) h (ok_bind hO)) ?_
      rintro _ h9 ⟨r8, rfl, hO⟩
      obtain ⟨g10, hO⟩ := ok_if hO
      exact eZ hG 61 (by decide +kernel) rfl g10 ⟨r8, rfl, ok_some (Q := P) hO⟩
    · have hO := ok_neg c7 hO
      refine rb hG 7 62 67 [.aload 0, .ldc_w 0, .ldc_w 1, .iload 3] [0, 10] [] [(4, .int s0), (0, .ref 251), (3, .int x3)] [.int x3, .int (10 : Int32), .int (0 : Int32), .ref 251] h [] (by decide +kernel) rfl trivial ?_
      refine rv hG z_M_full 188 3 67 251 [.int (0 : Int32), .int (10 : Int32), .int x3] [] (by decide +kernel) mk_M_full lk_12_188 rcv_251 rfl ⟨rfl, Nat.le_of_ble_eq_true rfl⟩ (c_M_full (d := d + 2) h (0 : Int32) (10 : Int32) x3 (ok_bind hO)) ?_
      rintro _ h11 ⟨rfl, hO⟩
      refine rb hG 4 70 71 [.aload 0] [] [] [(4, .int s0), (0, .ref 251), (3, .int x3)] [.ref 251] h11 [] (by decide +kernel) rfl trivial ?_
      refine rv hG z_M_token 163 0 71 251 [] [] (by decide +kernel) mk_M_token lk_12_163 rcv_251 rfl ⟨rfl, Nat.le_of_ble_eq_true rfl⟩ (c_M_token (d := d + 2) h11 (ok_bind hO)) ?_
      rintro _ h12 ⟨rfl, hO⟩
      refine rb hG 7 74 79 [.aload 0, .ldc_w 0, .ldc_w 1, .ldc_w 2] [1, 0, 7] [] [(4, .int s0), (0, .ref 251), (3, .int x3)] [.int (7 : Int32), .int (0 : Int32), .int (1 : Int32), .ref 251] h12 [] (by decide +kernel) rfl trivial ?_
      refine rv hG z_M_take 170 3 79 251 [.int (1 : Int32), .int (0 : Int32), .int (7 : Int32)] [] (by decide +kernel) mk_M_take lk_12_170 rcv_251 rfl ⟨rfl, Nat.le_of_ble_eq_true rfl⟩ (c_M_take (d := d) h12 (1 : Int32) (0 : Int32) (7 : Int32) (ok_bind hO)) ?_
      rintro _ h14 ⟨r13, rfl, hO⟩
      refine ri hG .eq (41) 123 82 (by decide +kernel) (by decide) (fun c15 => ?_) (fun c15 => ?_)
      · have hO := ok_pos c15 hO
        refine rs hG [] [] rfl ?_
        exact j123 h14 hO
      · have hO := ok_neg c15 hO
        refine rb hG 8 85 91 [.aload 0, .ldc_w 0, .ldc_w 1, .iload 4, .ldc_w 0] [2, 0] [] [(4, .int s0), (0, .ref 251), (3, .int x3)] [.int (2 : Int32), .int s0, .int (0 : Int32), .int (2 : Int32), .ref 251] h14 [] (by decide +kernel) rfl trivial ?_
        refine rj hG .ge (8) 99 91 (by decide +kernel) (by decide) (fun c16 => ?_) (fun c16 => ?_)
        · have hO := ok_pos c16 hO
          refine rb hG 4 99 101 [.ldc_w 0] [7] [] [(4, .int s0), (0, .ref 251), (3, .int x3)] [.int (7 : Int32), .int (0 : Int32), .int (2 : Int32), .ref 251] h14 [] (by decide +kernel) rfl trivial ?_
          refine rs hG [(0, .ref 251), (4, .int s0)] [1, 0] rfl ?_
          exact j101 s0 (2 : Int32) (0 : Int32) (7 : Int32) h14 hO
        · have hO := ok_neg c16 hO
          refine rb hG 5 94 101 [.ldc_w 0] [9] [] [(4, .int s0), (0, .ref 251), (3, .int x3)] [.int (9 : Int32), .int (0 : Int32), .int (2 : Int32), .ref 251] h14 [] (by decide +kernel) rfl trivial ?_
          refine rs hG [(0, .ref 251), (4, .int s0)] [1, 0] rfl ?_
          exact j101 s0 (2 : Int32) (0 : Int32) (9 : Int32) h14 hO
  refine rb hG 6 0 5 [.lload 1, .ldc2_w 0, .lcmp] [] [1751474546] [(0, .ref 251), (1, .long x1), (3, .int x3)] [.int (lg_cmp x1 (1751474546 : Int64))] h [] (by decide +kernel) rfl trivial ?_
  refine riN hG (7) 12 5 (by decide +kernel) (by decide) (fun c17 => ?_) (fun c17 => ?_)
  · have hO := ok_pos c17 hO
    refine rb hG 5 8 49 [.ldc_w 0] [0] [] [(0, .ref 251), (1, .long x1), (3, .int x3)] [.int (0 : Int32)] h [] (by decide +kernel) rfl trivial ?_
    refine rs hG [(0, .ref 251), (3, .int x3)] [0, 2] rfl ?_
    exact j49 (0 : Int32) h hO
  · have hO := ok_neg c17 hO
    refine rb hG 6 12 17 [.lload 1, .ldc2_w 0, .lcmp] [] [1936225646] [(0, .ref 251), (1, .long x1), (3, .int x3)] [.int (lg_cmp x1 (1936225646 : Int64))] h [] (by decide +kernel) rfl trivial ?_
    refine riN hG (7) 24 17 (by decide +kernel) (by decide) (fun c18 => ?_) (fun c18 => ?_)
    · have hO := ok_pos c18 hO
      refine rb hG 5 20 49 [.ldc_w 0] [1] [] [(0, .ref 251), (1, .long x1), (3, .int x3)] [.int (1 : Int32)] h [] (by decide +kernel) rfl trivial ?_
      refine rs hG [(0, .ref 251), (3, .int x3)] [0, 2] rfl ?_
      exact j49 (1 : Int32) h hO
    · have hO := ok_neg c18 hO
      refine rb hG 6 24 29 [.lload 1, .ldc2_w 0, .lcmp] [] [418497262196] [(0, .ref 251), (1, .long x1), (3, .int x3)] [.int (lg_cmp x1 (418497262196 : Int64))] h [] (by decide +kernel) rfl trivial ?_
      refine riN hG (7) 36 29 (by decide +kernel) (by decide) (fun c19 => ?_) (fun c19 => ?_)
      · have hO := ok_pos c19 hO
        refine rb hG 5 32 49 [.ldc_w 0] [2] [] [(0, .ref 251), (1, .long x1), (3, .int x3)] [.int (2 : Int32)] h [] (by decide +kernel) rfl trivial ?_
        refine rs hG [(0, .ref 251), (3, .int x3)] [0, 2] rfl ?_
        exact j49 (2 : Int32) h hO
      · have hO := ok_neg c19 hO
        refine rb hG 6 36 41 [.lload 1, .ldc2_w 0, .lcmp] [] [108187867505765] [(0, .ref 251), (1, .long x1), (3, .int x3)] [.int (lg_cmp x1 (108187867505765 : Int64))] h [] (by decide +kernel) rfl trivial ?_
        refine riN hG (7) 48 41 (by decide +kernel) (by decide) (fun c20 => ?_) (fun c20 => ?_)
        · have hO := ok_pos c20 hO
          refine rb hG 5 44 49 [.ldc_w 0] [3] [] [(0, .ref 251), (1, .long x1), (3, .int x3)] [.int (3 : Int32)] h [] (by decide +kernel) rfl trivial ?_
          refine rs hG [(0, .ref 251), (3, .int x3)] [0, 2] rfl ?_
          exact j49 (3 : Int32) h hO
        · have hO := ok_neg c20 hO
          refine rb hG 4 48 49 [.ldc_w 0] [-1] [] [(0, .ref 251), (1, .long x1), (3, .int x3)] [.int (-1 : Int32)] h [] (by decide +kernel) rfl trivial ?_
          refine rs hG [(0, .ref 251), (3, .int x3)] [0, 2] rfl ?_
          exact j49 (-1 : Int32) h hO
/-! GrainInnModel.hearingLine(JI)Z -/
noncomputable def M_hearingLine_j61 (h : Hp) : Option (Int32 × Hp) := (M_keep h (0 : Int32) (1 : Int32) (1 : Int32) (7 : Int32)).bind fun h1 => some ((1 : Int32), h1)
noncomputable def M_hearingLine_j21 (x1 : Int64) (x3 : Int32) (h : Hp) : Option (Int32 × Hp) := (M_full h (0 : Int32) (7 : Int32) x3).bind fun h2 => (M_token h2).bind fun h3 => bnd (wr h3 262 (Int32.toNatClampNeg (0 : Int32)) (-1 : Int32)) fun h4 => if (lg_cmp x1 (448377483876 : Int64)) = 0 then ((M_take h4 (0 : Int32) (0 : Int32) (7 : Int32)).bind fun (r6, h7) => if r6 = 0 then (some ((0 : Int32), h7)) else ((M_hearingLine_j61 h7))) else ((M_hearingLine_j61 h4))
noncomputable def M_hearingLine (h : Hp) (x1 : Int64) (x3 : Int32) : Option (Int32 × Hp) := if (lg_cmp x1 (448377483876 : Int64)) = 0 then ((M_hearingLine_j21 x1 x3 h)) else (if (lg_cmp x1 (32485536600843109 : Int64)) = 0 then ((M_hearingLine_j21 x1 x3 h)) else ((M_fails h).bind fun (r11, h12) => if r11 = 0 ∨ r11 = 1 then (some (r11, h12)) else none))
set_option maxRecDepth 100000 in
set_option maxHeartbeats 4000000 in
theorem c_M_hearingLine {E : En} {d : Nat} (h : Hp) (x1 : Int64) (x3 : Int32) {P : (Int32 × Hp) → Prop} (hO : Okk (M_hearingLine h x1 x3) P) : Cn E (d + 5) z_M_hearingLine [.ref 251, .long x1, .int x3] h (RI P) := by
  refine cn_of (on := 12) (d := d + 4) ⟨rfl, by decide +kernel, Nat.le_of_ble_eq_true rfl⟩ (fun G hG => ?_)
  unfold M_hearingLine at hO
  show G 0 [(0, .ref 251), (1, .long x1), (3, .int x3)] [] h
  have j61 : ∀ (h : Hp), Okk (M_hearingLine_j61 h) P → G 61 [(0, .ref 251)] [] h := by
    intro h hO
    unfold M_hearingLine_j61 at hO
    refine rb hG 8 61 67 [.aload 0, .ldc_w 0, .ldc_w 1, .ldc_w 1, .ldc_w 2] [0, 1, 7] [] [(0, .ref 251)] [.int (7 : Int32), .int (1 : Int32), .int (1 : Int32), .int (0 : Int32), .ref 251] h [] (by decide +kernel) rfl trivial ?_
    refine rv hG z_M_keep 196 4 67 251 [.int (0 : Int32), .int (1 : Int32), .int (1 : Int32), .int (7 : Int32)] [] (by decide +kernel) mk_M_keep lk_12_196 rcv_251 rfl ⟨rfl, Nat.le_of_ble_eq_true rfl⟩ (c_M_keep (d := d + 3) h (0 : Int32) (1 : Int32) (1 : Int32) (7 : Int32) (ok_bind hO)) ?_
    rintro _ h1 ⟨rfl, hO⟩
    refine rb hG 4 70 71 [.ldc_w 0] [1] [] [(0, .ref 251)] [.int (1 : Int32)] h1 [] (by decide +kernel) rfl trivial ?_
    exact eZ hG 71 (by decide +kernel) rfl (Or.inr rfl) ⟨(1 : Int32), rfl, ok_some (Q := P) hO⟩
  have j21 : ∀ (h : Hp), Okk (M_hearingLine_j21 x1 x3 h) P → G 21 [(0, .ref 251), (1, .long x1), (3, .int x3)] [] h := by
    intro h hO
    unfold M_hearingLine_j21 at hO
    refine rb hG 7 21 26 [.aload 0, .ldc_w 0, .ldc_w 1, .iload 3] [0, 7] [] [(0, .ref 251), (1, .long x1), (3, .int x3)] [.int x3, .int (7 : Int32), .int (0 : Int32), .ref 251] h [] (by decide +kernel) rfl trivial ?_
    refine rv hG z_M_full 188 3 26 251 [.int (0 : Int32), .int (7 : Int32), .int x3] [] (by decide +kernel) mk_M_full lk_12_188 rcv_251 rfl ⟨rfl, Nat.le_of_ble_eq_true rfl⟩ (c_M_full (d := d + 2) h (0 : Int32) (7 : Int32) x3 (ok_bind hO)) ?_
    rintro _ h2 ⟨rfl, hO⟩
    refine rb hG 4 29 30 [.aload 0] [] [] [(0, .ref 251), (1, .long x1), (3, .int x3)] [.ref 251] h2 [] (by decide +kernel) rfl trivial ?_
    refine rv hG z_M_token 163 0 30 251 [] [] (by decide +kernel) mk_M_token lk_12_163 rcv_251 rfl ⟨rfl, Nat.le_of_ble_eq_true rfl⟩ (c_M_token (d := d + 2) h2 (ok_bind hO)) ?_
    rintro _ h3 ⟨rfl, hO⟩
    refine rbx hG 8 33 40 [.aload 0, .invokeinterface 1220 11, .ldc_w 0, .ldc_w 1, .iastore] [0, -1] [] (wr h3 262 (Int32.toNatClampNeg (0 : Int32)) (-1 : Int32)) (fun h4 => [(0, .ref 251), (1, .long x1), (3, .int x3)]) (fun h4 => []) (fun h4 => h4) [kd 251 = 12, kd 262 = 20 ∧ inb (0 : Int32) (ln 262)] (by decide +kernel) rfl ⟨kd_251, ⟨kd_262, (by decide +kernel)⟩⟩ hO (fun h4 hO => ?_)
    refine rb hG 6 40 45 [.lload 1, .ldc2_w 0, .lcmp] [] [448377483876] [(0, .ref 251), (1, .long x1), (3, .int x3)] [.int (lg_cmp x1 (448377483876 : Int64))] h4 [] (by decide +kernel) rfl trivial ?_
    refine riN hG (16) 61 45 (by decide +kernel) (by decide) (fun c5 => ?_) (fun c5 => ?_)
    · have hO := ok_pos c5 hO
      refine rb hG 7 48 53 [.aload 0, .ldc_w 0, .ldc_w 0, .ldc_w 1] [0, 7] [] [(0, .ref 251), (1, .long x1), (3, .int x3)] [.int (7 : Int32), .int (0 : Int32), .int (0 : Int32), .ref 251] h4 [] (by decide +kernel) rfl trivial ?_
      refine rv hG z_M_take 170 3 53 251 [.int (0 : Int32), .int (0 : Int32), .int (7 : Int32)] [] (by decide +kernel) mk_M_take lk_12_170 rcv_251 rfl ⟨rfl, Nat.le_of_ble_eq_true rfl⟩ (c_M_take (d := d) h4 (0 : Int32) (0 : Int32) (7 : Int32) (ok_bind hO)) ?_
      rintro _ h7 ⟨r6, rfl, hO⟩
      refine riN hG (5) 61 56 (by decide +kernel) (by decide) (fun c8 => ?_) (fun c8 => ?_)
      · have hO := ok_pos c8 hO
        refine rb hG 4 59 60 [.ldc_w 0] [0] [] [(0, .ref 251), (1, .long x1), (3, .int x3)] [.int (0 : Int32)] h7 [] (by decide +kernel) rfl trivial ?_
        exact eZ hG 60 (by decide +kernel) rfl (Or.inl rfl) ⟨(0 : Int32), rfl, ok_some (Q := P) hO⟩
      · have hO := ok_neg c8 hO
        refine rs hG [(0, .ref 251)] [0] rfl ?_
        exact j61 h7 hO
    · have hO := ok_neg c5 hO
      refine rs hG [(0, .ref 251)] [0] rfl ?_
      exact j61 h4 hO
  refine rb hG 6 0 5 [.lload 1, .ldc2_w 0, .lcmp] [] [448377483876] [(0, .ref 251), (1, .long x1), (3, .int x3)] [.int (lg_cmp x1 (448377483876 : Int64))] h [] (by decide +kernel) rfl trivial ?_
  refine ri hG .eq (16) 21 5 (by decide +kernel) (by decide) (fun c9 => ?_) (fun c9 => ?_)
  · have hO := ok_pos c9 hO
    exact j21 h hO
  · have hO := ok_neg c9 hO
    refine rb hG 6 8 13 [.lload 1, .ldc2_w 0, .lcmp] [] [32485536600843109] [(0, .ref 251), (1, .long x1), (3, .int x3)] [.int (lg_cmp x1 (32485536600843109 : Int64))] h [] (by decide +kernel) rfl trivial ?_
    refine ri hG .eq (8) 21 13 (by decide +kernel) (by decide) (fun c10 => ?_) (fun c10 => ?_)
    · have hO := ok_pos c10 hO
      exact j21 h hO
    · have hO := ok_neg c10 hO
      refine rb hG 4 16 17 [.aload 0] [] [] [(0, .ref 251), (1, .long x1), (3, .int x3)] [.ref 251] h [] (by decide +kernel) rfl trivial ?_
      refine rv hG z_M_fails 151 0 17 251 [] [] (by decide +kernel) mk_M_fails lk_12_151 rcv_251 rfl ⟨rfl, Nat.le_of_ble_eq_true rfl⟩ (c_M_fails (d := d + 3) h (ok_bind hO)) ?_
      rintro _ h12 ⟨r11, rfl, hO⟩
      obtain ⟨g13, hO⟩ := ok_if hO
      exact eZ hG 20 (by decide +kernel) rfl g13 ⟨r11, rfl, ok_some (Q := P) hO⟩
/-! GrainInnModel.lineOf(IJI)Z -/
noncomputable def M_lineOf (h : Hp) (x1 : Int32) (x2 : Int64) (x4 : Int32) : Option (Int32 × Hp) := if x1 = (0 : Int32) then ((M_innLine h x2 x4).bind fun (r2, h3) => if r2 = 0 ∨ r2 = 1 then (some (r2, h3)) else none) else (if x1 = (1 : Int32) then ((M_eveningLine h x2 x4).bind fun (r6, h7) => if r6 = 0 ∨ r6 = 1 then (some (r6, h7)) else none) else (if x1 = (2 : Int32) then ((M_wishLine h x2 x4).bind fun (r10, h11) => if r10 = 0 ∨ r10 = 1 then (some (r10, h11)) else none) else ((M_hearingLine h x2 x4).bind fun (r13, h14) => if r13 = 0 ∨ r13 = 1 then (some (r13, h14)) else none)))
set_option maxRecDepth 100000 in
set_option maxHeartbeats 4000000 in
theorem c_M_lineOf {E : En} {d : Nat} (h : Hp) (x1 : Int32) (x2 : Int64) (x4 : Int32) {P : (Int32 × Hp) → Prop} (hO : Okk (M_lineOf h x1 x2 x4) P) : Cn E (d + 8) z_M_lineOf [.ref 251, .int x1, .long x2, .int x4] h (RI P) := by
  refine cn_of (on := 12) (d := d + 7) ⟨rfl, by decide +kernel, Nat.le_of_ble_eq_true rfl⟩ (fun G hG => ?_)
  unfold M_lineOf at hO
  show G 0 [(0, .ref 251), (1, .int x1), (2, .long x2), (4, .int x4)] [] h
  refine rb hG 4 0 1 [.iload 1] [] [] [(0, .ref 251), (1, .int x1), (2, .long x2), (4, .int x4)] [.int x1] h [] (by decide +kernel) rfl trivial ?_
  refine rw9 hG (51) (0) (2) #[(27), (35), (43)] 27 1 [28, 36, 44] 52 (by decide +kernel) (by decide +kernel) ?_
  refine sw_c (0 : Int32) (by decide) (fun c1 => ?_) (fun c1 => ?_)
  · have hO := ok_pos c1 hO
    refine rb hG 6 28 32 [.aload 0, .lload 2, .iload 4] [] [] [(0, .ref 251), (1, .int x1), (2, .long x2), (4, .int x4)] [.int x4, .long x2, .ref 251] h [] (by decide +kernel) rfl trivial ?_
    refine rv hG z_M_innLine 234 2 32 251 [.long x2, .int x4] [] (by decide +kernel) mk_M_innLine lk_12_234 rcv_251 rfl ⟨rfl, Nat.le_of_ble_eq_true rfl⟩ (c_M_innLine (d := d + 1) h x2 x4 (ok_bind hO)) ?_
    rintro _ h3 ⟨r2, rfl, hO⟩
    obtain ⟨g4, hO⟩ := ok_if hO
    exact eZ hG 35 (by decide +kernel) rfl g4 ⟨r2, rfl, ok_some (Q := P) hO⟩
  have hO := ok_neg c1 hO
  refine sw_c (1 : Int32) (by decide) (fun c5 => ?_) (fun c5 => ?_)
  · have hO := ok_pos c5 hO
    refine rb hG 6 36 40 [.aload 0, .lload 2, .iload 4] [] [] [(0, .ref 251), (1, .int x1), (2, .long x2), (4, .int x4)] [.int x4, .long x2, .ref 251] h [] (by decide +kernel) rfl trivial ?_
    refine rv hG z_M_eveningLine 238 2 40 251 [.long x2, .int x4] [] (by decide +kernel) mk_M_eveningLine lk_12_238 rcv_251 rfl ⟨rfl, Nat.le_of_ble_eq_true rfl⟩ (c_M_eveningLine (d := d) h x2 x4 (ok_bind hO)) ?_
    rintro _ h7 ⟨r6, rfl, hO⟩
    obtain ⟨g8, hO⟩ := ok_if hO
    exact eZ hG 43 (by decide +kernel) rfl g8 ⟨r6, rfl, ok_some (Q := P) hO⟩
  have hO := ok_neg c5 hO
  refine sw_c (2 : Int32) (by decide) (fun c9 => ?_) (fun c9 => ?_)
  · have hO := ok_pos c9 hO
    refine rb hG 6 44 48 [.aload 0, .lload 2, .iload 4] [] [] [(0, .ref 251), (1, .int x1), (2, .long x2), (4, .int x4)] [.int x4, .long x2, .ref 251] h [] (by decide +kernel) rfl trivial ?_
    refine rv hG z_M_wishLine 241 2 48 251 [.long x2, .int x4] [] (by decide +kernel) mk_M_wishLine lk_12_241 rcv_251 rfl ⟨rfl, Nat.le_of_ble_eq_true rfl⟩ (c_M_wishLine (d := d + 2) h x2 x4 (ok_bind hO)) ?_
    rintro _ h11 ⟨r10, rfl, hO⟩
    obtain ⟨g12, hO⟩ := ok_if hO
    exact eZ hG 51 (by decide +kernel) rfl g12 ⟨r10, rfl, ok_some (Q := P) hO⟩
  have hO := ok_neg c9 hO
  show G 52 _ _ _
  refine rb hG 6 52 56 [.aload 0, .lload 2, .iload 4] [] [] [(0, .ref 251), (1, .int x1), (2, .long x2), (4, .int x4)] [.int x4, .long x2, .ref 251] h [] (by decide +kernel) rfl trivial ?_
  refine rv hG z_M_hearingLine 244 2 56 251 [.long x2, .int x4] [] (by decide +kernel) mk_M_hearingLine lk_12_244 rcv_251 rfl ⟨rfl, Nat.le_of_ble_eq_true rfl⟩ (c_M_hearingLine (d := d + 2) h x2 x4 (ok_bind hO)) ?_
  rintro _ h14 ⟨r13, rfl, hO⟩
  obtain ⟨g15, hO⟩ := ok_if hO
  exact eZ hG 59 (by decide +kernel) rfl g15 ⟨r13, rfl, ok_some (Q := P) hO⟩
/-! GrainInnModel.lines(I)Z -/
noncomputable def M_lines_j74 (x2 : Int32) (h : Hp) : Option (Int32 × Hp) := if x2 = 0 ∨ x2 = 1 then (some (x2, h)) else none
noncomputable def M_lines_j71 (x1 : Int32) (x2 : Int32) (h : Hp) : Option ((Int32 × Hp) ⊕ (Int32 × Hp)) := some (.inl (x2, h))
noncomputable def M_lines_j63 (x1 : Int32) (x2 : Int32) (h : Hp) : Option ((Int32 × Hp) ⊕ (Int32 × Hp)) := if x2 = 0 then ((M_lines_j71 x1 x2 h)) else ((M_token h).bind fun h3 => (M_lines_j71 x1 x2 h3))
noncomputable def M_lines_j41 (x1 : Int32) (x3 : Int32) (s1 : Int32) (s2 : Int64) (h : Hp) : Option ((Int32 × Hp) ⊕ (Int32 × Hp)) := (M_lineOf h s1 s2 x3).bind fun (r4, h5) => if r4 = 0 then ((M_lines_j63 x1 r4 h5)) else (if (h5.1 251 13) = (4 : Int32) then ((M_lines_j63 x1 r4 h5)) else ((M_fails h5).bind fun (r8, h9) => (M_lines_j63 x1 r8 h9)))
noncomputable def M_lines_b2 (x1 : Int32) (x2 : Int32) (h : Hp) : Option ((Int32 × Hp) ⊕ (Int32 × Hp)) := if x2 = 0 then (((M_lines_j74 x2 h).map Sum.inr)) else (if (h.1 251 13) = 0 then (((M_lines_j74 x2 h).map Sum.inr)) else (bnd ((h.1 251 12)) fun y12 => bnd (wr h 251 22 (1 : Int32)) fun h13 => if (h13.1 251 13) = (2 : Int32) then ((M_lines_j41 x1 y12 x1 h13.2 h13)) else ((M_lines_j41 x1 y12 x1 (0 : Int64) h13))))
noncomputable def M_lines_l2 (x1 : Int32) (x2 : Int32) (h : Hp) : Option (Int32 × Hp) := lp (fun s : (Int32 × Hp) => M_lines_b2 x1 s.1 s.2) (x2, h)
theorem M_lines_l2_eq (x1 : Int32) (x2 : Int32) (h : Hp) : M_lines_l2 x1 x2 h = (M_lines_b2 x1 x2 h).bind (Sum.elim (fun q : (Int32 × Hp) => M_lines_l2 x1 q.1 q.2) some) := lp_eq _ _
noncomputable def M_lines (h : Hp) (x1 : Int32) : Option (Int32 × Hp) := (M_lines_l2 x1 (1 : Int32) h)
set_option maxRecDepth 100000 in
set_option maxHeartbeats 4000000 in
theorem c_M_lines {E : En} {d : Nat} (h : Hp) (x1 : Int32) {P : (Int32 × Hp) → Prop} (hO : Okk (M_lines h x1) P) : Cn E (d + 9) z_M_lines [.ref 251, .int x1] h (RI P) := by
  refine cn_of (on := 12) (d := d + 8) ⟨rfl, by decide +kernel, Nat.le_of_ble_eq_true rfl⟩ (fun G hG => ?_)
  unfold M_lines at hO
  show G 0 [(0, .ref 251), (1, .int x1)] [] h
  have j74 : ∀ (x2 : Int32) (h : Hp), Okk (M_lines_j74 x2 h) P → G 74 [(2, .int x2)] [] h := by
    intro x2 h hO
    unfold M_lines_j74 at hO
    refine rb hG 4 74 75 [.iload 2] [] [] [(2, .int x2)] [.int x2] h [] (by decide +kernel) rfl trivial ?_
    obtain ⟨g1, hO⟩ := ok_if hO
    exact eZ hG 75 (by decide +kernel) rfl g1 ⟨x2, rfl, ok_some (Q := P) hO⟩
  have l2 : ∀ (x2 : Int32) (h : Hp), Okk (M_lines_l2 x1 x2 h) P → G 2 [(0, .ref 251), (1, .int x1), (2, .int x2)] [] h := by
    intro x2 h hO
    obtain ⟨H2, eH2⟩ : ∃ q : (Int32 × Hp) → Prop, q = fun s => G 2 [(0, .ref 251), (1, .int x1), (2, .int (s.1))] [] (s.2) := ⟨_, rfl⟩
    have w9 : H2 (x2, h) := by
      refine lp_wp (f := fun s : (Int32 × Hp) => M_lines_b2 x1 s.1 s.2) (H := H2) (Q := P) ?_ (x2, h) hO
      rintro ⟨x2, h⟩ hO
      rw [eH2]
      show G 2 [(0, .ref 251), (1, .int x1), (2, .int x2)] [] h
      have k2 : ∀ s : (Int32 × Hp), H2 s → G 2 [(0, .ref 251), (1, .int x1), (2, .int (s.1))] [] (s.2) := fun s q => by rw [eH2] at q; exact q
      replace hO : Okk (M_lines_b2 x1 x2 h) (Sum.elim H2 P) := hO
      clear eH2
      have j71 : ∀ (x2 : Int32) (h : Hp), Okk (M_lines_j71 x1 x2 h) (Sum.elim H2 P) → G 71 [(0, .ref 251), (1, .int x1), (2, .int x2)] [] h := by
        intro x2 h hO
        unfold M_lines_j71 at hO
        refine rb hG 4 71 2 [] [] [] [(0, .ref 251), (1, .int x1), (2, .int x2)] [] h [] (by decide +kernel) rfl trivial ?_
        exact k2 (x2, h) (ok_some (Q := (Sum.elim H2 P)) hO)
      have j63 : ∀ (x2 : Int32) (h : Hp), Okk (M_lines_j63 x1 x2 h) (Sum.elim H2 P) → G 63 [(0, .ref 251), (1, .int x1), (2, .int x2)] [] h := by
        intro x2 h hO
        unfold M_lines_j63 at hO
        refine rb hG 4 63 64 [.iload 2] [] [] [(0, .ref 251), (1, .int x1), (2, .int x2)] [.int x2] h [] (by decide +kernel) rfl trivial ?_
        refine ri hG .eq (7) 71 64 (by decide +kernel) (by decide) (fun c2 => ?_) (fun c2 => ?_)
        · have hO := ok_pos c2 hO
          exact j71 x2 h hO
        · have hO := ok_neg c2 hO
          refine rb hG 4 67 68 [.aload 0] [] [] [(0, .ref 251), (1, .int x1), (2, .int x2)] [.ref 251] h [] (by decide +kernel) rfl trivial ?_
          refine rv hG z_M_token 163 0 68 251 [] [] (by decide +kernel) mk_M_token lk_12_163 rcv_251 rfl ⟨rfl, Nat.le_of_ble_eq_true rfl⟩ (c_M_token (d := d + 6) h (ok_bind hO)) ?_
          rintro _ h3 ⟨rfl, hO⟩
          exact j71 x2 h3 hO
      have j41 : ∀ (x3 : Int32) (s1 : Int32) (s2 : Int64) (h : Hp), Okk (M_lines_j41 x1 x3 s1 s2 h) (Sum.elim H2 P) → G 41 [(0, .ref 251), (1, .int x1), (3, .int x3)] [.long s2, .int s1, .ref 251] h := by
        intro x3 s1 s2 h hO
        unfold M_lines_j41 at hO
        refine rb hG 4 41 42 [.iload 3] [] [] [(0, .ref 251), (1, .int x1), (3, .int x3)] [.int x3, .long s2, .int s1, .ref 251] h [] (by decide +kernel) rfl trivial ?_
        refine rv hG z_M_lineOf 247 3 42 251 [.int s1, .long s2, .int x3] [] (by decide +kernel) mk_M_lineOf lk_12_247 rcv_251 rfl ⟨rfl, Nat.le_of_ble_eq_true rfl⟩ (c_M_lineOf (d := d) h s1 s2 x3 (ok_bind hO)) ?_
        rintro _ h5 ⟨r4, rfl, hO⟩
        refine rb hG 5 45 47 [.istore 2, .iload 2] [] [] [(2, .int r4), (0, .ref 251), (1, .int x1), (3, .int x3)] [.int r4] h5 [] (by decide +kernel) rfl trivial ?_
        refine ri hG .eq (16) 63 47 (by decide +kernel) (by decide) (fun c6 => ?_) (fun c6 => ?_)
        · have hO := ok_pos c6 hO
          refine rs hG [(0, .ref 251), (1, .int x1), (2, .int r4)] [1, 2, 0] rfl ?_
          exact j63 r4 h5 hO
        · have hO := ok_neg c6 hO
          refine rb hG 6 50 55 [.aload 0, .getfield 1213, .ldc_w 0] [4] [] [(2, .int r4), (0, .ref 251), (1, .int x1), (3, .int x3)] [.int (4 : Int32), .int (h5.1 251 13)] h5 [kd 251 = 12] (by decide +kernel) rfl kd_251 ?_
          refine rj hG .eq (8) 63 55 (by decide +kernel) (by decide) (fun c7 => ?_) (fun c7 => ?_)
          · have hO := ok_pos c7 hO
            refine rs hG [(0, .ref 251), (1, .int x1), (2, .int r4)] [1, 2, 0] rfl ?_
            exact j63 r4 h5 hO
          · have hO := ok_neg c7 hO
            refine rb hG 4 58 59 [.aload 0] [] [] [(2, .int r4), (0, .ref 251), (1, .int x1), (3, .int x3)] [.ref 251] h5 [] (by decide +kernel) rfl trivial ?_
            refine rv hG z_M_fails 151 0 59 251 [] [] (by decide +kernel) mk_M_fails lk_12_151 rcv_251 rfl ⟨rfl, Nat.le_of_ble_eq_true rfl⟩ (c_M_fails (d := d + 7) h5 (ok_bind hO)) ?_
            rintro _ h9 ⟨r8, rfl, hO⟩
            refine rb hG 4 62 63 [.istore 2] [] [] [(2, .int r8), (0, .ref 251), (1, .int x1), (3, .int x3)] [] h9 [] (by decide +kernel) rfl trivial ?_
            refine rs hG [(0, .ref 251), (1, .int x1), (2, .int r8)] [1, 2, 0] rfl ?_
            exact j63 r8 h9 hO
      unfold M_lines_b2 at hO
      refine rb hG 4 2 3 [.iload 2] [] [] [(0, .ref 251), (1, .int x1), (2, .int x2)] [.int x2] h [] (by decide +kernel) rfl trivial ?_
      refine ri hG .eq (71) 74 3 (by decide +kernel) (by decide) (fun c10 => ?_) (fun c10 => ?_)
      · have hO := ok_pos c10 hO
        refine rs hG [(2, .int x2)] [2] rfl ?_
        exact j74 x2 h (ok_inr hO)
      · have hO := ok_neg c10 hO
        refine rb hG 5 6 10 [.aload 0, .getfield 1213] [] [] [(0, .ref 251), (1, .int x1), (2, .int x2)] [.int (h.1 251 13)] h [kd 251 = 12] (by decide +kernel) rfl kd_251 ?_
        refine ri hG .eq (64) 74 10 (by decide +kernel) (by decide) (fun c11 => ?_) (fun c11 => ?_)
        · have hO := ok_pos c11 hO
          refine rs hG [(2, .int x2)] [2] rfl ?_
          exact j74 x2 h (ok_inr hO)
        · have hO := ok_neg c11 hO
          refine rbx hG 6 13 18 [.aload 0, .getfield 1212, .istore 3] [] [] ((h.1 251 12)) (fun y12 => [(3, .int y12), (0, .ref 251), (1, .int x1), (2, .int x2)]) (fun y12 => []) (fun y12 => h) [kd 251 = 12] (by decide +kernel) rfl kd_251 hO (fun y12 hO => ?_)
          refine rbx hG 6 18 23 [.aload 0, .ldc_w 0, .checkcast 1222] [1] [] (wr h 251 22 (1 : Int32)) (fun h13 => [(3, .int y12), (0, .ref 251), (1, .int x1), (2, .int x2)]) (fun h13 => []) (fun h13 => h13) [kd 251 = 12 ∧ ((1 : Int32) = 0 ∨ (1 : Int32) = 1)] (by decide +kernel) rfl ⟨kd_251, Or.inr rfl⟩ hO (fun h13 hO => ?_)
          refine rb hG 8 23 30 [.aload 0, .iload 1, .aload 0, .getfield 1213, .ldc_w 0] [2] [] [(3, .int y12), (0, .ref 251), (1, .int x1), (2, .int x2)] [.int (2 : Int32), .int (h13.1 251 13), .int x1, .ref 251] h13 [kd 251 = 12] (by decide +kernel) rfl kd_251 ?_
          refine rjN hG (10) 40 30 (by decide +kernel) (by decide) (fun c14 => ?_) (fun c14 => ?_)
          · have hO := ok_pos c14 hO
            refine rb hG 6 33 41 [.aload 0, .getstatic 1215] [] [] [(3, .int y12), (0, .ref 251), (1, .int x1), (2, .int x2)] [.long h13.2, .int x1, .ref 251] h13 [kd 251 = 12] (by decide +kernel) rfl kd_251 ?_
            refine rs hG [(0, .ref 251), (1, .int x1), (3, .int y12)] [1, 2, 0] rfl ?_
            exact j41 y12 x1 h13.2 h13 hO
          · have hO := ok_neg c14 hO
            refine rb hG 4 40 41 [.ldc2_w 0] [] [0] [(3, .int y12), (0, .ref 251), (1, .int x1), (2, .int x2)] [.long (0 : Int64), .int x1, .ref 251] h13 [] (by decide +kernel) rfl trivial ?_
            refine rs hG [(0, .ref 251), (1, .int x1), (3, .int y12)] [1, 2, 0] rfl ?_
            exact j41 y12 x1 (0 : Int64) h13 hO
    rw [eH2] at w9
    exact w9
  refine rb hG 5 0 2 [.ldc_w 0, .istore 2] [1] [] [(2, .int (1 : Int32)), (0, .ref 251), (1, .int x1)] [] h [] (by decide +kernel) rfl trivial ?_
  refine rs hG [(0, .ref 251), (1, .int x1), (2, .int (1 : Int32))] [1, 2, 0] rfl ?_
  exact l2 (1 : Int32) h hO
/-! GrainInnModel.readText(I)Z -/
noncomputable def M_readText_j162 (s0 : Int32) (h : Hp) : Option (Int32 × Hp) := if s0 = 0 ∨ s0 = 1 then (some (s0, h)) else none
noncomputable def M_readText_j147 (s1 : Int32) (s2 : Int32) (h : Hp) : Option (Int32 × Hp) := if inb s1 (ln 255) then (bnd (wr h 255 (Int32.toNatClampNeg s1) s2) fun h3 => if (h3.1 254 (Int32.toNatClampNeg (0 : Int32))) = 0 then ((M_readText_j162 (1 : Int32) h3)) else ((M_readText_j162 (0 : Int32) h3))) else none
noncomputable def M_readText_j115 (x2 : Int32) (s1 : Int32) (s2 : Int32) (h : Hp) : Option (Int32 × Hp) := if inb s1 (ln 254) then (bnd (wr h 254 (Int32.toNatClampNeg s1) s2) fun h6 => if x2 = 0 then ((M_readText_j147 (0 : Int32) (h6.1 251 16) h6)) else (if (h6.1 251 17) ≤ 0 then ((M_readText_j147 (0 : Int32) (-1 : Int32) h6)) else ((M_readText_j147 (0 : Int32) (h6.1 251 18) h6)))) else none
noncomputable def M_readText_j98 (x2 : Int32) (h : Hp) : Option (Int32 × Hp) := if x2 = 0 then ((M_readText_j115 x2 (0 : Int32) (1 : Int32) h)) else ((M_readText_j115 x2 (0 : Int32) (h.1 251 17) h))
noncomputable def M_readText_j35 (x1 : Int32) (s1 : Int32) (s2 : Int32) (h : Hp) : Option (Int32 × Hp) := if inb s1 (ln 261) then (bnd (wr h 261 (Int32.toNatClampNeg s1) s2) fun h11 => bnd (wr h11 251 21 (-1 : Int32)) fun h12 => bnd (wr h12 251 10 (0 : Int32)) fun h13 => bnd (wr h13 251 17 (0 : Int32)) fun h14 => (M_token h14).bind fun h15 => (M_lines h15 x1).bind fun (r16, h17) => if r16 = 0 then ((M_readText_j98 r16 h17)) else (if x1 = 0 then (if (h17.1 251 17) = 0 then (if (h17.1 251 21) < (h17.1 261 (Int32.toNatClampNeg (1 : Int32))) then ((M_readText_j98 r16 h17)) else ((M_later h17 (4 : Int32) (h17.1 251 12)).bind fun h22 => (M_readText_j98 r16 h22))) else ((M_readText_j98 r16 h17))) else ((M_readText_j98 r16 h17)))) else none
noncomputable def M_readText_j21 (x1 : Int32) (h : Hp) : Option (Int32 × Hp) := if x1 = 0 then ((M_readText_j35 x1 (1 : Int32) (4 : Int32) h)) else ((M_readText_j35 x1 (1 : Int32) (0 : Int32) h))
noncomputable def M_readText_b2 (x1 : Int32) (x2 : Int32) (h : Hp) : Option ((Int32 × Hp) ⊕ (Int32 × Hp)) := if (121 : Int32) ≤ x2 then (((M_readText_j21 x1 h).map Sum.inr)) else (if inb x2 (ln 261) then (bnd (wr h 261 (Int32.toNatClampNeg x2) (0 : Int32)) fun h26 => bnd ((x2 + (1 : Int32))) fun y27 => some (.inl (y27, h26))) else none)
noncomputable def M_readText_l2 (x1 : Int32) (x2 : Int32) (h : Hp) : Option (Int32 × Hp) := lp (fun s : (Int32 × Hp) => M_readText_b2 x1 s.1 s.2) (x2, h)
theorem M_readText_l2_eq (x1 : Int32) (x2 : Int32) (h : Hp) : M_readText_l2 x1 x2 h = (M_readText_b2 x1 x2 h).bind (Sum.elim (fun q : (Int32 × Hp) => M_readText_l2 x1 q.1 q.2) some) := lp_eq _ _
noncomputable def M_readText (h : Hp) (x1 : Int32) : Option (Int32 × Hp) := (M_readText_l2 x1 (0 : Int32) h)
set_option maxRecDepth 100000 in
set_option maxHeartbeats 4000000 in
theorem c_M_readText {E : En} {d : Nat} (h : Hp) (x1 : Int32) {P : (Int32 × Hp) → Prop} (hO : Okk (M_readText h x1) P) : Cn E (d + 10) z_M_readText [.ref 251, .int x1] h (RI P) := by
  refine cn_of (on := 12) (d := d + 9) ⟨rfl, by decide +kernel, Nat.le_of_ble_eq_true rfl⟩ (fun G hG => ?_)
  unfold M_readText at hO
  show G 0 [(0, .ref 251), (1, .int x1)] [] h
  have j162 : ∀ (s0 : Int32) (h : Hp), Okk (M_readText_j162 s0 h) P → G 162 [] [.int s0] h := by
    intro s0 h hO
    unfold M_readText_j162 at hO
    obtain ⟨g1, hO⟩ := ok_if hO
    exact eZ hG 162 (by decide +kernel) rfl g1 ⟨s0, rfl, ok_some (Q := P) hO⟩
  have j147 : ∀ (s1 : Int32) (s2 : Int32) (h : Hp), Okk (M_readText_j147 s1 s2 h) P → G 147 [(0, .ref 251)] [.int s2, .int s1, .ref 255] h := by
    intro s1 s2 h hO
    unfold M_readText_j147 at hO
    obtain ⟨g2, hO⟩ := ok_if hO
    refine rbx hG 4 147 148 [.iastore] [] [] (wr h 255 (Int32.toNatClampNeg s1) s2) (fun h3 => [(0, .ref 251)]) (fun h3 => []) (fun h3 => h3) [kd 255 = 20 ∧ inb s1 (ln 255)] (by decide +kernel) rfl ⟨kd_255, g2⟩ hO (fun h3 hO => ?_)
    refine rb hG 7 148 154 [.aload 0, .invokeinterface 1203 3, .ldc_w 0, .iaload] [0] [] [(0, .ref 251)] [.int (h3.1 254 (Int32.toNatClampNeg (0 : Int32)))] h3 [kd 251 = 12, kd 254 = 20 ∧ inb (0 : Int32) (ln 254)] (by decide +kernel) rfl ⟨kd_251, ⟨kd_254, (by decide +kernel)⟩⟩ ?_
    refine riN hG (7) 161 154 (by decide +kernel) (by decide) (fun c4 => ?_) (fun c4 => ?_)
    · have hO := ok_pos c4 hO
      refine rb hG 5 157 162 [.ldc_w 0] [1] [] [(0, .ref 251)] [.int (1 : Int32)] h3 [] (by decide +kernel) rfl trivial ?_
      refine rs hG [] [] rfl ?_
      exact j162 (1 : Int32) h3 hO
    · have hO := ok_neg c4 hO
      refine rb hG 4 161 162 [.ldc_w 0] [0] [] [(0, .ref 251)] [.int (0 : Int32)] h3 [] (by decide +kernel) rfl trivial ?_
      refine rs hG [] [] rfl ?_
      exact j162 (0 : Int32) h3 hO
  have j115 : ∀ (x2 : Int32) (s1 : Int32) (s2 : Int32) (h : Hp), Okk (M_readText_j115 x2 s1 s2 h) P → G 115 [(0, .ref 251), (2, .int x2)] [.int s2, .int s1, .ref 254] h := by
    intro x2 s1 s2 h hO
    unfold M_readText_j115 at hO
    obtain ⟨g5, hO⟩ := ok_if hO
    refine rbx hG 4 115 116 [.iastore] [] [] (wr h 254 (Int32.toNatClampNeg s1) s2) (fun h6 => [(0, .ref 251), (2, .int x2)]) (fun h6 => []) (fun h6 => h6) [kd 254 = 20 ∧ inb s1 (ln 254)] (by decide +kernel) rfl ⟨kd_254, g5⟩ hO (fun h6 hO => ?_)
    refine rb hG 7 116 122 [.aload 0, .invokeinterface 1204 4, .ldc_w 0, .iload 2] [0] [] [(0, .ref 251), (2, .int x2)] [.int x2, .int (0 : Int32), .ref 255] h6 [kd 251 = 12] (by decide +kernel) rfl kd_251 ?_
    refine riN hG (10) 132 122 (by decide +kernel) (by decide) (fun c7 => ?_) (fun c7 => ?_)
    · have hO := ok_pos c7 hO
      refine rb hG 6 125 147 [.aload 0, .getfield 1216] [] [] [(0, .ref 251), (2, .int x2)] [.int (h6.1 251 16), .int (0 : Int32), .ref 255] h6 [kd 251 = 12] (by decide +kernel) rfl kd_251 ?_
      refine rs hG [(0, .ref 251)] [0] rfl ?_
      exact j147 (0 : Int32) (h6.1 251 16) h6 hO
    · have hO := ok_neg c7 hO
      refine rb hG 5 132 136 [.aload 0, .getfield 1217] [] [] [(0, .ref 251), (2, .int x2)] [.int (h6.1 251 17), .int (0 : Int32), .ref 255] h6 [kd 251 = 12] (by decide +kernel) rfl kd_251 ?_
      refine ri hG .le (10) 146 136 (by decide +kernel) (by decide) (fun c8 => ?_) (fun c8 => ?_)
      · have hO := ok_pos c8 hO
        refine rb hG 4 146 147 [.ldc_w 0] [-1] [] [(0, .ref 251), (2, .int x2)] [.int (-1 : Int32), .int (0 : Int32), .ref 255] h6 [] (by decide +kernel) rfl trivial ?_
        refine rs hG [(0, .ref 251)] [0] rfl ?_
        exact j147 (0 : Int32) (-1 : Int32) h6 hO
      · have hO := ok_neg c8 hO
        refine rb hG 6 139 147 [.aload 0, .getfield 1218] [] [] [(0, .ref 251), (2, .int x2)] [.int (h6.1 251 18), .int (0 : Int32), .ref 255] h6 [kd 251 = 12] (by decide +kernel) rfl kd_251 ?_
        refine rs hG [(0, .ref 251)] [0] rfl ?_
        exact j147 (0 : Int32) (h6.1 251 18) h6 hO
  have j98 : ∀ (x2 : Int32) (h : Hp), Okk (M_readText_j98 x2 h) P → G 98 [(0, .ref 251), (2, .int x2)] [] h := by
    intro x2 h hO
    unfold M_readText_j98 at hO
    refine rb hG 7 98 104 [.aload 0, .invokeinterface 1203 3, .ldc_w 0, .iload 2] [0] [] [(0, .ref 251), (2, .int x2)] [.int x2, .int (0 : Int32), .ref 254] h [kd 251 = 12] (by decide +kernel) rfl kd_251 ?_
    refine ri hG .eq (10) 114 104 (by decide +kernel) (by decide) (fun c9 => ?_) (fun c9 => ?_)
    · have hO := ok_pos c9 hO
      refine rb hG 4 114 115 [.ldc_w 0] [1] [] [(0, .ref 251), (2, .int x2)] [.int (1 : Int32), .int (0 : Int32), .ref 254] h [] (by decide +kernel) rfl trivial ?_
      exact j115 x2 (0 : Int32) (1 : Int32) h hO
    · have hO := ok_neg c9 hO
      refine rb hG 6 107 115 [.aload 0, .getfield 1217] [] [] [(0, .ref 251), (2, .int x2)] [.int (h.1 251 17), .int (0 : Int32), .ref 254] h [kd 251 = 12] (by decide +kernel) rfl kd_251 ?_
      exact j115 x2 (0 : Int32) (h.1 251 17) h hO
  have j35 : ∀ (s1 : Int32) (s2 : Int32) (h : Hp), Okk (M_readText_j35 x1 s1 s2 h) P → G 35 [(0, .ref 251), (1, .int x1)] [.int s2, .int s1, .ref 261] h := by
    intro s1 s2 h hO
    unfold M_readText_j35 at hO
    obtain ⟨g10, hO⟩ := ok_if hO
    refine rbx hG 4 35 36 [.iastore] [] [] (wr h 261 (Int32.toNatClampNeg s1) s2) (fun h11 => [(0, .ref 251), (1, .int x1)]) (fun h11 => []) (fun h11 => h11) [kd 261 = 20 ∧ inb s1 (ln 261)] (by decide +kernel) rfl ⟨kd_261, g10⟩ hO (fun h11 hO => ?_)
    refine rbx hG 6 36 41 [.aload 0, .ldc_w 0, .putfield 1221] [-1] [] (wr h11 251 21 (-1 : Int32)) (fun h12 => [(0, .ref 251), (1, .int x1)]) (fun h12 => []) (fun h12 => h12) [kd 251 = 12] (by decide +kernel) rfl kd_251 hO (fun h12 hO => ?_)
    refine rbx hG 6 41 46 [.aload 0, .ldc_w 0, .putfield 1210] [0] [] (wr h12 251 10 (0 : Int32)) (fun h13 => [(0, .ref 251), (1, .int x1)]) (fun h13 => []) (fun h13 => h13) [kd 251 = 12] (by decide +kernel) rfl kd_251 hO (fun h13 hO => ?_)
    refine rbx hG 6 46 51 [.aload 0, .ldc_w 0, .putfield 1217] [0] [] (wr h13 251 17 (0 : Int32)) (fun h14 => [(0, .ref 251), (1, .int x1)]) (fun h14 => []) (fun h14 => h14) [kd 251 = 12] (by decide +kernel) rfl kd_251 hO (fun h14 hO => ?_)
    refine rb hG 4 51 52 [.aload 0] [] [] [(0, .ref 251), (1, .int x1)] [.ref 251] h14 [] (by decide +kernel) rfl trivial ?_
    refine rv hG z_M_token 163 0 52 251 [] [] (by decide +kernel) mk_M_token lk_12_163 rcv_251 rfl ⟨rfl, Nat.le_of_ble_eq_true rfl⟩ (c_M_token (d := d + 7) h14 (ok_bind hO)) ?_
    rintro _ h15 ⟨rfl, hO⟩
    refine rb hG 5 55 57 [.aload 0, .iload 1] [] [] [(0, .ref 251), (1, .int x1)] [.int x1, .ref 251] h15 [] (by decide +kernel) rfl trivial ?_
    refine rv hG z_M_lines 251 1 57 251 [.int x1] [] (by decide +kernel) mk_M_lines lk_12_251 rcv_251 rfl ⟨rfl, Nat.le_of_ble_eq_true rfl⟩ (c_M_lines (d := d) h15 x1 (ok_bind hO)) ?_
    rintro _ h17 ⟨r16, rfl, hO⟩
    refine rb hG 5 60 62 [.istore 2, .iload 2] [] [] [(2, .int r16), (0, .ref 251), (1, .int x1)] [.int r16] h17 [] (by decide +kernel) rfl trivial ?_
    refine ri hG .eq (36) 98 62 (by decide +kernel) (by decide) (fun c18 => ?_) (fun c18 => ?_)
    · have hO := ok_pos c18 hO
      refine rs hG [(0, .ref 251), (2, .int r16)] [1, 0] rfl ?_
      exact j98 r16 h17 hO
    · have hO := ok_neg c18 hO
      refine rb hG 4 65 66 [.iload 1] [] [] [(2, .int r16), (0, .ref 251), (1, .int x1)] [.int x1] h17 [] (by decide +kernel) rfl trivial ?_
      refine riN hG (32) 98 66 (by decide +kernel) (by decide) (fun c19 => ?_) (fun c19 => ?_)
      · have hO := ok_pos c19 hO
        refine rb hG 5 69 73 [.aload 0, .getfield 1217] [] [] [(2, .int r16), (0, .ref 251), (1, .int x1)] [.int (h17.1 251 17)] h17 [kd 251 = 12] (by decide +kernel) rfl kd_251 ?_
        refine riN hG (25) 98 73 (by decide +kernel) (by decide) (fun c20 => ?_) (fun c20 => ?_)
        · have hO := ok_pos c20 hO
          refine rb hG 9 76 86 [.aload 0, .getfield 1221, .aload 0, .invokeinterface 1219 10, .ldc_w 0, .iaload] [1] [] [(2, .int r16), (0, .ref 251), (1, .int x1)] [.int (h17.1 261 (Int32.toNatClampNeg (1 : Int32))), .int (h17.1 251 21)] h17 [kd 251 = 12, kd 251 = 12, kd 261 = 20 ∧ inb (1 : Int32) (ln 261)] (by decide +kernel) rfl ⟨kd_251, kd_251, ⟨kd_261, (by decide +kernel)⟩⟩ ?_
          refine rj hG .lt (12) 98 86 (by decide +kernel) (by decide) (fun c21 => ?_) (fun c21 => ?_)
          · have hO := ok_pos c21 hO
            refine rs hG [(0, .ref 251), (2, .int r16)] [1, 0] rfl ?_
            exact j98 r16 h17 hO
          · have hO := ok_neg c21 hO
            refine rb hG 7 89 95 [.aload 0, .ldc_w 0, .aload 0, .getfield 1212] [4] [] [(2, .int r16), (0, .ref 251), (1, .int x1)] [.int (h17.1 251 12), .int (4 : Int32), .ref 251] h17 [kd 251 = 12] (by decide +kernel) rfl kd_251 ?_
            refine rv hG z_M_later 155 2 95 251 [.int (4 : Int32), .int (h17.1 251 12)] [] (by decide +kernel) mk_M_later lk_12_155 rcv_251 rfl ⟨rfl, Nat.le_of_ble_eq_true rfl⟩ (c_M_later (d := d + 8) h17 (4 : Int32) (h17.1 251 12) (ok_bind hO)) ?_
            rintro _ h22 ⟨rfl, hO⟩
            refine rs hG [(0, .ref 251), (2, .int r16)] [1, 0] rfl ?_
            exact j98 r16 h22 hO
        · have hO := ok_neg c20 hO
          refine rs hG [(0, .ref 251), (2, .int r16)] [1, 0] rfl ?_
          exact j98 r16 h17 hO
      · have hO := ok_neg c19 hO
        refine rs hG [(0, .ref 251), (2, .int r16)] [1, 0] rfl ?_
        exact j98 r16 h17 hO
  have j21 : ∀ (h : Hp), Okk (M_readText_j21 x1 h) P → G 21 [(0, .ref 251), (1, .int x1)] [] h := by
    intro h hO
    unfold M_readText_j21 at hO
    refine rb hG 7 21 27 [.aload 0, .invokeinterface 1219 10, .ldc_w 0, .iload 1] [1] [] [(0, .ref 251), (1, .int x1)] [.int x1, .int (1 : Int32), .ref 261] h [kd 251 = 12] (by decide +kernel) rfl kd_251 ?_
    refine riN hG (7) 34 27 (by decide +kernel) (by decide) (fun c23 => ?_) (fun c23 => ?_)
    · have hO := ok_pos c23 hO
      refine rb hG 5 30 35 [.ldc_w 0] [4] [] [(0, .ref 251), (1, .int x1)] [.int (4 : Int32), .int (1 : Int32), .ref 261] h [] (by decide +kernel) rfl trivial ?_
      exact j35 (1 : Int32) (4 : Int32) h hO
    · have hO := ok_neg c23 hO
      refine rb hG 4 34 35 [.ldc_w 0] [0] [] [(0, .ref 251), (1, .int x1)] [.int (0 : Int32), .int (1 : Int32), .ref 261] h [] (by decide +kernel) rfl trivial ?_
      exact j35 (1 : Int32) (0 : Int32) h hO
  have l2 : ∀ (x2 : Int32) (h : Hp), Okk (M_readText_l2 x1 x2 h) P → G 2 [(0, .ref 251), (1, .int x1), (2, .int x2)] [] h := by
    intro x2 h hO
    obtain ⟨H2, eH2⟩ : ∃ q : (Int32 × Hp) → Prop, q = fun s => G 2 [(0, .ref 251), (1, .int x1), (2, .int (s.1))] [] (s.2) := ⟨_, rfl⟩
    have w9 : H2 (x2, h) := by
      refine lp_wp (f := fun s : (Int32 × Hp) => M_readText_b2 x1 s.1 s.2) (H := H2) (Q := P) ?_ (x2, h) hO
      rintro ⟨x2, h⟩ hO
      rw [eH2]
      show G 2 [(0, .ref 251), (1, .int x1), (2, .int x2)] [] h
      have k2 : ∀ s : (Int32 × Hp), H2 s → G 2 [(0, .ref 251), (1, .int x1), (2, .int (s.1))] [] (s.2) := fun s q => by rw [eH2] at q; exact q
      replace hO : Okk (M_readText_b2 x1 x2 h) (Sum.elim H2 P) := hO
      clear eH2
      unfold M_readText_b2 at hO
      refine rb hG 5 2 5 [.iload 2, .ldc_w 0] [121] [] [(0, .ref 251), (1, .int x1), (2, .int x2)] [.int (121 : Int32), .int x2] h [] (by decide +kernel) rfl trivial ?_
      refine rj hG .ge (16) 21 5 (by decide +kernel) (by decide) (fun c24 => ?_) (fun c24 => ?_)
      · have hO := ok_pos c24 hO
        refine rs hG [(0, .ref 251), (1, .int x1)] [0, 1] rfl ?_
        exact j21 h (ok_inr hO)
      · have hO := ok_neg c24 hO
        obtain ⟨g25, hO⟩ := ok_if hO
        refine rbx hG 8 8 15 [.aload 0, .invokeinterface 1219 10, .iload 2, .ldc_w 0, .iastore] [0] [] (wr h 261 (Int32.toNatClampNeg x2) (0 : Int32)) (fun h26 => [(0, .ref 251), (1, .int x1), (2, .int x2)]) (fun h26 => []) (fun h26 => h26) [kd 251 = 12, kd 261 = 20 ∧ inb x2 (ln 261)] (by decide +kernel) rfl ⟨kd_251, ⟨kd_261, g25⟩⟩ hO (fun h26 hO => ?_)
        refine rbx hG 4 15 18 [.iinc 2 0] [1] [] ((x2 + (1 : Int32))) (fun y27 => [(2, .int y27), (0, .ref 251), (1, .int x1)]) (fun y27 => []) (fun y27 => h26) [] (by decide +kernel) rfl trivial hO (fun y27 hO => ?_)
        refine rb hG 4 18 2 [] [] [] [(2, .int y27), (0, .ref 251), (1, .int x1)] [] h26 [] (by decide +kernel) rfl trivial ?_
        refine rs hG [(0, .ref 251), (1, .int x1), (2, .int y27)] [1, 2, 0] rfl ?_
        exact k2 (y27, h26) (ok_some (Q := (Sum.elim H2 P)) hO)
    rw [eH2] at w9
    exact w9
  refine rb hG 5 0 2 [.ldc_w 0, .istore 2] [0] [] [(2, .int (0 : Int32)), (0, .ref 251), (1, .int x1)] [] h [] (by decide +kernel) rfl trivial ?_
  refine rs hG [(0, .ref 251), (1, .int x1), (2, .int (0 : Int32))] [1, 2, 0] rfl ?_
  exact l2 (0 : Int32) h hO
/-! GrainInnModel.store([III)V -/
noncomputable def M_store_j30 (x1 : Nat) (h : Hp) : Option Hp := some h
noncomputable def M_store_b3 (x1 : Nat) (x2 : Int32) (x3 : Int32) (x4 : Int32) (h : Hp) : Option ((Int32 × Hp) ⊕ Hp) := if x2 ≤ x4 then (((M_store_j30 x1 h).map Sum.inr)) else (if inb x4 (ln 261) then (if kd x1 = 20 ∧ inb ((x2 * x3) + x4) (ln x1) then (bnd (wr h x1 (Int32.toNatClampNeg ((x2 * x3) + x4)) (h.1 261 (Int32.toNatClampNeg x4))) fun h4 => bnd ((x4 + (1 : Int32))) fun y5 => some (.inl (y5, h4))) else none) else none)
noncomputable def M_store_l3 (x1 : Nat) (x2 : Int32) (x3 : Int32) (x4 : Int32) (h : Hp) : Option Hp := lp (fun s : (Int32 × Hp) => M_store_b3 x1 x2 x3 s.1 s.2) (x4, h)
theorem M_store_l3_eq (x1 : Nat) (x2 : Int32) (x3 : Int32) (x4 : Int32) (h : Hp) : M_store_l3 x1 x2 x3 x4 h = (M_store_b3 x1 x2 x3 x4 h).bind (Sum.elim (fun q : (Int32 × Hp) => M_store_l3 x1 x2 x3 q.1 q.2) some) := lp_eq _ _
noncomputable def M_store (h : Hp) (x1 : Nat) (x2 : Int32) (x3 : Int32) : Option Hp := (M_store_l3 x1 x2 x3 (0 : Int32) h)
set_option maxRecDepth 100000 in
set_option maxHeartbeats 4000000 in
theorem c_M_store {E : En} {d : Nat} (h : Hp) (x1 : Nat) (x2 : Int32) (x3 : Int32) {P : Hp → Prop} (hO : Okk (M_store h x1 x2 x3) P) : Cn E (d + 1) z_M_store [.ref 251, .ref x1, .int x2, .int x3] h (RV P) := by
  refine cn_of (on := 12) (d := d + 0) ⟨rfl, by decide +kernel, Nat.le_of_ble_eq_true rfl⟩ (fun G hG => ?_)
  unfold M_store at hO
  show G 0 [(0, .ref 251), (1, .ref x1), (2, .int x2), (3, .int x3)] [] h
  have j30 : ∀ (h : Hp), Okk (M_store_j30 x1 h) P → G 30 [] [] h := by
    intro h hO
    unfold M_store_j30 at hO
    exact eV hG 30 (by decide +kernel) rfl ⟨rfl, ok_some (Q := P) hO⟩
  have l3 : ∀ (x4 : Int32) (h : Hp), Okk (M_store_l3 x1 x2 x3 x4 h) P → G 3 [(0, .ref 251), (1, .ref x1), (2, .int x2), (3, .int x3), (4, .int x4)] [] h := by
    intro x4 h hO
    obtain ⟨H3, eH3⟩ : ∃ q : (Int32 × Hp) → Prop, q = fun s => G 3 [(0, .ref 251), (1, .ref x1), (2, .int x2), (3, .int x3), (4, .int (s.1))] [] (s.2) := ⟨_, rfl⟩
    have w9 : H3 (x4, h) := by
      refine lp_wp (f := fun s : (Int32 × Hp) => M_store_b3 x1 x2 x3 s.1 s.2) (H := H3) (Q := P) ?_ (x4, h) hO
      rintro ⟨x4, h⟩ hO
      rw [eH3]
      show G 3 [(0, .ref 251), (1, .ref x1), (2, .int x2), (3, .int x3), (4, .int x4)] [] h
      have k3 : ∀ s : (Int32 × Hp), H3 s → G 3 [(0, .ref 251), (1, .ref x1), (2, .int x2), (3, .int x3), (4, .int (s.1))] [] (s.2) := fun s q => by rw [eH3] at q; exact q
      replace hO : Okk (M_store_b3 x1 x2 x3 x4 h) (Sum.elim H3 P) := hO
      clear eH3
      unfold M_store_b3 at hO
      refine rb hG 5 3 6 [.iload 4, .iload 2] [] [] [(0, .ref 251), (1, .ref x1), (2, .int x2), (3, .int x3), (4, .int x4)] [.int x2, .int x4] h [] (by decide +kernel) rfl trivial ?_
      refine rj hG .ge (24) 30 6 (by decide +kernel) (by decide) (fun c1 => ?_) (fun c1 => ?_)
      · have hO := ok_pos c1 hO
        refine rs hG [] [] rfl ?_
        exact j30 h (ok_inr hO)
      · have hO := ok_neg c1 hO
        obtain ⟨g2, hO⟩ := ok_if hO
        obtain ⟨g3, hO⟩ := ok_if hO
        refine rbx hG 14 9 24 [.aload 1, .iload 2, .iload 3, .imul, .iload 4, .iadd, .aload 0, .invokeinterface 1219 10, .iload 4, .iaload, .iastore] [] [] (wr h x1 (Int32.toNatClampNeg ((x2 * x3) + x4)) (h.1 261 (Int32.toNatClampNeg x4))) (fun h4 => [(0, .ref 251), (1, .ref x1), (2, .int x2), (3, .int x3), (4, .int x4)]) (fun h4 => []) (fun h4 => h4) [kd 251 = 12, kd 261 = 20 ∧ inb x4 (ln 261), kd x1 = 20 ∧ inb ((x2 * x3) + x4) (ln x1)] (by decide +kernel) rfl ⟨kd_251, ⟨kd_261, g2⟩, g3⟩ hO (fun h4 hO => ?_)
        refine rbx hG 4 24 27 [.iinc 4 0] [1] [] ((x4 + (1 : Int32))) (fun y5 => [(4, .int y5), (0, .ref 251), (1, .ref x1), (2, .int x2), (3, .int x3)]) (fun y5 => []) (fun y5 => h4) [] (by decide +kernel) rfl trivial hO (fun y5 hO => ?_)
        refine rb hG 4 27 3 [] [] [] [(4, .int y5), (0, .ref 251), (1, .ref x1), (2, .int x2), (3, .int x3)] [] h4 [] (by decide +kernel) rfl trivial ?_
        refine rs hG [(0, .ref 251), (1, .ref x1), (2, .int x2), (3, .int x3), (4, .int y5)] [1, 2, 3, 4, 0] rfl ?_
        exact k3 (y5, h4) (ok_some (Q := (Sum.elim H3 P)) hO)
    rw [eH3] at w9
    exact w9
  refine rb hG 5 0 3 [.ldc_w 0, .istore 4] [0] [] [(4, .int (0 : Int32)), (0, .ref 251), (1, .ref x1), (2, .int x2), (3, .int x3)] [] h [] (by decide +kernel) rfl trivial ?_
  refine rs hG [(0, .ref 251), (1, .ref x1), (2, .int x2), (3, .int x3), (4, .int (0 : Int32))] [1, 2, 3, 4, 0] rfl ?_
  exact l3 (0 : Int32) h hO
/-! GrainInnModel.storeAll(II)V -/
noncomputable def M_storeAll (h : Hp) (x1 : Int32) (x2 : Int32) : Option Hp := if x1 = (0 : Int32) then ((M_store h 257 (33 : Int32) x2).bind fun h2 => some h2) else (if x1 = (1 : Int32) then ((M_store h 258 (121 : Int32) x2).bind fun h4 => some h4) else (if x1 = (2 : Int32) then ((M_store h 259 (31 : Int32) x2).bind fun h6 => some h6) else ((M_store h 260 (8 : Int32) x2).bind fun h7 => some h7)))
set_option maxRecDepth 100000 in
set_option maxHeartbeats 4000000 in
theorem c_M_storeAll {E : En} {d : Nat} (h : Hp) (x1 : Int32) (x2 : Int32) {P : Hp → Prop} (hO : Okk (M_storeAll h x1 x2) P) : Cn E (d + 2) z_M_storeAll [.ref 251, .int x1, .int x2] h (RV P) := by
  refine cn_of (on := 12) (d := d + 1) ⟨rfl, by decide +kernel, Nat.le_of_ble_eq_true rfl⟩ (fun G hG => ?_)
  unfold M_storeAll at hO
  show G 0 [(0, .ref 251), (1, .int x1), (2, .int x2)] [] h
  refine rb hG 4 0 1 [.iload 1] [] [] [(0, .ref 251), (1, .int x1), (2, .int x2)] [.int x1] h [] (by decide +kernel) rfl trivial ?_
  refine rw9 hG (63) (0) (2) #[(27), (39), (51)] 27 1 [28, 40, 52] 64 (by decide +kernel) (by decide +kernel) ?_
  refine sw_c (0 : Int32) (by decide) (fun c1 => ?_) (fun c1 => ?_)
  · have hO := ok_pos c1 hO
    refine rb hG 8 28 36 [.aload 0, .aload 0, .invokeinterface 1206 6, .ldc_w 0, .iload 2] [33] [] [(0, .ref 251), (1, .int x1), (2, .int x2)] [.int x2, .int (33 : Int32), .ref 257, .ref 251] h [kd 251 = 12] (by decide +kernel) rfl kd_251 ?_
    refine rv hG z_M_store 254 3 36 251 [.ref 257, .int (33 : Int32), .int x2] [] (by decide +kernel) mk_M_store lk_12_254 rcv_251 rfl ⟨rfl, Nat.le_of_ble_eq_true rfl⟩ (c_M_store (d := d) h 257 (33 : Int32) x2 (ok_bind hO)) ?_
    rintro _ h2 ⟨rfl, hO⟩
    exact eV hG 39 (by decide +kernel) rfl ⟨rfl, ok_some (Q := P) hO⟩
  have hO := ok_neg c1 hO
  refine sw_c (1 : Int32) (by decide) (fun c3 => ?_) (fun c3 => ?_)
  · have hO := ok_pos c3 hO
    refine rb hG 8 40 48 [.aload 0, .aload 0, .invokeinterface 1207 7, .ldc_w 0, .iload 2] [121] [] [(0, .ref 251), (1, .int x1), (2, .int x2)] [.int x2, .int (121 : Int32), .ref 258, .ref 251] h [kd 251 = 12] (by decide +kernel) rfl kd_251 ?_
    refine rv hG z_M_store 254 3 48 251 [.ref 258, .int (121 : Int32), .int x2] [] (by decide +kernel) mk_M_store lk_12_254 rcv_251 rfl ⟨rfl, Nat.le_of_ble_eq_true rfl⟩ (c_M_store (d := d) h 258 (121 : Int32) x2 (ok_bind hO)) ?_
    rintro _ h4 ⟨rfl, hO⟩
    exact eV hG 51 (by decide +kernel) rfl ⟨rfl, ok_some (Q := P) hO⟩
  have hO := ok_neg c3 hO
  refine sw_c (2 : Int32) (by decide) (fun c5 => ?_) (fun c5 => ?_)
  · have hO := ok_pos c5 hO
    refine rb hG 8 52 60 [.aload 0, .aload 0, .invokeinterface 1208 8, .ldc_w 0, .iload 2] [31] [] [(0, .ref 251), (1, .int x1), (2, .int x2)] [.int x2, .int (31 : Int32), .ref 259, .ref 251] h [kd 251 = 12] (by decide +kernel) rfl kd_251 ?_
    refine rv hG z_M_store 254 3 60 251 [.ref 259, .int (31 : Int32), .int x2] [] (by decide +kernel) mk_M_store lk_12_254 rcv_251 rfl ⟨rfl, Nat.le_of_ble_eq_true rfl⟩ (c_M_store (d := d) h 259 (31 : Int32) x2 (ok_bind hO)) ?_
    rintro _ h6 ⟨rfl, hO⟩
    exact eV hG 63 (by decide +kernel) rfl ⟨rfl, ok_some (Q := P) hO⟩
  have hO := ok_neg c5 hO
  show G 64 _ _ _
  refine rb hG 8 64 72 [.aload 0, .aload 0, .invokeinterface 1209 9, .ldc_w 0, .iload 2] [8] [] [(0, .ref 251), (1, .int x1), (2, .int x2)] [.int x2, .int (8 : Int32), .ref 260, .ref 251] h [kd 251 = 12] (by decide +kernel) rfl kd_251 ?_
  refine rv hG z_M_store 254 3 72 251 [.ref 260, .int (8 : Int32), .int x2] [] (by decide +kernel) mk_M_store lk_12_254 rcv_251 rfl ⟨rfl, Nat.le_of_ble_eq_true rfl⟩ (c_M_store (d := d) h 260 (8 : Int32) x2 (ok_bind hO)) ?_
  rintro _ h7 ⟨rfl, hO⟩
  exact eV hG 75 (by decide +kernel) rfl ⟨rfl, ok_some (Q := P) hO⟩
/-! GrainInnModel.text(II)I -/
noncomputable def M_text_j72 (h : Hp) : Option (Int32 × Hp) := some ((-2 : Int32), h)
noncomputable def M_text_j118 (x1 : Int32) (x3 : Int32) (s1 : Int32) (s2 : Int32) (s3 : Int32) (h : Hp) : Option (Int32 × Hp) := if inb s1 (ln 256) then (bnd (wr h 256 (Int32.toNatClampNeg s1) (s2 + s3)) fun h2 => (M_storeAll h2 x1 x3).bind fun h3 => some (x3, h3)) else none
noncomputable def M_text_j100 (x1 : Int32) (x2 : Int32) (s0 : Int32) (h : Hp) : Option (Int32 × Hp) := if inb x1 (ln 256) then (if x2 = (-1 : Int32) then ((M_text_j118 x1 s0 x1 (h.1 256 (Int32.toNatClampNeg x1)) (1 : Int32) h)) else ((M_text_j118 x1 s0 x1 (h.1 256 (Int32.toNatClampNeg x1)) (0 : Int32) h))) else none
noncomputable def M_text_j75 (x1 : Int32) (x2 : Int32) (h : Hp) : Option (Int32 × Hp) := (M_readText h x1).bind fun (r6, h7) => if r6 = 0 then (some ((-1 : Int32), h7)) else (if x2 = (-1 : Int32) then (if inb x1 (ln 256) then ((M_text_j100 x1 x2 (h7.1 256 (Int32.toNatClampNeg x1)) h7)) else none) else ((M_text_j100 x1 x2 x2 h7)))
noncomputable def M_text (h : Hp) (x1 : Int32) (x2 : Int32) : Option (Int32 × Hp) := bnd (wr h 251 0 (0 : Int32)) fun h11 => bnd (wr h11 251 11 (h11.1 253 (Int32.toNatClampNeg (0 : Int32)))) fun h12 => bnd (wr h12 253 (Int32.toNatClampNeg (0 : Int32)) (0 : Int32)) fun h13 => bnd (wr h13 254 (Int32.toNatClampNeg (0 : Int32)) (0 : Int32)) fun h14 => bnd (wr h14 255 (Int32.toNatClampNeg (0 : Int32)) (-1 : Int32)) fun h15 => (M_in x1 (0 : Int32) (3 : Int32)).bind fun r16 => if r16 = 0 then ((M_text_j72 h15)) else (if x2 = (-1 : Int32) then (if inb x1 (ln 256) then (if (h15.1 256 (Int32.toNatClampNeg x1)) = (2 : Int32) then ((M_text_j72 h15)) else ((M_text_j75 x1 x2 h15))) else none) else ((M_is h15 x1 x2).bind fun r21 => if r21 = 0 then ((M_text_j72 h15)) else ((M_text_j75 x1 x2 h15))))
set_option maxRecDepth 100000 in
set_option maxHeartbeats 4000000 in
theorem c_M_text {E : En} {d : Nat} (h : Hp) (x1 : Int32) (x2 : Int32) {P : (Int32 × Hp) → Prop} (hO : Okk (M_text h x1 x2) P) : Cn E (d + 11) z_M_text [.ref 251, .int x1, .int x2] h (RI P) := by
  refine cn_of (on := 12) (d := d + 10) ⟨rfl, by decide +kernel, Nat.le_of_ble_eq_true rfl⟩ (fun G hG => ?_)
  unfold M_text at hO
  show G 0 [(0, .ref 251), (1, .int x1), (2, .int x2)] [] h
  have j72 : ∀ (h : Hp), Okk (M_text_j72 h) P → G 72 [] [] h := by
    intro h hO
    unfold M_text_j72 at hO
    refine rb hG 4 72 74 [.ldc_w 0] [-2] [] [] [.int (-2 : Int32)] h [] (by decide +kernel) rfl trivial ?_
    exact eI hG 74 (by decide +kernel) rfl ⟨(-2 : Int32), rfl, ok_some (Q := P) hO⟩
  have j118 : ∀ (x3 : Int32) (s1 : Int32) (s2 : Int32) (s3 : Int32) (h : Hp), Okk (M_text_j118 x1 x3 s1 s2 s3 h) P → G 118 [(0, .ref 251), (1, .int x1), (3, .int x3)] [.int s3, .int s2, .int s1, .ref 256] h := by
    intro x3 s1 s2 s3 h hO
    unfold M_text_j118 at hO
    obtain ⟨g1, hO⟩ := ok_if hO
    refine rbx hG 5 118 120 [.iadd, .iastore] [] [] (wr h 256 (Int32.toNatClampNeg s1) (s2 + s3)) (fun h2 => [(0, .ref 251), (1, .int x1), (3, .int x3)]) (fun h2 => []) (fun h2 => h2) [kd 256 = 20 ∧ inb s1 (ln 256)] (by decide +kernel) rfl ⟨kd_256, g1⟩ hO (fun h2 hO => ?_)
    refine rb hG 6 120 123 [.aload 0, .iload 1, .iload 3] [] [] [(0, .ref 251), (1, .int x1), (3, .int x3)] [.int x3, .int x1, .ref 251] h2 [] (by decide +kernel) rfl trivial ?_
    refine rv hG z_M_storeAll 264 2 123 251 [.int x1, .int x3] [] (by decide +kernel) mk_M_storeAll lk_12_264 rcv_251 rfl ⟨rfl, Nat.le_of_ble_eq_true rfl⟩ (c_M_storeAll (d := d + 8) h2 x1 x3 (ok_bind hO)) ?_
    rintro _ h3 ⟨rfl, hO⟩
    refine rb hG 4 126 127 [.iload 3] [] [] [(0, .ref 251), (1, .int x1), (3, .int x3)] [.int x3] h3 [] (by decide +kernel) rfl trivial ?_
    exact eI hG 127 (by decide +kernel) rfl ⟨x3, rfl, ok_some (Q := P) hO⟩
  have j100 : ∀ (s0 : Int32) (h : Hp), Okk (M_text_j100 x1 x2 s0 h) P → G 100 [(0, .ref 251), (1, .int x1), (2, .int x2)] [.int s0] h := by
    intro s0 h hO
    unfold M_text_j100 at hO
    obtain ⟨g4, hO⟩ := ok_if hO
    refine rb hG 11 100 110 [.istore 3, .aload 0, .invokeinterface 1205 5, .iload 1, .dup2, .iaload, .iload 2, .ldc_w 0] [-1] [] [(3, .int s0), (0, .ref 251), (1, .int x1), (2, .int x2)] [.int (-1 : Int32), .int x2, .int (h.1 256 (Int32.toNatClampNeg x1)), .int x1, .ref 256] h [kd 251 = 12, kd 256 = 20 ∧ inb x1 (ln 256)] (by decide +kernel) rfl ⟨kd_251, ⟨kd_256, g4⟩⟩ ?_
    refine rjN hG (7) 117 110 (by decide +kernel) (by decide) (fun c5 => ?_) (fun c5 => ?_)
    · have hO := ok_pos c5 hO
      refine rb hG 5 113 118 [.ldc_w 0] [1] [] [(3, .int s0), (0, .ref 251), (1, .int x1), (2, .int x2)] [.int (1 : Int32), .int (h.1 256 (Int32.toNatClampNeg x1)), .int x1, .ref 256] h [] (by decide +kernel) rfl trivial ?_
      refine rs hG [(0, .ref 251), (1, .int x1), (3, .int s0)] [1, 2, 0] rfl ?_
      exact j118 s0 x1 (h.1 256 (Int32.toNatClampNeg x1)) (1 : Int32) h hO
    · have hO := ok_neg c5 hO
      refine rb hG 4 117 118 [.ldc_w 0] [0] [] [(3, .int s0), (0, .ref 251), (1, .int x1), (2, .int x2)] [.int (0 : Int32), .int (h.1 256 (Int32.toNatClampNeg x1)), .int x1, .ref 256] h [] (by decide +kernel) rfl trivial ?_
      refine rs hG [(0, .ref 251), (1, .int x1), (3, .int s0)] [1, 2, 0] rfl ?_
      exact j118 s0 x1 (h.1 256 (Int32.toNatClampNeg x1)) (0 : Int32) h hO
  have j75 : ∀ (h : Hp), Okk (M_text_j75 x1 x2 h) P → G 75 [(0, .ref 251), (1, .int x1), (2, .int x2)] [] h := by
    intro h hO
    unfold M_text_j75 at hO
    refine rb hG 5 75 77 [.aload 0, .iload 1] [] [] [(0, .ref 251), (1, .int x1), (2, .int x2)] [.int x1, .ref 251] h [] (by decide +kernel) rfl trivial ?_
    refine rv hG z_M_readText 261 1 77 251 [.int x1] [] (by decide +kernel) mk_M_readText lk_12_261 rcv_251 rfl ⟨rfl, Nat.le_of_ble_eq_true rfl⟩ (c_M_readText (d := d) h x1 (ok_bind hO)) ?_
    rintro _ h7 ⟨r6, rfl, hO⟩
    refine riN hG (5) 85 80 (by decide +kernel) (by decide) (fun c8 => ?_) (fun c8 => ?_)
    · have hO := ok_pos c8 hO
      refine rb hG 4 83 84 [.ldc_w 0] [-1] [] [(0, .ref 251), (1, .int x1), (2, .int x2)] [.int (-1 : Int32)] h7 [] (by decide +kernel) rfl trivial ?_
      exact eI hG 84 (by decide +kernel) rfl ⟨(-1 : Int32), rfl, ok_some (Q := P) hO⟩
    · have hO := ok_neg c8 hO
      refine rb hG 5 85 87 [.iload 2, .ldc_w 0] [-1] [] [(0, .ref 251), (1, .int x1), (2, .int x2)] [.int (-1 : Int32), .int x2] h7 [] (by decide +kernel) rfl trivial ?_
      refine rjN hG (12) 99 87 (by decide +kernel) (by decide) (fun c9 => ?_) (fun c9 => ?_)
      · have hO := ok_pos c9 hO
        obtain ⟨g10, hO⟩ := ok_if hO
        refine rb hG 8 90 100 [.aload 0, .invokeinterface 1205 5, .iload 1, .iaload] [] [] [(0, .ref 251), (1, .int x1), (2, .int x2)] [.int (h7.1 256 (Int32.toNatClampNeg x1))] h7 [kd 251 = 12, kd 256 = 20 ∧ inb x1 (ln 256)] (by decide +kernel) rfl ⟨kd_251, ⟨kd_256, g10⟩⟩ ?_
        exact j100 (h7.1 256 (Int32.toNatClampNeg x1)) h7 hO
      · have hO := ok_neg c9 hO
        refine rb hG 4 99 100 [.iload 2] [] [] [(0, .ref 251), (1, .int x1), (2, .int x2)] [.int x2] h7 [] (by decide +kernel) rfl trivial ?_
        exact j100 x2 h7 hO
  refine rbx hG 6 0 5 [.aload 0, .ldc_w 0, .putfield 1200] [0] [] (wr h 251 0 (0 : Int32)) (fun h11 => [(0, .ref 251), (1, .int x1), (2, .int x2)]) (fun h11 => []) (fun h11 => h11) [kd 251 = 12] (by decide +kernel) rfl kd_251 hO (fun h11 hO => ?_)
  refine rbx hG 9 5 15 [.aload 0, .aload 0, .invokeinterface 1202 2, .ldc_w 0, .iaload, .putfield 1211] [0] [] (wr h11 251 11 (h11.1 253 (Int32.toNatClampNeg (0 : Int32)))) (fun h12 => [(0, .ref 251), (1, .int x1), (2, .int x2)]) (fun h12 => []) (fun h12 => h12) [kd 251 = 12, kd 253 = 20 ∧ inb (0 : Int32) (ln 253), kd 251 = 12] (by decide +kernel) rfl ⟨kd_251, ⟨kd_253, (by decide +kernel)⟩, kd_251⟩ hO (fun h12 hO => ?_)
  refine rbx hG 8 15 22 [.aload 0, .invokeinterface 1202 2, .ldc_w 0, .ldc_w 0, .iastore] [0] [] (wr h12 253 (Int32.toNatClampNeg (0 : Int32)) (0 : Int32)) (fun h13 => [(0, .ref 251), (1, .int x1), (2, .int x2)]) (fun h13 => []) (fun h13 => h13) [kd 251 = 12, kd 253 = 20 ∧ inb (0 : Int32) (ln 253)] (by decide +kernel) rfl ⟨kd_251, ⟨kd_253, (by decide +kernel)⟩⟩ hO (fun h13 hO => ?_)
  refine rbx hG 8 22 29 [.aload 0, .invokeinterface 1203 3, .ldc_w 0, .ldc_w 0, .iastore] [0] [] (wr h13 254 (Int32.toNatClampNeg (0 : Int32)) (0 : Int32)) (fun h14 => [(0, .ref 251), (1, .int x1), (2, .int x2)]) (fun h14 => []) (fun h14 => h14) [kd 251 = 12, kd 254 = 20 ∧ inb (0 : Int32) (ln 254)] (by decide +kernel) rfl ⟨kd_251, ⟨kd_254, (by decide +kernel)⟩⟩ hO (fun h14 hO => ?_)
  refine rbx hG 8 29 36 [.aload 0, .invokeinterface 1204 4, .ldc_w 0, .ldc_w 1, .iastore] [0, -1] [] (wr h14 255 (Int32.toNatClampNeg (0 : Int32)) (-1 : Int32)) (fun h15 => [(0, .ref 251), (1, .int x1), (2, .int x2)]) (fun h15 => []) (fun h15 => h15) [kd 251 = 12, kd 255 = 20 ∧ inb (0 : Int32) (ln 255)] (by decide +kernel) rfl ⟨kd_251, ⟨kd_255, (by decide +kernel)⟩⟩ hO (fun h15 hO => ?_)
  refine rb hG 6 36 39 [.iload 1, .ldc_w 0, .ldc_w 1] [0, 3] [] [(0, .ref 251), (1, .int x1), (2, .int x2)] [.int (3 : Int32), .int (0 : Int32), .int x1] h15 [] (by decide +kernel) rfl trivial ?_
  refine rt hG z_M_in 111 3 39 [.int x1, .int (0 : Int32), .int (3 : Int32)] [] (by decide +kernel) mk_M_in lk_12_111 rfl ⟨rfl, Nat.le_of_ble_eq_true rfl⟩ (c_M_in (d := d + 9) h15 x1 (0 : Int32) (3 : Int32) (ok_bind hO)) ?_
  rintro _ _ ⟨r16, rfl, rfl, hO⟩
  refine ri hG .eq (30) 72 42 (by decide +kernel) (by decide) (fun c17 => ?_) (fun c17 => ?_)
  · have hO := ok_pos c17 hO
    refine rs hG [] [] rfl ?_
    exact j72 h15 hO
  · have hO := ok_neg c17 hO
    refine rb hG 5 45 47 [.iload 2, .ldc_w 0] [-1] [] [(0, .ref 251), (1, .int x1), (2, .int x2)] [.int (-1 : Int32), .int x2] h15 [] (by decide +kernel) rfl trivial ?_
    refine rjN hG (16) 63 47 (by decide +kernel) (by decide) (fun c18 => ?_) (fun c18 => ?_)
    · have hO := ok_pos c18 hO
      obtain ⟨g19, hO⟩ := ok_if hO
      refine rb hG 8 50 57 [.aload 0, .invokeinterface 1205 5, .iload 1, .iaload, .ldc_w 0] [2] [] [(0, .ref 251), (1, .int x1), (2, .int x2)] [.int (2 : Int32), .int (h15.1 256 (Int32.toNatClampNeg x1))] h15 [kd 251 = 12, kd 256 = 20 ∧ inb x1 (ln 256)] (by decide +kernel) rfl ⟨kd_251, ⟨kd_256, g19⟩⟩ ?_
      refine rjN hG (18) 75 57 (by decide +kernel) (by decide) (fun c20 => ?_) (fun c20 => ?_)
      · have hO := ok_pos c20 hO
        refine rb hG 4 60 72 [] [] [] [(0, .ref 251), (1, .int x1), (2, .int x2)] [] h15 [] (by decide +kernel) rfl trivial ?_
        refine rs hG [] [] rfl ?_
        exact j72 h15 hO
      · have hO := ok_neg c20 hO
        exact j75 h15 hO
    · have hO := ok_neg c18 hO
      refine rb hG 6 63 66 [.aload 0, .iload 1, .iload 2] [] [] [(0, .ref 251), (1, .int x1), (2, .int x2)] [.int x2, .int x1, .ref 251] h15 [] (by decide +kernel) rfl trivial ?_
      refine rv hG z_M_is 258 2 66 251 [.int x1, .int x2] [] (by decide +kernel) mk_M_is lk_12_258 rcv_251 rfl ⟨rfl, Nat.le_of_ble_eq_true rfl⟩ (c_M_is (d := d + 8) h15 x1 x2 (ok_bind hO)) ?_
      rintro _ _ ⟨r21, rfl, rfl, hO⟩
      refine riN hG (6) 75 69 (by decide +kernel) (by decide) (fun c22 => ?_) (fun c22 => ?_)
      · have hO := ok_pos c22 hO
        refine rs hG [] [] rfl ?_
        exact j72 h15 hO
      · have hO := ok_neg c22 hO
        exact j75 h15 hO
/-! GrainInn.fault(I)I -/
noncomputable def K_fault_j28 (s0 : Int32) (h : Hp) : Option Int32 := some s0
noncomputable def K_fault (h : Hp) (x1 : Int32) : Option Int32 := if x1 = 0 then (some (h.1 2 4)) else (if x1 = (1 : Int32) then ((K_fault_j28 (h.1 2 5) h)) else ((K_fault_j28 (-1 : Int32) h)))
set_option maxRecDepth 100000 in
set_option maxHeartbeats 4000000 in
theorem c_K_fault {E : En} {d : Nat} (h : Hp) (x1 : Int32) {P : Int32 → Prop} (hO : Okk (K_fault h x1) P) : Cn E (d + 1) z_K_fault [.ref 1, .int x1] h (RIp h P) := by
  refine cn_of (on := 11) (d := d + 0) ⟨rfl, by decide +kernel, Nat.le_of_ble_eq_true rfl⟩ (fun G hG => ?_)
  unfold K_fault at hO
  show G 0 [(0, .ref 1), (1, .int x1)] [] h
  have j28 : ∀ (s0 : Int32), Okk (K_fault_j28 s0 h) P → G 28 [] [.int s0] h := by
    intro s0 hO
    unfold K_fault_j28 at hO
    exact eI hG 28 (by decide +kernel) rfl ⟨s0, rfl, rfl, ok_some (Q := P) hO⟩
  refine rb hG 4 0 1 [.iload 1] [] [] [(0, .ref 1), (1, .int x1)] [.int x1] h [] (by decide +kernel) rfl trivial ?_
  refine riN hG (11) 12 1 (by decide +kernel) (by decide) (fun c1 => ?_) (fun c1 => ?_)
  · have hO := ok_pos c1 hO
    refine rb hG 6 4 11 [.aload 0, .invokeinterface 1100 1, .getfield 904] [] [] [(0, .ref 1), (1, .int x1)] [.int (h.1 2 4)] h [kd 1 = 11, kd 2 = 9] (by decide +kernel) rfl ⟨kd_1, kd_2⟩ ?_
    exact eI hG 11 (by decide +kernel) rfl ⟨(h.1 2 4), rfl, rfl, ok_some (Q := P) hO⟩
  · have hO := ok_neg c1 hO
    refine rb hG 5 12 14 [.iload 1, .ldc_w 0] [1] [] [(0, .ref 1), (1, .int x1)] [.int (1 : Int32), .int x1] h [] (by decide +kernel) rfl trivial ?_
    refine rjN hG (13) 27 14 (by decide +kernel) (by decide) (fun c2 => ?_) (fun c2 => ?_)
    · have hO := ok_pos c2 hO
      refine rb hG 7 17 28 [.aload 0, .invokeinterface 1100 1, .getfield 905] [] [] [(0, .ref 1), (1, .int x1)] [.int (h.1 2 5)] h [kd 1 = 11, kd 2 = 9] (by decide +kernel) rfl ⟨kd_1, kd_2⟩ ?_
      refine rs hG [] [] rfl ?_
      exact j28 (h.1 2 5) hO
    · have hO := ok_neg c2 hO
      refine rb hG 4 27 28 [.ldc_w 0] [-1] [] [(0, .ref 1), (1, .int x1)] [.int (-1 : Int32)] h [] (by decide +kernel) rfl trivial ?_
      refine rs hG [] [] rfl ?_
      exact j28 (-1 : Int32) hO
/-! GrainInnModel.fault(I)I -/
noncomputable def M_fault_j33 (s0 : Int32) (h : Hp) : Option (Int32 × Hp) := some (s0, h)
noncomputable def M_fault (h : Hp) (x1 : Int32) : Option (Int32 × Hp) := bnd (wr h 251 0 (0 : Int32)) fun h1 => if x1 = 0 then ((M_fault_j33 (h1.1 254 (Int32.toNatClampNeg (0 : Int32))) h1)) else (if x1 = (1 : Int32) then ((M_fault_j33 (h1.1 255 (Int32.toNatClampNeg (0 : Int32))) h1)) else ((M_fault_j33 (-1 : Int32) h1)))
set_option maxRecDepth 100000 in
set_option maxHeartbeats 4000000 in
theorem c_M_fault {E : En} {d : Nat} (h : Hp) (x1 : Int32) {P : (Int32 × Hp) → Prop} (hO : Okk (M_fault h x1) P) : Cn E (d + 1) z_M_fault [.ref 251, .int x1] h (RI P) := by
  refine cn_of (on := 12) (d := d + 0) ⟨rfl, by decide +kernel, Nat.le_of_ble_eq_true rfl⟩ (fun G hG => ?_)
  unfold M_fault at hO
  show G 0 [(0, .ref 251), (1, .int x1)] [] h
  have j33 : ∀ (s0 : Int32) (h : Hp), Okk (M_fault_j33 s0 h) P → G 33 [] [.int s0] h := by
    intro s0 h hO
    unfold M_fault_j33 at hO
    exact eI hG 33 (by decide +kernel) rfl ⟨s0, rfl, ok_some (Q := P) hO⟩
  refine rbx hG 6 0 5 [.aload 0, .ldc_w 0, .putfield 1200] [0] [] (wr h 251 0 (0 : Int32)) (fun h1 => [(0, .ref 251), (1, .int x1)]) (fun h1 => []) (fun h1 => h1) [kd 251 = 12] (by decide +kernel) rfl kd_251 hO (fun h1 hO => ?_)
  refine rb hG 4 5 6 [.iload 1] [] [] [(0, .ref 251), (1, .int x1)] [.int x1] h1 [] (by decide +kernel) rfl trivial ?_
  refine riN hG (12) 18 6 (by decide +kernel) (by decide) (fun c2 => ?_) (fun c2 => ?_)
  · have hO := ok_pos c2 hO
    refine rb hG 8 9 33 [.aload 0, .invokeinterface 1203 3, .ldc_w 0, .iaload] [0] [] [(0, .ref 251), (1, .int x1)] [.int (h1.1 254 (Int32.toNatClampNeg (0 : Int32)))] h1 [kd 251 = 12, kd 254 = 20 ∧ inb (0 : Int32) (ln 254)] (by decide +kernel) rfl ⟨kd_251, ⟨kd_254, (by decide +kernel)⟩⟩ ?_
    refine rs hG [] [] rfl ?_
    exact j33 (h1.1 254 (Int32.toNatClampNeg (0 : Int32))) h1 hO
  · have hO := ok_neg c2 hO
    refine rb hG 5 18 20 [.iload 1, .ldc_w 0] [1] [] [(0, .ref 251), (1, .int x1)] [.int (1 : Int32), .int x1] h1 [] (by decide +kernel) rfl trivial ?_
    refine rjN hG (12) 32 20 (by decide +kernel) (by decide) (fun c3 => ?_) (fun c3 => ?_)
    · have hO := ok_pos c3 hO
      refine rb hG 8 23 33 [.aload 0, .invokeinterface 1204 4, .ldc_w 0, .iaload] [0] [] [(0, .ref 251), (1, .int x1)] [.int (h1.1 255 (Int32.toNatClampNeg (0 : Int32)))] h1 [kd 251 = 12, kd 255 = 20 ∧ inb (0 : Int32) (ln 255)] (by decide +kernel) rfl ⟨kd_251, ⟨kd_255, (by decide +kernel)⟩⟩ ?_
      refine rs hG [] [] rfl ?_
      exact j33 (h1.1 255 (Int32.toNatClampNeg (0 : Int32))) h1 hO
    · have hO := ok_neg c3 hO
      refine rb hG 4 32 33 [.ldc_w 0] [-1] [] [(0, .ref 251), (1, .int x1)] [.int (-1 : Int32)] h1 [] (by decide +kernel) rfl trivial ?_
      refine rs hG [] [] rfl ?_
      exact j33 (-1 : Int32) h1 hO
/-! GrainInn.House.hasTable(I)Z -/
noncomputable def H_hasTable_j17 (x0 : Nat) (s0 : Int32) (h : Hp) : Option Int32 := if s0 = 0 ∨ s0 = 1 then (some s0) else none
noncomputable def H_hasTable_j16 (x0 : Nat) (h : Hp) : Option Int32 := (H_hasTable_j17 x0 (0 : Int32) h)
noncomputable def H_hasTable (h : Hp) (x0 : Nat) (x1 : Int32) : Option Int32 := if kd x0 = 1 then (if x1 < 0 then ((H_hasTable_j16 x0 h)) else (if (h.1 x0 5) ≤ x1 then ((H_hasTable_j16 x0 h)) else ((H_hasTable_j17 x0 (1 : Int32) h)))) else none
set_option maxRecDepth 100000 in
set_option maxHeartbeats 4000000 in
theorem c_H_hasTable {E : En} {d : Nat} (h : Hp) (x0 : Nat) (x1 : Int32) {P : Int32 → Prop} (hO : Okk (H_hasTable h x0 x1) P) : Cn E (d + 1) z_H_hasTable [.ref x0, .int x1] h (RIp h P) := by
  refine cn_of (on := 1) (d := d + 0) ⟨rfl, by decide +kernel, Nat.le_of_ble_eq_true rfl⟩ (fun G hG => ?_)
  unfold H_hasTable at hO
  show G 0 [(0, .ref x0), (1, .int x1)] [] h
  obtain ⟨g0, hO⟩ := ok_if hO
  have j17 : ∀ (s0 : Int32), Okk (H_hasTable_j17 x0 s0 h) P → G 17 [] [.int s0] h := by
    intro s0 hO
    unfold H_hasTable_j17 at hO
    obtain ⟨g1, hO⟩ := ok_if hO
    exact eZ hG 17 (by decide +kernel) rfl g1 ⟨s0, rfl, rfl, ok_some (Q := P) hO⟩
  have j16 : Okk (H_hasTable_j16 x0 h) P → G 16 [] [] h := by
    intro hO
    unfold H_hasTable_j16 at hO
    refine rb hG 4 16 17 [.ldc_w 0] [0] [] [] [.int (0 : Int32)] h [] (by decide +kernel) rfl trivial ?_
    exact j17 (0 : Int32) hO
  refine rb hG 4 0 1 [.iload 1] [] [] [(0, .ref x0), (1, .int x1)] [.int x1] h [] (by decide +kernel) rfl trivial ?_
  refine ri hG .lt (15) 16 1 (by decide +kernel) (by decide) (fun c2 => ?_) (fun c2 => ?_)
  · have hO := ok_pos c2 hO
    refine rs hG [] [] rfl ?_
    exact j16 hO
  · have hO := ok_neg c2 hO
    refine rb hG 6 4 9 [.iload 1, .aload 0, .getfield 105] [] [] [(0, .ref x0), (1, .int x1)] [.int (h.1 x0 5), .int x1] h [kd x0 = 1] (by decide +kernel) rfl g0 ?_
    refine rj hG .ge (7) 16 9 (by decide +kernel) (by decide) (fun c3 => ?_) (fun c3 => ?_)
    · have hO := ok_pos c3 hO
      refine rs hG [] [] rfl ?_
      exact j16 hO
    · have hO := ok_neg c3 hO
      refine rb hG 5 12 17 [.ldc_w 0] [1] [] [(0, .ref x0), (1, .int x1)] [.int (1 : Int32)] h [] (by decide +kernel) rfl trivial ?_
      refine rs hG [] [] rfl ?_
      exact j17 (1 : Int32) hO
/-! GrainInn.House.seatsOf(I)I -/
noncomputable def H_seatsOf_j18 (x0 : Nat) (s0 : Int32) (h : Hp) : Option Int32 := some s0
noncomputable def H_seatsOf (h : Hp) (x0 : Nat) (x1 : Int32) : Option Int32 := if kd x0 = 1 then ((H_hasTable h x0 x1).bind fun r1 => if r1 = 0 then ((H_seatsOf_j18 x0 (0 : Int32) h)) else (if kd (x0 + 1) = 20 ∧ inb x1 (ln (x0 + 1)) then ((H_seatsOf_j18 x0 (h.1 (x0 + 1) (Int32.toNatClampNeg x1)) h)) else none)) else none
set_option maxRecDepth 100000 in
set_option maxHeartbeats 4000000 in
theorem c_H_seatsOf {E : En} {d : Nat} (h : Hp) (x0 : Nat) (x1 : Int32) {P : Int32 → Prop} (hO : Okk (H_seatsOf h x0 x1) P) : Cn E (d + 2) z_H_seatsOf [.ref x0, .int x1] h (RIp h P) := by
  refine cn_of (on := 1) (d := d + 1) ⟨rfl, by decide +kernel, Nat.le_of_ble_eq_true rfl⟩ (fun G hG => ?_)
  unfold H_seatsOf at hO
  show G 0 [(0, .ref x0), (1, .int x1)] [] h
  obtain ⟨g0, hO⟩ := ok_if hO
  have j18 : ∀ (s0 : Int32), Okk (H_seatsOf_j18 x0 s0 h) P → G 18 [] [.int s0] h := by
    intro s0 hO
    unfold H_seatsOf_j18 at hO
    exact eI hG 18 (by decide +kernel) rfl ⟨s0, rfl, rfl, ok_some (Q := P) hO⟩
  refine rb hG 5 0 2 [.aload 0, .iload 1] [] [] [(0, .ref x0), (1, .int x1)] [.int x1, .ref x0] h [] (by decide +kernel) rfl trivial ?_
  refine rv hG z_H_hasTable 54 1 2 x0 [.int x1] [] (by decide +kernel) mk_H_hasTable lk_1_54 (rcv_H g0) rfl ⟨rfl, Nat.le_of_ble_eq_true rfl⟩ (c_H_hasTable (d := d) h x0 x1 (ok_bind hO)) ?_
  rintro _ _ ⟨r1, rfl, rfl, hO⟩
  refine ri hG .eq (12) 17 5 (by decide +kernel) (by decide) (fun c2 => ?_) (fun c2 => ?_)
  · have hO := ok_pos c2 hO
    refine rb hG 4 17 18 [.ldc_w 0] [0] [] [(0, .ref x0), (1, .int x1)] [.int (0 : Int32)] h [] (by decide +kernel) rfl trivial ?_
    refine rs hG [] [] rfl ?_
    exact j18 (0 : Int32) hO
  · have hO := ok_neg c2 hO
    obtain ⟨g3, hO⟩ := ok_if hO
    refine rb hG 8 8 18 [.aload 0, .invokeinterface 100 1, .iload 1, .iaload] [] [] [(0, .ref x0), (1, .int x1)] [.int (h.1 (x0 + 1) (Int32.toNatClampNeg x1))] h [kd x0 = 1, kd (x0 + 1) = 20 ∧ inb x1 (ln (x0 + 1))] (by decide +kernel) rfl ⟨g0, g3⟩ ?_
    refine rs hG [] [] rfl ?_
    exact j18 (h.1 (x0 + 1) (Int32.toNatClampNeg x1)) hO
/-! GrainInn.House.keepsOf(I)I -/
noncomputable def H_keepsOf_j18 (x0 : Nat) (s0 : Int32) (h : Hp) : Option Int32 := some s0
noncomputable def H_keepsOf (h : Hp) (x0 : Nat) (x1 : Int32) : Option Int32 := if kd x0 = 1 then ((H_hasTable h x0 x1).bind fun r1 => if r1 = 0 then ((H_keepsOf_j18 x0 (0 : Int32) h)) else (if kd (x0 + 2) = 20 ∧ inb x1 (ln (x0 + 2)) then ((H_keepsOf_j18 x0 (h.1 (x0 + 2) (Int32.toNatClampNeg x1)) h)) else none)) else none
set_option maxRecDepth 100000 in
set_option maxHeartbeats 4000000 in
theorem c_H_keepsOf {E : En} {d : Nat} (h : Hp) (x0 : Nat) (x1 : Int32) {P : Int32 → Prop} (hO : Okk (H_keepsOf h x0 x1) P) : Cn E (d + 2) z_H_keepsOf [.ref x0, .int x1] h (RIp h P) := by
  refine cn_of (on := 1) (d := d + 1) ⟨rfl, by decide +kernel, Nat.le_of_ble_eq_true rfl⟩ (fun G hG => ?_)
  unfold H_keepsOf at hO
  show G 0 [(0, .ref x0), (1, .int x1)] [] h
  obtain ⟨g0, hO⟩ := ok_if hO
  have j18 : ∀ (s0 : Int32), Okk (H_keepsOf_j18 x0 s0 h) P → G 18 [] [.int s0] h := by
    intro s0 hO
    unfold H_keepsOf_j18 at hO
    exact eI hG 18 (by decide +kernel) rfl ⟨s0, rfl, rfl, ok_some (Q := P) hO⟩
  refine rb hG 5 0 2 [.aload 0, .iload 1] [] [] [(0, .ref x0), (1, .int x1)] [.int x1, .ref x0] h [] (by decide +kernel) rfl trivial ?_
  refine rv hG z_H_hasTable 54 1 2 x0 [.int x1] [] (by decide +kernel) mk_H_hasTable lk_1_54 (rcv_H g0) rfl ⟨rfl, Nat.le_of_ble_eq_true rfl⟩ (c_H_hasTable (d := d) h x0 x1 (ok_bind hO)) ?_
  rintro _ _ ⟨r1, rfl, rfl, hO⟩
  refine ri hG .eq (12) 17 5 (by decide +kernel) (by decide) (fun c2 => ?_) (fun c2 => ?_)
  · have hO := ok_pos c2 hO
    refine rb hG 4 17 18 [.ldc_w 0] [0] [] [(0, .ref x0), (1, .int x1)] [.int (0 : Int32)] h [] (by decide +kernel) rfl trivial ?_
    refine rs hG [] [] rfl ?_
    exact j18 (0 : Int32) hO
  · have hO := ok_neg c2 hO
    obtain ⟨g3, hO⟩ := ok_if hO
    refine rb hG 8 8 18 [.aload 0, .invokeinterface 101 2, .iload 1, .iaload] [] [] [(0, .ref x0), (1, .int x1)] [.int (h.1 (x0 + 2) (Int32.toNatClampNeg x1))] h [kd x0 = 1, kd (x0 + 2) = 20 ∧ inb x1 (ln (x0 + 2))] (by decide +kernel) rfl ⟨g0, g3⟩ ?_
    refine rs hG [] [] rfl ?_
    exact j18 (h.1 (x0 + 2) (Int32.toNatClampNeg x1)) hO
/-! GrainInn.House.priceOf(I)I -/
noncomputable def H_priceOf_j18 (x0 : Nat) (s0 : Int32) (h : Hp) : Option Int32 := some s0
noncomputable def H_priceOf (h : Hp) (x0 : Nat) (x1 : Int32) : Option Int32 := if kd x0 = 1 then ((H_hasTable h x0 x1).bind fun r1 => if r1 = 0 then ((H_priceOf_j18 x0 (0 : Int32) h)) else (if kd (x0 + 3) = 20 ∧ inb x1 (ln (x0 + 3)) then ((H_priceOf_j18 x0 (h.1 (x0 + 3) (Int32.toNatClampNeg x1)) h)) else none)) else none
set_option maxRecDepth 100000 in
set_option maxHeartbeats 4000000 in
theorem c_H_priceOf {E : En} {d : Nat} (h : Hp) (x0 : Nat) (x1 : Int32) {P : Int32 → Prop} (hO : Okk (H_priceOf h x0 x1) P) : Cn E (d + 2) z_H_priceOf [.ref x0, .int x1] h (RIp h P) := by
  refine cn_of (on := 1) (d := d + 1) ⟨rfl, by decide +kernel, Nat.le_of_ble_eq_true rfl⟩ (fun G hG => ?_)
  unfold H_priceOf at hO
  show G 0 [(0, .ref x0), (1, .int x1)] [] h
  obtain ⟨g0, hO⟩ := ok_if hO
  have j18 : ∀ (s0 : Int32), Okk (H_priceOf_j18 x0 s0 h) P → G 18 [] [.int s0] h := by
    intro s0 hO
    unfold H_priceOf_j18 at hO
    exact eI hG 18 (by decide +kernel) rfl ⟨s0, rfl, rfl, ok_some (Q := P) hO⟩
  refine rb hG 5 0 2 [.aload 0, .iload 1] [] [] [(0, .ref x0), (1, .int x1)] [.int x1, .ref x0] h [] (by decide +kernel) rfl trivial ?_
  refine rv hG z_H_hasTable 54 1 2 x0 [.int x1] [] (by decide +kernel) mk_H_hasTable lk_1_54 (rcv_H g0) rfl ⟨rfl, Nat.le_of_ble_eq_true rfl⟩ (c_H_hasTable (d := d) h x0 x1 (ok_bind hO)) ?_
  rintro _ _ ⟨r1, rfl, rfl, hO⟩
  refine ri hG .eq (12) 17 5 (by decide +kernel) (by decide) (fun c2 => ?_) (fun c2 => ?_)
  · have hO := ok_pos c2 hO
    refine rb hG 4 17 18 [.ldc_w 0] [0] [] [(0, .ref x0), (1, .int x1)] [.int (0 : Int32)] h [] (by decide +kernel) rfl trivial ?_
    refine rs hG [] [] rfl ?_
    exact j18 (0 : Int32) hO
  · have hO := ok_neg c2 hO
    obtain ⟨g3, hO⟩ := ok_if hO
    refine rb hG 8 8 18 [.aload 0, .invokeinterface 102 3, .iload 1, .iaload] [] [] [(0, .ref x0), (1, .int x1)] [.int (h.1 (x0 + 3) (Int32.toNatClampNeg x1))] h [kd x0 = 1, kd (x0 + 3) = 20 ∧ inb x1 (ln (x0 + 3))] (by decide +kernel) rfl ⟨g0, g3⟩ ?_
    refine rs hG [] [] rfl ?_
    exact j18 (h.1 (x0 + 3) (Int32.toNatClampNeg x1)) hO
/-! GrainInn.House.hasGuest(I)Z -/
noncomputable def H_hasGuest_j17 (x0 : Nat) (s0 : Int32) (h : Hp) : Option Int32 := if s0 = 0 ∨ s0 = 1 then (some s0) else none
noncomputable def H_hasGuest_j16 (x0 : Nat) (h : Hp) : Option Int32 := (H_hasGuest_j17 x0 (0 : Int32) h)
noncomputable def H_hasGuest (h : Hp) (x0 : Nat) (x1 : Int32) : Option Int32 := if kd x0 = 1 then (if x1 < 0 then ((H_hasGuest_j16 x0 h)) else (if (h.1 x0 6) ≤ x1 then ((H_hasGuest_j16 x0 h)) else ((H_hasGuest_j17 x0 (1 : Int32) h)))) else none
set_option maxRecDepth 100000 in
set_option maxHeartbeats 4000000 in
theorem c_H_hasGuest {E : En} {d : Nat} (h : Hp) (x0 : Nat) (x1 : Int32) {P : Int32 → Prop} (hO : Okk (H_hasGuest h x0 x1) P) : Cn E (d + 1) z_H_hasGuest [.ref x0, .int x1] h (RIp h P) := by
  refine cn_of (on := 1) (d := d + 0) ⟨rfl, by decide +kernel, Nat.le_of_ble_eq_true rfl⟩ (fun G hG => ?_)
  unfold H_hasGuest at hO
  show G 0 [(0, .ref x0), (1, .int x1)] [] h
  obtain ⟨g0, hO⟩ := ok_if hO
  have j17 : ∀ (s0 : Int32), Okk (H_hasGuest_j17 x0 s0 h) P → G 17 [] [.int s0] h := by
    intro s0 hO
    unfold H_hasGuest_j17 at hO
    obtain ⟨g1, hO⟩ := ok_if hO
    exact eZ hG 17 (by decide +kernel) rfl g1 ⟨s0, rfl, rfl, ok_some (Q := P) hO⟩
  have j16 : Okk (H_hasGuest_j16 x0 h) P → G 16 [] [] h := by
    intro hO
    unfold H_hasGuest_j16 at hO
    refine rb hG 4 16 17 [.ldc_w 0] [0] [] [] [.int (0 : Int32)] h [] (by decide +kernel) rfl trivial ?_
    exact j17 (0 : Int32) hO
  refine rb hG 4 0 1 [.iload 1] [] [] [(0, .ref x0), (1, .int x1)] [.int x1] h [] (by decide +kernel) rfl trivial ?_
  refine ri hG .lt (15) 16 1 (by decide +kernel) (by decide) (fun c2 => ?_) (fun c2 => ?_)
  · have hO := ok_pos c2 hO
    refine rs hG [] [] rfl ?_
    exact j16 hO
  · have hO := ok_neg c2 hO
    refine rb hG 6 4 9 [.iload 1, .aload 0, .getfield 106] [] [] [(0, .ref x0), (1, .int x1)] [.int (h.1 x0 6), .int x1] h [kd x0 = 1] (by decide +kernel) rfl g0 ?_
    refine rj hG .ge (7) 16 9 (by decide +kernel) (by decide) (fun c3 => ?_) (fun c3 => ?_)
    · have hO := ok_pos c3 hO
      refine rs hG [] [] rfl ?_
      exact j16 hO
    · have hO := ok_neg c3 hO
      refine rb hG 5 12 17 [.ldc_w 0] [1] [] [(0, .ref x0), (1, .int x1)] [.int (1 : Int32)] h [] (by decide +kernel) rfl trivial ?_
      refine rs hG [] [] rfl ?_
      exact j17 (1 : Int32) hO
/-! GrainInn.House.quarrelsOf(I)I -/
noncomputable def H_quarrelsOf_j18 (x0 : Nat) (s0 : Int32) (h : Hp) : Option Int32 := some s0
noncomputable def H_quarrelsOf (h : Hp) (x0 : Nat) (x1 : Int32) : Option Int32 := if kd x0 = 1 then ((H_hasGuest h x0 x1).bind fun r1 => if r1 = 0 then ((H_quarrelsOf_j18 x0 (0 : Int32) h)) else (if kd (x0 + 4) = 20 ∧ inb x1 (ln (x0 + 4)) then ((H_quarrelsOf_j18 x0 (h.1 (x0 + 4) (Int32.toNatClampNeg x1)) h)) else none)) else none
set_option maxRecDepth 100000 in
set_option maxHeartbeats 4000000 in
theorem c_H_quarrelsOf {E : En} {d : Nat} (h : Hp) (x0 : Nat) (x1 : Int32) {P : Int32 → Prop} (hO : Okk (H_quarrelsOf h x0 x1) P) : Cn E (d + 2) z_H_quarrelsOf [.ref x0, .int x1] h (RIp h P) := by
  refine cn_of (on := 1) (d := d + 1) ⟨rfl, by decide +kernel, Nat.le_of_ble_eq_true rfl⟩ (fun G hG => ?_)
  unfold H_quarrelsOf at hO
  show G 0 [(0, .ref x0), (1, .int x1)] [] h
  obtain ⟨g0, hO⟩ := ok_if hO
  have j18 : ∀ (s0 : Int32), Okk (H_quarrelsOf_j18 x0 s0 h) P → G 18 [] [.int s0] h := by
    intro s0 hO
    unfold H_quarrelsOf_j18 at hO
    exact eI hG 18 (by decide +kernel) rfl ⟨s0, rfl, rfl, ok_some (Q := P) hO⟩
  refine rb hG 5 0 2 [.aload 0, .iload 1] [] [] [(0, .ref x0), (1, .int x1)] [.int x1, .ref x0] h [] (by decide +kernel) rfl trivial ?_
  refine rv hG z_H_hasGuest 50 1 2 x0 [.int x1] [] (by decide +kernel) mk_H_hasGuest lk_1_50 (rcv_H g0) rfl ⟨rfl, Nat.le_of_ble_eq_true rfl⟩ (c_H_hasGuest (d := d) h x0 x1 (ok_bind hO)) ?_
  rintro _ _ ⟨r1, rfl, rfl, hO⟩
  refine ri hG .eq (12) 17 5 (by decide +kernel) (by decide) (fun c2 => ?_) (fun c2 => ?_)
  · have hO := ok_pos c2 hO
    refine rb hG 4 17 18 [.ldc_w 0] [0] [] [(0, .ref x0), (1, .int x1)] [.int (0 : Int32)] h [] (by decide +kernel) rfl trivial ?_
    refine rs hG [] [] rfl ?_
    exact j18 (0 : Int32) hO
  · have hO := ok_neg c2 hO
    obtain ⟨g3, hO⟩ := ok_if hO
    refine rb hG 8 8 18 [.aload 0, .invokeinterface 103 4, .iload 1, .iaload] [] [] [(0, .ref x0), (1, .int x1)] [.int (h.1 (x0 + 4) (Int32.toNatClampNeg x1))] h [kd x0 = 1, kd (x0 + 4) = 20 ∧ inb x1 (ln (x0 + 4))] (by decide +kernel) rfl ⟨g0, g3⟩ ?_
    refine rs hG [] [] rfl ?_
    exact j18 (h.1 (x0 + 4) (Int32.toNatClampNeg x1)) hO
/-! GrainInn.House.lovesOf(I)I -/
noncomputable def H_lovesOf_j18 (x0 : Nat) (s0 : Int32) (h : Hp) : Option Int32 := some s0
noncomputable def H_lovesOf (h : Hp) (x0 : Nat) (x1 : Int32) : Option Int32 := if kd x0 = 1 then ((H_hasGuest h x0 x1).bind fun r1 => if r1 = 0 then ((H_lovesOf_j18 x0 (0 : Int32) h)) else (if kd (x0 + 5) = 20 ∧ inb x1 (ln (x0 + 5)) then ((H_lovesOf_j18 x0 (h.1 (x0 + 5) (Int32.toNatClampNeg x1)) h)) else none)) else none
set_option maxRecDepth 100000 in
set_option maxHeartbeats 4000000 in
theorem c_H_lovesOf {E : En} {d : Nat} (h : Hp) (x0 : Nat) (x1 : Int32) {P : Int32 → Prop} (hO : Okk (H_lovesOf h x0 x1) P) : Cn E (d + 2) z_H_lovesOf [.ref x0, .int x1] h (RIp h P) := by
  refine cn_of (on := 1) (d := d + 1) ⟨rfl, by decide +kernel, Nat.le_of_ble_eq_true rfl⟩ (fun G hG => ?_)
  unfold H_lovesOf at hO
  show G 0 [(0, .ref x0), (1, .int x1)] [] h
  obtain ⟨g0, hO⟩ := ok_if hO
  have j18 : ∀ (s0 : Int32), Okk (H_lovesOf_j18 x0 s0 h) P → G 18 [] [.int s0] h := by
    intro s0 hO
    unfold H_lovesOf_j18 at hO
    exact eI hG 18 (by decide +kernel) rfl ⟨s0, rfl, rfl, ok_some (Q := P) hO⟩
  refine rb hG 5 0 2 [.aload 0, .iload 1] [] [] [(0, .ref x0), (1, .int x1)] [.int x1, .ref x0] h [] (by decide +kernel) rfl trivial ?_
  refine rv hG z_H_hasGuest 50 1 2 x0 [.int x1] [] (by decide +kernel) mk_H_hasGuest lk_1_50 (rcv_H g0) rfl ⟨rfl, Nat.le_of_ble_eq_true rfl⟩ (c_H_hasGuest (d := d) h x0 x1 (ok_bind hO)) ?_
  rintro _ _ ⟨r1, rfl, rfl, hO⟩
  refine ri hG .eq (12) 17 5 (by decide +kernel) (by decide) (fun c2 => ?_) (fun c2 => ?_)
  · have hO := ok_pos c2 hO
    refine rb hG 4 17 18 [.ldc_w 0] [0] [] [(0, .ref x0), (1, .int x1)] [.int (0 : Int32)] h [] (by decide +kernel) rfl trivial ?_
    refine rs hG [] [] rfl ?_
    exact j18 (0 : Int32) hO
  · have hO := ok_neg c2 hO
    obtain ⟨g3, hO⟩ := ok_if hO
    refine rb hG 8 8 18 [.aload 0, .invokeinterface 104 5, .iload 1, .iaload] [] [] [(0, .ref x0), (1, .int x1)] [.int (h.1 (x0 + 5) (Int32.toNatClampNeg x1))] h [kd x0 = 1, kd (x0 + 5) = 20 ∧ inb x1 (ln (x0 + 5))] (by decide +kernel) rfl ⟨g0, g3⟩ ?_
    refine rs hG [] [] rfl ?_
    exact j18 (h.1 (x0 + 5) (Int32.toNatClampNeg x1)) hO
/-! GrainInn.inn(II)I -/
noncomputable def K_inn_j147 (s0 : Int32) (h : Hp) : Option Int32 := some s0
noncomputable def K_inn (h : Hp) (x1 : Int32) (x2 : Int32) : Option Int32 := (D_innAt h 2 x1).bind fun r1 => if r1 = 0 then (some (-1 : Int32)) else (if x2 = 0 then (if kd r1 = 1 then (some (h.1 r1 5)) else none) else (if x2 = (1 : Int32) then (if kd r1 = 1 then (some (h.1 r1 6)) else none) else (if kd r1 = 1 then ((K_isOf x2 (10 : Int32) (h.1 r1 5)).bind fun r8 => if r8 = 0 then ((K_isOf x2 (20 : Int32) (h.1 r1 5)).bind fun r10 => if r10 = 0 then ((K_isOf x2 (30 : Int32) (h.1 r1 5)).bind fun r12 => if r12 = 0 then ((K_isOf x2 (40 : Int32) (h.1 r1 6)).bind fun r14 => if r14 = 0 then ((K_isOf x2 (50 : Int32) (h.1 r1 6)).bind fun r16 => if r16 = 0 then ((K_inn_j147 (-1 : Int32) h)) else ((H_lovesOf h r1 (x2 - (50 : Int32))).bind fun r18 => (K_inn_j147 r18 h))) else ((H_quarrelsOf h r1 (x2 - (40 : Int32))).bind fun r19 => some r19)) else ((H_priceOf h r1 (x2 - (30 : Int32))).bind fun r20 => some r20)) else ((H_keepsOf h r1 (x2 - (20 : Int32))).bind fun r21 => some r21)) else ((H_seatsOf h r1 (x2 - (10 : Int32))).bind fun r22 => some r22)) else none)))
set_option maxRecDepth 100000 in
set_option maxHeartbeats 4000000 in
theorem c_K_inn {E : En} {d : Nat} (h : Hp) (x1 : Int32) (x2 : Int32) {P : Int32 → Prop} (hO : Okk (K_inn h x1 x2) P) : Cn E (d + 5) z_K_inn [.ref 1, .int x1, .int x2] h (RIp h P) := by
  refine cn_of (on := 11) (d := d + 4) ⟨rfl, by decide +kernel, Nat.le_of_ble_eq_true rfl⟩ (fun G hG => ?_)
  unfold K_inn at hO
  show G 0 [(0, .ref 1), (1, .int x1), (2, .int x2)] [] h
  have j147 : ∀ (s0 : Int32), Okk (K_inn_j147 s0 h) P → G 147 [] [.int s0] h := by
    intro s0 hO
    unfold K_inn_j147 at hO
    exact eI hG 147 (by decide +kernel) rfl ⟨s0, rfl, rfl, ok_some (Q := P) hO⟩
  refine rb hG 6 0 5 [.aload 0, .invokeinterface 1100 1, .iload 1] [] [] [(0, .ref 1), (1, .int x1), (2, .int x2)] [.int x1, .ref 2] h [kd 1 = 11] (by decide +kernel) rfl kd_1 ?_
  refine rv hG z_D_innAt 107 1 5 2 [.int x1] [] (by decide +kernel) mk_D_innAt lk_11_107 rcv_2 rfl ⟨rfl, Nat.le_of_ble_eq_true rfl⟩ (c_D_innAt (d := d) h 2 x1 (ok_bind hO)) ?_
  rintro _ _ ⟨r1, rfl, rfl, hO⟩
  refine rb hG 5 8 10 [.astore 3, .aload 3] [] [] [(3, .ref r1), (0, .ref 1), (1, .int x1), (2, .int x2)] [.ref r1] h [] (by decide +kernel) rfl trivial ?_
  refine rnn hG (5) 15 10 (by decide +kernel) (by decide) (fun c2 => ?_) (fun c2 => ?_)
  · have hO := ok_pos c2 hO
    refine rb hG 4 13 14 [.ldc_w 0] [-1] [] [(3, .ref r1), (0, .ref 1), (1, .int x1), (2, .int x2)] [.int (-1 : Int32)] h [] (by decide +kernel) rfl trivial ?_
    exact eI hG 14 (by decide +kernel) rfl ⟨(-1 : Int32), rfl, rfl, ok_some (Q := P) hO⟩
  · have hO := ok_neg c2 hO
    refine rb hG 4 15 16 [.iload 2] [] [] [(3, .ref r1), (0, .ref 1), (1, .int x1), (2, .int x2)] [.int x2] h [] (by decide +kernel) rfl trivial ?_
    refine riN hG (8) 24 16 (by decide +kernel) (by decide) (fun c3 => ?_) (fun c3 => ?_)
    · have hO := ok_pos c3 hO
      obtain ⟨g4, hO⟩ := ok_if hO
      refine rb hG 5 19 23 [.aload 3, .getfield 105] [] [] [(3, .ref r1), (0, .ref 1), (1, .int x1), (2, .int x2)] [.int (h.1 r1 5)] h [kd r1 = 1] (by decide +kernel) rfl g4 ?_
      exact eI hG 23 (by decide +kernel) rfl ⟨(h.1 r1 5), rfl, rfl, ok_some (Q := P) hO⟩
    · have hO := ok_neg c3 hO
      refine rb hG 5 24 26 [.iload 2, .ldc_w 0] [1] [] [(3, .ref r1), (0, .ref 1), (1, .int x1), (2, .int x2)] [.int (1 : Int32), .int x2] h [] (by decide +kernel) rfl trivial ?_
      refine rjN hG (8) 34 26 (by decide +kernel) (by decide) (fun c5 => ?_) (fun c5 => ?_)
      · have hO := ok_pos c5 hO
        obtain ⟨g6, hO⟩ := ok_if hO
        refine rb hG 5 29 33 [.aload 3, .getfield 106] [] [] [(3, .ref r1), (0, .ref 1), (1, .int x1), (2, .int x2)] [.int (h.1 r1 6)] h [kd r1 = 1] (by decide +kernel) rfl g6 ?_
        exact eI hG 33 (by decide +kernel) rfl ⟨(h.1 r1 6), rfl, rfl, ok_some (Q := P) hO⟩
      · have hO := ok_neg c5 hO
        obtain ⟨g7, hO⟩ := ok_if hO
        refine rb hG 7 34 41 [.iload 2, .ldc_w 0, .aload 3, .getfield 105] [10] [] [(3, .ref r1), (0, .ref 1), (1, .int x1), (2, .int x2)] [.int (h.1 r1 5), .int (10 : Int32), .int x2] h [kd r1 = 1] (by decide +kernel) rfl g7 ?_
        refine rt hG z_K_isOf 119 3 41 [.int x2, .int (10 : Int32), .int (h.1 r1 5)] [] (by decide +kernel) mk_K_isOf lk_11_119 rfl ⟨rfl, Nat.le_of_ble_eq_true rfl⟩ (c_K_isOf (d := d + 3) h x2 (10 : Int32) (h.1 r1 5) (ok_bind hO)) ?_
        rintro _ _ ⟨r8, rfl, rfl, hO⟩
        refine ri hG .eq (12) 56 44 (by decide +kernel) (by decide) (fun c9 => ?_) (fun c9 => ?_)
        · have hO := ok_pos c9 hO
          refine rb hG 7 56 63 [.iload 2, .ldc_w 0, .aload 3, .getfield 105] [20] [] [(3, .ref r1), (0, .ref 1), (1, .int x1), (2, .int x2)] [.int (h.1 r1 5), .int (20 : Int32), .int x2] h [kd r1 = 1] (by decide +kernel) rfl g7 ?_
          refine rt hG z_K_isOf 119 3 63 [.int x2, .int (20 : Int32), .int (h.1 r1 5)] [] (by decide +kernel) mk_K_isOf lk_11_119 rfl ⟨rfl, Nat.le_of_ble_eq_true rfl⟩ (c_K_isOf (d := d + 3) h x2 (20 : Int32) (h.1 r1 5) (ok_bind hO)) ?_
          rintro _ _ ⟨r10, rfl, rfl, hO⟩
          refine ri hG .eq (12) 78 66 (by decide +kernel) (by decide) (fun c11 => ?_) (fun c11 => ?_)
          · have hO := ok_pos c11 hO
            refine rb hG 7 78 85 [.iload 2, .ldc_w 0, .aload 3, .getfield 105] [30] [] [(3, .ref r1), (0, .ref 1), (1, .int x1), (2, .int x2)] [.int (h.1 r1 5), .int (30 : Int32), .int x2] h [kd r1 = 1] (by decide +kernel) rfl g7 ?_
            refine rt hG z_K_isOf 119 3 85 [.int x2, .int (30 : Int32), .int (h.1 r1 5)] [] (by decide +kernel) mk_K_isOf lk_11_119 rfl ⟨rfl, Nat.le_of_ble_eq_true rfl⟩ (c_K_isOf (d := d + 3) h x2 (30 : Int32) (h.1 r1 5) (ok_bind hO)) ?_
            rintro _ _ ⟨r12, rfl, rfl, hO⟩
            refine ri hG .eq (12) 100 88 (by decide +kernel) (by decide) (fun c13 => ?_) (fun c13 => ?_)
            · have hO := ok_pos c13 hO
              refine rb hG 7 100 107 [.iload 2, .ldc_w 0, .aload 3, .getfield 106] [40] [] [(3, .ref r1), (0, .ref 1), (1, .int x1), (2, .int x2)] [.int (h.1 r1 6), .int (40 : Int32), .int x2] h [kd r1 = 1] (by decide +kernel) rfl g7 ?_
              refine rt hG z_K_isOf 119 3 107 [.int x2, .int (40 : Int32), .int (h.1 r1 6)] [] (by decide +kernel) mk_K_isOf lk_11_119 rfl ⟨rfl, Nat.le_of_ble_eq_true rfl⟩ (c_K_isOf (d := d + 3) h x2 (40 : Int32) (h.1 r1 6) (ok_bind hO)) ?_
              rintro _ _ ⟨r14, rfl, rfl, hO⟩
              refine ri hG .eq (12) 122 110 (by decide +kernel) (by decide) (fun c15 => ?_) (fun c15 => ?_)
              · have hO := ok_pos c15 hO
                refine rb hG 7 122 129 [.iload 2, .ldc_w 0, .aload 3, .getfield 106] [50] [] [(3, .ref r1), (0, .ref 1), (1, .int x1), (2, .int x2)] [.int (h.1 r1 6), .int (50 : Int32), .int x2] h [kd r1 = 1] (by decide +kernel) rfl g7 ?_
                refine rt hG z_K_isOf 119 3 129 [.int x2, .int (50 : Int32), .int (h.1 r1 6)] [] (by decide +kernel) mk_K_isOf lk_11_119 rfl ⟨rfl, Nat.le_of_ble_eq_true rfl⟩ (c_K_isOf (d := d + 3) h x2 (50 : Int32) (h.1 r1 6) (ok_bind hO)) ?_
                rintro _ _ ⟨r16, rfl, rfl, hO⟩
                refine ri hG .eq (14) 146 132 (by decide +kernel) (by decide) (fun c17 => ?_) (fun c17 => ?_)
                · have hO := ok_pos c17 hO
                  refine rb hG 4 146 147 [.ldc_w 0] [-1] [] [(3, .ref r1), (0, .ref 1), (1, .int x1), (2, .int x2)] [.int (-1 : Int32)] h [] (by decide +kernel) rfl trivial ?_
                  refine rs hG [] [] rfl ?_
                  exact j147 (-1 : Int32) hO
                · have hO := ok_neg c17 hO
                  refine rb hG 7 135 140 [.aload 3, .iload 2, .ldc_w 0, .isub] [50] [] [(3, .ref r1), (0, .ref 1), (1, .int x1), (2, .int x2)] [.int (x2 - (50 : Int32)), .ref r1] h [] (by decide +kernel) rfl trivial ?_
                  refine rv hG z_H_lovesOf 135 1 140 r1 [.int (x2 - (50 : Int32))] [] (by decide +kernel) mk_H_lovesOf lk_11_135 (rcv_H g7) rfl ⟨rfl, Nat.le_of_ble_eq_true rfl⟩ (c_H_lovesOf (d := d + 2) h r1 (x2 - (50 : Int32)) (ok_bind hO)) ?_
                  rintro _ _ ⟨r18, rfl, rfl, hO⟩
                  refine rb hG 4 143 147 [] [] [] [(3, .ref r1), (0, .ref 1), (1, .int x1), (2, .int x2)] [.int r18] h [] (by decide +kernel) rfl trivial ?_
                  refine rs hG [] [] rfl ?_
                  exact j147 r18 hO
              · have hO := ok_neg c15 hO
                refine rb hG 7 113 118 [.aload 3, .iload 2, .ldc_w 0, .isub] [40] [] [(3, .ref r1), (0, .ref 1), (1, .int x1), (2, .int x2)] [.int (x2 - (40 : Int32)), .ref r1] h [] (by decide +kernel) rfl trivial ?_
                refine rv hG z_H_quarrelsOf 132 1 118 r1 [.int (x2 - (40 : Int32))] [] (by decide +kernel) mk_H_quarrelsOf lk_11_132 (rcv_H g7) rfl ⟨rfl, Nat.le_of_ble_eq_true rfl⟩ (c_H_quarrelsOf (d := d + 2) h r1 (x2 - (40 : Int32)) (ok_bind hO)) ?_
                rintro _ _ ⟨r19, rfl, rfl, hO⟩
                exact eI hG 121 (by decide +kernel) rfl ⟨r19, rfl, rfl, ok_some (Q := P) hO⟩
            · have hO := ok_neg c13 hO
              refine rb hG 7 91 96 [.aload 3, .iload 2, .ldc_w 0, .isub] [30] [] [(3, .ref r1), (0, .ref 1), (1, .int x1), (2, .int x2)] [.int (x2 - (30 : Int32)), .ref r1] h [] (by decide +kernel) rfl trivial ?_
              refine rv hG z_H_priceOf 129 1 96 r1 [.int (x2 - (30 : Int32))] [] (by decide +kernel) mk_H_priceOf lk_11_129 (rcv_H g7) rfl ⟨rfl, Nat.le_of_ble_eq_true rfl⟩ (c_H_priceOf (d := d + 2) h r1 (x2 - (30 : Int32)) (ok_bind hO)) ?_
              rintro _ _ ⟨r20, rfl, rfl, hO⟩
              exact eI hG 99 (by decide +kernel) rfl ⟨r20, rfl, rfl, ok_some (Q := P) hO⟩
          · have hO := ok_neg c11 hO
            refine rb hG 7 69 74 [.aload 3, .iload 2, .ldc_w 0, .isub] [20] [] [(3, .ref r1), (0, .ref 1), (1, .int x1), (2, .int x2)] [.int (x2 - (20 : Int32)), .ref r1] h [] (by decide +kernel) rfl trivial ?_
            refine rv hG z_H_keepsOf 126 1 74 r1 [.int (x2 - (20 : Int32))] [] (by decide +kernel) mk_H_keepsOf lk_11_126 (rcv_H g7) rfl ⟨rfl, Nat.le_of_ble_eq_true rfl⟩ (c_H_keepsOf (d := d + 2) h r1 (x2 - (20 : Int32)) (ok_bind hO)) ?_
            rintro _ _ ⟨r21, rfl, rfl, hO⟩
            exact eI hG 77 (by decide +kernel) rfl ⟨r21, rfl, rfl, ok_some (Q := P) hO⟩
        · have hO := ok_neg c9 hO
          refine rb hG 7 47 52 [.aload 3, .iload 2, .ldc_w 0, .isub] [10] [] [(3, .ref r1), (0, .ref 1), (1, .int x1), (2, .int x2)] [.int (x2 - (10 : Int32)), .ref r1] h [] (by decide +kernel) rfl trivial ?_
          refine rv hG z_H_seatsOf 123 1 52 r1 [.int (x2 - (10 : Int32))] [] (by decide +kernel) mk_H_seatsOf lk_11_123 (rcv_H g7) rfl ⟨rfl, Nat.le_of_ble_eq_true rfl⟩ (c_H_seatsOf (d := d + 2) h r1 (x2 - (10 : Int32)) (ok_bind hO)) ?_
          rintro _ _ ⟨r22, rfl, rfl, hO⟩
          exact eI hG 55 (by decide +kernel) rfl ⟨r22, rfl, rfl, ok_some (Q := P) hO⟩
/-! GrainInnModel.of(I)I -/
noncomputable def M_of (h : Hp) (x1 : Int32) : Option Int32 := if inb (((33 : Int32) * (h.1 251 23)) + x1) (ln 257) then (some (h.1 257 (Int32.toNatClampNeg (((33 : Int32) * (h.1 251 23)) + x1)))) else none
set_option maxRecDepth 100000 in
set_option maxHeartbeats 4000000 in
theorem c_M_of {E : En} {d : Nat} (h : Hp) (x1 : Int32) {P : Int32 → Prop} (hO : Okk (M_of h x1) P) : Cn E (d + 1) z_M_of [.ref 251, .int x1] h (RIp h P) := by
  refine cn_of (on := 12) (d := d + 0) ⟨rfl, by decide +kernel, Nat.le_of_ble_eq_true rfl⟩ (fun G hG => ?_)
  unfold M_of at hO
  show G 0 [(0, .ref 251), (1, .int x1)] [] h
  obtain ⟨g1, hO⟩ := ok_if hO
  refine rb hG 12 0 14 [.aload 0, .invokeinterface 1206 6, .ldc_w 0, .aload 0, .getfield 1223, .imul, .iload 1, .iadd, .iaload] [33] [] [(0, .ref 251), (1, .int x1)] [.int (h.1 257 (Int32.toNatClampNeg (((33 : Int32) * (h.1 251 23)) + x1)))] h [kd 251 = 12, kd 251 = 12, kd 257 = 20 ∧ inb (((33 : Int32) * (h.1 251 23)) + x1) (ln 257)] (by decide +kernel) rfl ⟨kd_251, kd_251, ⟨kd_257, g1⟩⟩ ?_
  exact eI hG 14 (by decide +kernel) rfl ⟨(h.1 257 (Int32.toNatClampNeg (((33 : Int32) * (h.1 251 23)) + x1))), rfl, rfl, ok_some (Q := P) hO⟩
/-! GrainInnModel.hand(I)Z -/
noncomputable def M_hand (h : Hp) (x1 : Int32) : Option (Int32 × Hp) := (M_is h (0 : Int32) x1).bind fun r1 => if r1 = 0 then (some ((0 : Int32), h)) else (bnd (wr h 251 23 x1) fun h3 => (M_of h3 (0 : Int32)).bind fun r4 => bnd (wr h3 251 24 r4) fun h5 => (M_of h5 (1 : Int32)).bind fun r6 => bnd (wr h5 251 25 r6) fun h7 => some ((1 : Int32), h7))
set_option maxRecDepth 100000 in
set_option maxHeartbeats 4000000 in
theorem c_M_hand {E : En} {d : Nat} (h : Hp) (x1 : Int32) {P : (Int32 × Hp) → Prop} (hO : Okk (M_hand h x1) P) : Cn E (d + 3) z_M_hand [.ref 251, .int x1] h (RI P) := by
  refine cn_of (on := 12) (d := d + 2) ⟨rfl, by decide +kernel, Nat.le_of_ble_eq_true rfl⟩ (fun G hG => ?_)
  unfold M_hand at hO
  show G 0 [(0, .ref 251), (1, .int x1)] [] h
  refine rb hG 6 0 3 [.aload 0, .ldc_w 0, .iload 1] [0] [] [(0, .ref 251), (1, .int x1)] [.int x1, .int (0 : Int32), .ref 251] h [] (by decide +kernel) rfl trivial ?_
  refine rv hG z_M_is 258 2 3 251 [.int (0 : Int32), .int x1] [] (by decide +kernel) mk_M_is lk_12_258 rcv_251 rfl ⟨rfl, Nat.le_of_ble_eq_true rfl⟩ (c_M_is (d := d) h (0 : Int32) x1 (ok_bind hO)) ?_
  rintro _ _ ⟨r1, rfl, rfl, hO⟩
  refine riN hG (5) 11 6 (by decide +kernel) (by decide) (fun c2 => ?_) (fun c2 => ?_)
  · have hO := ok_pos c2 hO
    refine rb hG 4 9 10 [.ldc_w 0] [0] [] [(0, .ref 251), (1, .int x1)] [.int (0 : Int32)] h [] (by decide +kernel) rfl trivial ?_
    exact eZ hG 10 (by decide +kernel) rfl (Or.inl rfl) ⟨(0 : Int32), rfl, ok_some (Q := P) hO⟩
  · have hO := ok_neg c2 hO
    refine rbx hG 6 11 16 [.aload 0, .iload 1, .putfield 1223] [] [] (wr h 251 23 x1) (fun h3 => [(0, .ref 251), (1, .int x1)]) (fun h3 => []) (fun h3 => h3) [kd 251 = 12] (by decide +kernel) rfl kd_251 hO (fun h3 hO => ?_)
    refine rb hG 6 16 19 [.aload 0, .aload 0, .ldc_w 0] [0] [] [(0, .ref 251), (1, .int x1)] [.int (0 : Int32), .ref 251, .ref 251] h3 [] (by decide +kernel) rfl trivial ?_
    refine rv hG z_M_of 270 1 19 251 [.int (0 : Int32)] [.ref 251] (by decide +kernel) mk_M_of lk_12_270 rcv_251 rfl ⟨rfl, Nat.le_of_ble_eq_true rfl⟩ (c_M_of (d := d + 1) h3 (0 : Int32) (ok_bind hO)) ?_
    rintro _ _ ⟨r4, rfl, rfl, hO⟩
    refine rbx hG 4 22 25 [.putfield 1224] [] [] (wr h3 251 24 r4) (fun h5 => [(0, .ref 251), (1, .int x1)]) (fun h5 => []) (fun h5 => h5) [kd 251 = 12] (by decide +kernel) rfl kd_251 hO (fun h5 hO => ?_)
    refine rb hG 6 25 28 [.aload 0, .aload 0, .ldc_w 0] [1] [] [(0, .ref 251), (1, .int x1)] [.int (1 : Int32), .ref 251, .ref 251] h5 [] (by decide +kernel) rfl trivial ?_
    refine rv hG z_M_of 270 1 28 251 [.int (1 : Int32)] [.ref 251] (by decide +kernel) mk_M_of lk_12_270 rcv_251 rfl ⟨rfl, Nat.le_of_ble_eq_true rfl⟩ (c_M_of (d := d + 1) h5 (1 : Int32) (ok_bind hO)) ?_
    rintro _ _ ⟨r6, rfl, rfl, hO⟩
    refine rbx hG 4 31 34 [.putfield 1225] [] [] (wr h5 251 25 r6) (fun h7 => [(0, .ref 251), (1, .int x1)]) (fun h7 => []) (fun h7 => h7) [kd 251 = 12] (by decide +kernel) rfl kd_251 hO (fun h7 hO => ?_)
    refine rb hG 4 34 35 [.ldc_w 0] [1] [] [(0, .ref 251), (1, .int x1)] [.int (1 : Int32)] h7 [] (by decide +kernel) rfl trivial ?_
    exact eZ hG 35 (by decide +kernel) rfl (Or.inr rfl) ⟨(1 : Int32), rfl, ok_some (Q := P) hO⟩
/-! GrainInnModel.ofTable(II)I -/
noncomputable def M_ofTable (h : Hp) (x1 : Int32) (x2 : Int32) : Option Int32 := (M_of h (((2 : Int32) + ((3 : Int32) * x1)) + x2)).bind fun r1 => some r1
set_option maxRecDepth 100000 in
set_option maxHeartbeats 4000000 in
theorem c_M_ofTable {E : En} {d : Nat} (h : Hp) (x1 : Int32) (x2 : Int32) {P : Int32 → Prop} (hO : Okk (M_ofTable h x1 x2) P) : Cn E (d + 2) z_M_ofTable [.ref 251, .int x1, .int x2] h (RIp h P) := by
  refine cn_of (on := 12) (d := d + 1) ⟨rfl, by decide +kernel, Nat.le_of_ble_eq_true rfl⟩ (fun G hG => ?_)
  unfold M_ofTable at hO
  show G 0 [(0, .ref 251), (1, .int x1), (2, .int x2)] [] h
  refine rb hG 11 0 8 [.aload 0, .ldc_w 0, .ldc_w 1, .iload 1, .imul, .iadd, .iload 2, .iadd] [2, 3] [] [(0, .ref 251), (1, .int x1), (2, .int x2)] [.int (((2 : Int32) + ((3 : Int32) * x1)) + x2), .ref 251] h [] (by decide +kernel) rfl trivial ?_
  refine rv hG z_M_of 270 1 8 251 [.int (((2 : Int32) + ((3 : Int32) * x1)) + x2)] [] (by decide +kernel) mk_M_of lk_12_270 rcv_251 rfl ⟨rfl, Nat.le_of_ble_eq_true rfl⟩ (c_M_of (d := d) h (((2 : Int32) + ((3 : Int32) * x1)) + x2) (ok_bind hO)) ?_
  rintro _ _ ⟨r1, rfl, rfl, hO⟩
  exact eI hG 11 (by decide +kernel) rfl ⟨r1, rfl, rfl, ok_some (Q := P) hO⟩
/-! GrainInnModel.inn(II)I -/
noncomputable def M_inn_j63 (x2 : Int32) (h : Hp) : Option (Int32 × Hp) := (M_ofTable h (rm x2 (10 : Int32)) ((x2 / (10 : Int32)) - (1 : Int32))).bind fun r1 => some (r1, h)
noncomputable def M_inn_j154 (s0 : Int32) (h : Hp) : Option (Int32 × Hp) := some (s0, h)
noncomputable def M_inn (h : Hp) (x1 : Int32) (x2 : Int32) : Option (Int32 × Hp) := bnd (wr h 251 0 (0 : Int32)) fun h2 => (M_hand h2 x1).bind fun (r3, h4) => if r3 = 0 then (some ((-1 : Int32), h4)) else ((M_in x2 (10 : Int32) ((9 : Int32) + (h4.1 251 24))).bind fun r6 => if r6 = 0 then ((M_in x2 (20 : Int32) ((19 : Int32) + (h4.1 251 24))).bind fun r8 => if r8 = 0 then ((M_in x2 (30 : Int32) ((29 : Int32) + (h4.1 251 24))).bind fun r10 => if r10 = 0 then ((M_in x2 (40 : Int32) ((39 : Int32) + (h4.1 251 25))).bind fun r12 => if r12 = 0 then ((M_in x2 (0 : Int32) (1 : Int32)).bind fun r14 => if r14 = 0 then ((M_in x2 (50 : Int32) ((49 : Int32) + (h4.1 251 25))).bind fun r16 => if r16 = 0 then ((M_inn_j154 (-1 : Int32) h4)) else ((M_of h4 (((25 : Int32) + x2) - (50 : Int32))).bind fun r18 => (M_inn_j154 r18 h4))) else ((M_of h4 x2).bind fun r19 => (M_inn_j154 r19 h4))) else ((M_of h4 (((17 : Int32) + x2) - (40 : Int32))).bind fun r20 => some (r20, h4))) else ((M_inn_j63 x2 h4))) else ((M_inn_j63 x2 h4))) else ((M_inn_j63 x2 h4)))
set_option maxRecDepth 100000 in
set_option maxHeartbeats 4000000 in
theorem c_M_inn {E : En} {d : Nat} (h : Hp) (x1 : Int32) (x2 : Int32) {P : (Int32 × Hp) → Prop} (hO : Okk (M_inn h x1 x2) P) : Cn E (d + 4) z_M_inn [.ref 251, .int x1, .int x2] h (RI P) := by
  refine cn_of (on := 12) (d := d + 3) ⟨rfl, by decide +kernel, Nat.le_of_ble_eq_true rfl⟩ (fun G hG => ?_)
  unfold M_inn at hO
  show G 0 [(0, .ref 251), (1, .int x1), (2, .int x2)] [] h
  have j63 : ∀ (h : Hp), Okk (M_inn_j63 x2 h) P → G 63 [(0, .ref 251), (2, .int x2)] [] h := by
    intro h hO
    unfold M_inn_j63 at hO
    refine rb hG 12 63 74 [.aload 0, .iload 2, .ldc_w 0, .irem, .iload 2, .ldc_w 0, .idiv, .ldc_w 1, .isub] [10, 1] [] [(0, .ref 251), (2, .int x2)] [.int ((x2 / (10 : Int32)) - (1 : Int32)), .int (rm x2 (10 : Int32)), .ref 251] h [¬ (10 : Int32) = 0, ¬ (10 : Int32) = 0] (by decide +kernel) rfl ⟨(show ¬ (10 : Int32) = 0 by decide), (show ¬ (10 : Int32) = 0 by decide)⟩ ?_
    refine rv hG z_M_ofTable 283 2 74 251 [.int (rm x2 (10 : Int32)), .int ((x2 / (10 : Int32)) - (1 : Int32))] [] (by decide +kernel) mk_M_ofTable lk_12_283 rcv_251 rfl ⟨rfl, Nat.le_of_ble_eq_true rfl⟩ (c_M_ofTable (d := d + 1) h (rm x2 (10 : Int32)) ((x2 / (10 : Int32)) - (1 : Int32)) (ok_bind hO)) ?_
    rintro _ _ ⟨r1, rfl, rfl, hO⟩
    exact eI hG 77 (by decide +kernel) rfl ⟨r1, rfl, ok_some (Q := P) hO⟩
  have j154 : ∀ (s0 : Int32) (h : Hp), Okk (M_inn_j154 s0 h) P → G 154 [] [.int s0] h := by
    intro s0 h hO
    unfold M_inn_j154 at hO
    exact eI hG 154 (by decide +kernel) rfl ⟨s0, rfl, ok_some (Q := P) hO⟩
  refine rbx hG 6 0 5 [.aload 0, .ldc_w 0, .putfield 1200] [0] [] (wr h 251 0 (0 : Int32)) (fun h2 => [(0, .ref 251), (1, .int x1), (2, .int x2)]) (fun h2 => []) (fun h2 => h2) [kd 251 = 12] (by decide +kernel) rfl kd_251 hO (fun h2 hO => ?_)
  refine rb hG 5 5 7 [.aload 0, .iload 1] [] [] [(0, .ref 251), (1, .int x1), (2, .int x2)] [.int x1, .ref 251] h2 [] (by decide +kernel) rfl trivial ?_
  refine rv hG z_M_hand 280 1 7 251 [.int x1] [] (by decide +kernel) mk_M_hand lk_12_280 rcv_251 rfl ⟨rfl, Nat.le_of_ble_eq_true rfl⟩ (c_M_hand (d := d) h2 x1 (ok_bind hO)) ?_
  rintro _ h4 ⟨r3, rfl, hO⟩
  refine riN hG (5) 15 10 (by decide +kernel) (by decide) (fun c5 => ?_) (fun c5 => ?_)
  · have hO := ok_pos c5 hO
    refine rb hG 4 13 14 [.ldc_w 0] [-1] [] [(0, .ref 251), (1, .int x1), (2, .int x2)] [.int (-1 : Int32)] h4 [] (by decide +kernel) rfl trivial ?_
    exact eI hG 14 (by decide +kernel) rfl ⟨(-1 : Int32), rfl, ok_some (Q := P) hO⟩
  · have hO := ok_neg c5 hO
    refine rb hG 9 15 25 [.iload 2, .ldc_w 0, .ldc_w 1, .aload 0, .getfield 1224, .iadd] [10, 9] [] [(0, .ref 251), (1, .int x1), (2, .int x2)] [.int ((9 : Int32) + (h4.1 251 24)), .int (10 : Int32), .int x2] h4 [kd 251 = 12] (by decide +kernel) rfl kd_251 ?_
    refine rt hG z_M_in 111 3 25 [.int x2, .int (10 : Int32), .int ((9 : Int32) + (h4.1 251 24))] [] (by decide +kernel) mk_M_in lk_12_111 rfl ⟨rfl, Nat.le_of_ble_eq_true rfl⟩ (c_M_in (d := d + 2) h4 x2 (10 : Int32) ((9 : Int32) + (h4.1 251 24)) (ok_bind hO)) ?_
    rintro _ _ ⟨r6, rfl, rfl, hO⟩
    refine riN hG (35) 63 28 (by decide +kernel) (by decide) (fun c7 => ?_) (fun c7 => ?_)
    · have hO := ok_pos c7 hO
      refine rb hG 9 31 41 [.iload 2, .ldc_w 0, .ldc_w 1, .aload 0, .getfield 1224, .iadd] [20, 19] [] [(0, .ref 251), (1, .int x1), (2, .int x2)] [.int ((19 : Int32) + (h4.1 251 24)), .int (20 : Int32), .int x2] h4 [kd 251 = 12] (by decide +kernel) rfl kd_251 ?_
      refine rt hG z_M_in 111 3 41 [.int x2, .int (20 : Int32), .int ((19 : Int32) + (h4.1 251 24))] [] (by decide +kernel) mk_M_in lk_12_111 rfl ⟨rfl, Nat.le_of_ble_eq_true rfl⟩ (c_M_in (d := d + 2) h4 x2 (20 : Int32) ((19 : Int32) + (h4.1 251 24)) (ok_bind hO)) ?_
      rintro _ _ ⟨r8, rfl, rfl, hO⟩
      refine riN hG (19) 63 44 (by decide +kernel) (by decide) (fun c9 => ?_) (fun c9 => ?_)
      · have hO := ok_pos c9 hO
        refine rb hG 9 47 57 [.iload 2, .ldc_w 0, .ldc_w 1, .aload 0, .getfield 1224, .iadd] [30, 29] [] [(0, .ref 251), (1, .int x1), (2, .int x2)] [.int ((29 : Int32) + (h4.1 251 24)), .int (30 : Int32), .int x2] h4 [kd 251 = 12] (by decide +kernel) rfl kd_251 ?_
        refine rt hG z_M_in 111 3 57 [.int x2, .int (30 : Int32), .int ((29 : Int32) + (h4.1 251 24))] [] (by decide +kernel) mk_M_in lk_12_111 rfl ⟨rfl, Nat.le_of_ble_eq_true rfl⟩ (c_M_in (d := d + 2) h4 x2 (30 : Int32) ((29 : Int32) + (h4.1 251 24)) (ok_bind hO)) ?_
        rintro _ _ ⟨r10, rfl, rfl, hO⟩
        refine ri hG .eq (18) 78 60 (by decide +kernel) (by decide) (fun c11 => ?_) (fun c11 => ?_)
        · have hO := ok_pos c11 hO
          refine rb hG 9 78 88 [.iload 2, .ldc_w 0, .ldc_w 1, .aload 0, .getfield 1225, .iadd] [40, 39] [] [(0, .ref 251), (1, .int x1), (2, .int x2)] [.int ((39 : Int32) + (h4.1 251 25)), .int (40 : Int32), .int x2] h4 [kd 251 = 12] (by decide +kernel) rfl kd_251 ?_
          refine rt hG z_M_in 111 3 88 [.int x2, .int (40 : Int32), .int ((39 : Int32) + (h4.1 251 25))] [] (by decide +kernel) mk_M_in lk_12_111 rfl ⟨rfl, Nat.le_of_ble_eq_true rfl⟩ (c_M_in (d := d + 2) h4 x2 (40 : Int32) ((39 : Int32) + (h4.1 251 25)) (ok_bind hO)) ?_
          rintro _ _ ⟨r12, rfl, rfl, hO⟩
          refine ri hG .eq (15) 106 91 (by decide +kernel) (by decide) (fun c13 => ?_) (fun c13 => ?_)
          · have hO := ok_pos c13 hO
            refine rb hG 6 106 109 [.iload 2, .ldc_w 0, .ldc_w 1] [0, 1] [] [(0, .ref 251), (1, .int x1), (2, .int x2)] [.int (1 : Int32), .int (0 : Int32), .int x2] h4 [] (by decide +kernel) rfl trivial ?_
            refine rt hG z_M_in 111 3 109 [.int x2, .int (0 : Int32), .int (1 : Int32)] [] (by decide +kernel) mk_M_in lk_12_111 rfl ⟨rfl, Nat.le_of_ble_eq_true rfl⟩ (c_M_in (d := d + 2) h4 x2 (0 : Int32) (1 : Int32) (ok_bind hO)) ?_
            rintro _ _ ⟨r14, rfl, rfl, hO⟩
            refine ri hG .eq (11) 123 112 (by decide +kernel) (by decide) (fun c15 => ?_) (fun c15 => ?_)
            · have hO := ok_pos c15 hO
              refine rb hG 9 123 133 [.iload 2, .ldc_w 0, .ldc_w 1, .aload 0, .getfield 1225, .iadd] [50, 49] [] [(0, .ref 251), (1, .int x1), (2, .int x2)] [.int ((49 : Int32) + (h4.1 251 25)), .int (50 : Int32), .int x2] h4 [kd 251 = 12] (by decide +kernel) rfl kd_251 ?_
              refine rt hG z_M_in 111 3 133 [.int x2, .int (50 : Int32), .int ((49 : Int32) + (h4.1 251 25))] [] (by decide +kernel) mk_M_in lk_12_111 rfl ⟨rfl, Nat.le_of_ble_eq_true rfl⟩ (c_M_in (d := d + 2) h4 x2 (50 : Int32) ((49 : Int32) + (h4.1 251 25)) (ok_bind hO)) ?_
              rintro _ _ ⟨r16, rfl, rfl, hO⟩
              refine ri hG .eq (17) 153 136 (by decide +kernel) (by decide) (fun c17 => ?_) (fun c17 => ?_)
              · have hO := ok_pos c17 hO
                refine rb hG 4 153 154 [.ldc_w 0] [-1] [] [(0, .ref 251), (1, .int x1), (2, .int x2)] [.int (-1 : Int32)] h4 [] (by decide +kernel) rfl trivial ?_
                refine rs hG [] [] rfl ?_
                exact j154 (-1 : Int32) h4 hO
              · have hO := ok_neg c17 hO
                refine rb hG 9 139 147 [.aload 0, .ldc_w 0, .iload 2, .iadd, .ldc_w 1, .isub] [25, 50] [] [(0, .ref 251), (1, .int x1), (2, .int x2)] [.int (((25 : Int32) + x2) - (50 : Int32)), .ref 251] h4 [] (by decide +kernel) rfl trivial ?_
                refine rv hG z_M_of 270 1 147 251 [.int (((25 : Int32) + x2) - (50 : Int32))] [] (by decide +kernel) mk_M_of lk_12_270 rcv_251 rfl ⟨rfl, Nat.le_of_ble_eq_true rfl⟩ (c_M_of (d := d + 2) h4 (((25 : Int32) + x2) - (50 : Int32)) (ok_bind hO)) ?_
                rintro _ _ ⟨r18, rfl, rfl, hO⟩
                refine rb hG 4 150 154 [] [] [] [(0, .ref 251), (1, .int x1), (2, .int x2)] [.int r18] h4 [] (by decide +kernel) rfl trivial ?_
                refine rs hG [] [] rfl ?_
                exact j154 r18 h4 hO
            · have hO := ok_neg c15 hO
              refine rb hG 5 115 117 [.aload 0, .iload 2] [] [] [(0, .ref 251), (1, .int x1), (2, .int x2)] [.int x2, .ref 251] h4 [] (by decide +kernel) rfl trivial ?_
              refine rv hG z_M_of 270 1 117 251 [.int x2] [] (by decide +kernel) mk_M_of lk_12_270 rcv_251 rfl ⟨rfl, Nat.le_of_ble_eq_true rfl⟩ (c_M_of (d := d + 2) h4 x2 (ok_bind hO)) ?_
              rintro _ _ ⟨r19, rfl, rfl, hO⟩
              refine rb hG 4 120 154 [] [] [] [(0, .ref 251), (1, .int x1), (2, .int x2)] [.int r19] h4 [] (by decide +kernel) rfl trivial ?_
              refine rs hG [] [] rfl ?_
              exact j154 r19 h4 hO
          · have hO := ok_neg c13 hO
            refine rb hG 9 94 102 [.aload 0, .ldc_w 0, .iload 2, .iadd, .ldc_w 1, .isub] [17, 40] [] [(0, .ref 251), (1, .int x1), (2, .int x2)] [.int (((17 : Int32) + x2) - (40 : Int32)), .ref 251] h4 [] (by decide +kernel) rfl trivial ?_
            refine rv hG z_M_of 270 1 102 251 [.int (((17 : Int32) + x2) - (40 : Int32))] [] (by decide +kernel) mk_M_of lk_12_270 rcv_251 rfl ⟨rfl, Nat.le_of_ble_eq_true rfl⟩ (c_M_of (d := d + 2) h4 (((17 : Int32) + x2) - (40 : Int32)) (ok_bind hO)) ?_
            rintro _ _ ⟨r20, rfl, rfl, hO⟩
            exact eI hG 105 (by decide +kernel) rfl ⟨r20, rfl, ok_some (Q := P) hO⟩
        · have hO := ok_neg c11 hO
          refine rs hG [(0, .ref 251), (2, .int x2)] [0, 2] rfl ?_
          exact j63 h4 hO
      · have hO := ok_neg c9 hO
        refine rs hG [(0, .ref 251), (2, .int x2)] [0, 2] rfl ?_
        exact j63 h4 hO
    · have hO := ok_neg c7 hO
      refine rs hG [(0, .ref 251), (2, .int x2)] [0, 2] rfl ?_
      exact j63 h4 hO
/-! GrainInn.lineOf(LGrainInn$Lines;II)I -/
noncomputable def K_lineOf_j25 (x0 : Nat) (s0 : Int32) (h : Hp) : Option Int32 := some s0
noncomputable def K_lineOf (h : Hp) (x0 : Nat) (x1 : Int32) (x2 : Int32) : Option Int32 := if x0 = 0 then (some (-2 : Int32)) else (if x1 = (-1 : Int32) then (if x2 = 0 then (if kd x0 = 2 then ((K_lineOf_j25 x0 (h.1 x0 3) h)) else none) else ((K_lineOf_j25 x0 (-2 : Int32) h))) else (if kd x0 = 2 then ((L_has h x0 x1).bind fun r6 => if r6 = 0 then (some (-2 : Int32)) else (if x2 = (0 : Int32) then ((L_kindOf h x0 x1).bind fun r9 => some r9) else (if x2 = (1 : Int32) then ((L_firstOf h x0 x1).bind fun r11 => some r11) else (if x2 = (2 : Int32) then ((L_secondOf h x0 x1).bind fun r13 => some r13) else (some (-2 : Int32)))))) else none))
set_option maxRecDepth 100000 in
set_option maxHeartbeats 4000000 in
theorem c_K_lineOf {E : En} {d : Nat} (h : Hp) (x0 : Nat) (x1 : Int32) (x2 : Int32) {P : Int32 → Prop} (hO : Okk (K_lineOf h x0 x1 x2) P) : Cn E (d + 3) z_K_lineOf [.ref x0, .int x1, .int x2] h (RIp h P) := by
  refine cn_of (on := 11) (d := d + 2) ⟨rfl, by decide +kernel, Nat.le_of_ble_eq_true rfl⟩ (fun G hG => ?_)
  unfold K_lineOf at hO
  show G 0 [(0, .ref x0), (1, .int x1), (2, .int x2)] [] h
  have j25 : ∀ (s0 : Int32), Okk (K_lineOf_j25 x0 s0 h) P → G 25 [] [.int s0] h := by
    intro s0 hO
    unfold K_lineOf_j25 at hO
    exact eI hG 25 (by decide +kernel) rfl ⟨s0, rfl, rfl, ok_some (Q := P) hO⟩
  refine rb hG 4 0 1 [.aload 0] [] [] [(0, .ref x0), (1, .int x1), (2, .int x2)] [.ref x0] h [] (by decide +kernel) rfl trivial ?_
  refine rnn hG (6) 7 1 (by decide +kernel) (by decide) (fun c1 => ?_) (fun c1 => ?_)
  · have hO := ok_pos c1 hO
    refine rb hG 4 4 6 [.ldc_w 0] [-2] [] [(0, .ref x0), (1, .int x1), (2, .int x2)] [.int (-2 : Int32)] h [] (by decide +kernel) rfl trivial ?_
    exact eI hG 6 (by decide +kernel) rfl ⟨(-2 : Int32), rfl, rfl, ok_some (Q := P) hO⟩
  · have hO := ok_neg c1 hO
    refine rb hG 5 7 9 [.iload 1, .ldc_w 0] [-1] [] [(0, .ref x0), (1, .int x1), (2, .int x2)] [.int (-1 : Int32), .int x1] h [] (by decide +kernel) rfl trivial ?_
    refine rjN hG (17) 26 9 (by decide +kernel) (by decide) (fun c2 => ?_) (fun c2 => ?_)
    · have hO := ok_pos c2 hO
      refine rb hG 4 12 13 [.iload 2] [] [] [(0, .ref x0), (1, .int x1), (2, .int x2)] [.int x2] h [] (by decide +kernel) rfl trivial ?_
      refine riN hG (10) 23 13 (by decide +kernel) (by decide) (fun c3 => ?_) (fun c3 => ?_)
      · have hO := ok_pos c3 hO
        obtain ⟨g4, hO⟩ := ok_if hO
        refine rb hG 6 16 25 [.aload 0, .getfield 203] [] [] [(0, .ref x0), (1, .int x1), (2, .int x2)] [.int (h.1 x0 3)] h [kd x0 = 2] (by decide +kernel) rfl g4 ?_
        refine rs hG [] [] rfl ?_
        exact j25 (h.1 x0 3) hO
      · have hO := ok_neg c3 hO
        refine rb hG 4 23 25 [.ldc_w 0] [-2] [] [(0, .ref x0), (1, .int x1), (2, .int x2)] [.int (-2 : Int32)] h [] (by decide +kernel) rfl trivial ?_
        refine rs hG [] [] rfl ?_
        exact j25 (-2 : Int32) hO
    · have hO := ok_neg c2 hO
      obtain ⟨g5, hO⟩ := ok_if hO
      refine rb hG 5 26 28 [.aload 0, .iload 1] [] [] [(0, .ref x0), (1, .int x1), (2, .int x2)] [.int x1, .ref x0] h [] (by decide +kernel) rfl trivial ?_
      refine rv hG z_L_has 273 1 28 x0 [.int x1] [] (by decide +kernel) mk_L_has lk_11_273 (rcv_L g5) rfl ⟨rfl, Nat.le_of_ble_eq_true rfl⟩ (c_L_has (d := d + 1) h x0 x1 (ok_bind hO)) ?_
      rintro _ _ ⟨r6, rfl, rfl, hO⟩
      refine riN hG (6) 37 31 (by decide +kernel) (by decide) (fun c7 => ?_) (fun c7 => ?_)
      · have hO := ok_pos c7 hO
        refine rb hG 4 34 36 [.ldc_w 0] [-2] [] [(0, .ref x0), (1, .int x1), (2, .int x2)] [.int (-2 : Int32)] h [] (by decide +kernel) rfl trivial ?_
        exact eI hG 36 (by decide +kernel) rfl ⟨(-2 : Int32), rfl, rfl, ok_some (Q := P) hO⟩
      · have hO := ok_neg c7 hO
        refine rb hG 4 37 38 [.iload 2] [] [] [(0, .ref x0), (1, .int x1), (2, .int x2)] [.int x2] h [] (by decide +kernel) rfl trivial ?_
        refine rw9 hG (44) (0) (2) #[(26), (32), (38)] 26 38 [64, 70, 76] 82 (by decide +kernel) (by decide +kernel) ?_
        refine sw_c (0 : Int32) (by decide) (fun c8 => ?_) (fun c8 => ?_)
        · have hO := ok_pos c8 hO
          refine rb hG 5 64 66 [.aload 0, .iload 1] [] [] [(0, .ref x0), (1, .int x1), (2, .int x2)] [.int x1, .ref x0] h [] (by decide +kernel) rfl trivial ?_
          refine rv hG z_L_kindOf 361 1 66 x0 [.int x1] [] (by decide +kernel) mk_L_kindOf lk_11_361 (rcv_L g5) rfl ⟨rfl, Nat.le_of_ble_eq_true rfl⟩ (c_L_kindOf (d := d) h x0 x1 (ok_bind hO)) ?_
          rintro _ _ ⟨r9, rfl, rfl, hO⟩
          exact eI hG 69 (by decide +kernel) rfl ⟨r9, rfl, rfl, ok_some (Q := P) hO⟩
        have hO := ok_neg c8 hO
        refine sw_c (1 : Int32) (by decide) (fun c10 => ?_) (fun c10 => ?_)
        · have hO := ok_pos c10 hO
          refine rb hG 5 70 72 [.aload 0, .iload 1] [] [] [(0, .ref x0), (1, .int x1), (2, .int x2)] [.int x1, .ref x0] h [] (by decide +kernel) rfl trivial ?_
          refine rv hG z_L_firstOf 276 1 72 x0 [.int x1] [] (by decide +kernel) mk_L_firstOf lk_11_276 (rcv_L g5) rfl ⟨rfl, Nat.le_of_ble_eq_true rfl⟩ (c_L_firstOf (d := d) h x0 x1 (ok_bind hO)) ?_
          rintro _ _ ⟨r11, rfl, rfl, hO⟩
          exact eI hG 75 (by decide +kernel) rfl ⟨r11, rfl, rfl, ok_some (Q := P) hO⟩
        have hO := ok_neg c10 hO
        refine sw_c (2 : Int32) (by decide) (fun c12 => ?_) (fun c12 => ?_)
        · have hO := ok_pos c12 hO
          refine rb hG 5 76 78 [.aload 0, .iload 1] [] [] [(0, .ref x0), (1, .int x1), (2, .int x2)] [.int x1, .ref x0] h [] (by decide +kernel) rfl trivial ?_
          refine rv hG z_L_secondOf 364 1 78 x0 [.int x1] [] (by decide +kernel) mk_L_secondOf lk_11_364 (rcv_L g5) rfl ⟨rfl, Nat.le_of_ble_eq_true rfl⟩ (c_L_secondOf (d := d) h x0 x1 (ok_bind hO)) ?_
          rintro _ _ ⟨r13, rfl, rfl, hO⟩
          exact eI hG 81 (by decide +kernel) rfl ⟨r13, rfl, rfl, ok_some (Q := P) hO⟩
        have hO := ok_neg c12 hO
        show G 82 _ _ _
        refine rb hG 4 82 84 [.ldc_w 0] [-2] [] [(0, .ref x0), (1, .int x1), (2, .int x2)] [.int (-2 : Int32)] h [] (by decide +kernel) rfl trivial ?_
        exact eI hG 84 (by decide +kernel) rfl ⟨(-2 : Int32), rfl, rfl, ok_some (Q := P) hO⟩
/-! GrainInn.deed(III)I -/
noncomputable def K_deed (h : Hp) (x1 : Int32) (x2 : Int32) (x3 : Int32) : Option Int32 := (D_linesAt h 2 (1 : Int32) x1).bind fun r1 => (K_lineOf h r1 x2 x3).bind fun r2 => some r2
set_option maxRecDepth 100000 in
set_option maxHeartbeats 4000000 in
theorem c_K_deed {E : En} {d : Nat} (h : Hp) (x1 : Int32) (x2 : Int32) (x3 : Int32) {P : Int32 → Prop} (hO : Okk (K_deed h x1 x2 x3) P) : Cn E (d + 5) z_K_deed [.ref 1, .int x1, .int x2, .int x3] h (RIp h P) := by
  refine cn_of (on := 11) (d := d + 4) ⟨rfl, by decide +kernel, Nat.le_of_ble_eq_true rfl⟩ (fun G hG => ?_)
  unfold K_deed at hO
  show G 0 [(0, .ref 1), (1, .int x1), (2, .int x2), (3, .int x3)] [] h
  refine rb hG 7 0 6 [.aload 0, .invokeinterface 1100 1, .ldc_w 0, .iload 1] [1] [] [(0, .ref 1), (1, .int x1), (2, .int x2), (3, .int x3)] [.int x1, .int (1 : Int32), .ref 2] h [kd 1 = 11] (by decide +kernel) rfl kd_1 ?_
  refine rv hG z_D_linesAt 138 2 6 2 [.int (1 : Int32), .int x1] [] (by decide +kernel) mk_D_linesAt lk_11_138 rcv_2 rfl ⟨rfl, Nat.le_of_ble_eq_true rfl⟩ (c_D_linesAt (d := d) h 2 (1 : Int32) x1 (ok_bind hO)) ?_
  rintro _ _ ⟨r1, rfl, rfl, hO⟩
  refine rb hG 5 9 11 [.iload 2, .iload 3] [] [] [(0, .ref 1), (1, .int x1), (2, .int x2), (3, .int x3)] [.int x3, .int x2, .ref r1] h [] (by decide +kernel) rfl trivial ?_
  refine rt hG z_K_lineOf 142 3 11 [.ref r1, .int x2, .int x3] [] (by decide +kernel) mk_K_lineOf lk_11_142 rfl ⟨rfl, Nat.le_of_ble_eq_true rfl⟩ (c_K_lineOf (d := d + 1) h r1 x2 x3 (ok_bind hO)) ?_
  rintro _ _ ⟨r2, rfl, rfl, hO⟩
  exact eI hG 14 (by decide +kernel) rfl ⟨r2, rfl, rfl, ok_some (Q := P) hO⟩
/-! GrainInnModel.hasEvenings(I)Z -/
noncomputable def M_hasEvenings (h : Hp) (x1 : Int32) : Option (Int32 × Hp) := bnd (wr h 251 26 x1) fun h1 => (M_is h1 (1 : Int32) x1).bind fun r2 => if r2 = 0 ∨ r2 = 1 then (some (r2, h1)) else none
set_option maxRecDepth 100000 in
set_option maxHeartbeats 4000000 in
theorem c_M_hasEvenings {E : En} {d : Nat} (h : Hp) (x1 : Int32) {P : (Int32 × Hp) → Prop} (hO : Okk (M_hasEvenings h x1) P) : Cn E (d + 3) z_M_hasEvenings [.ref 251, .int x1] h (RI P) := by
  refine cn_of (on := 12) (d := d + 2) ⟨rfl, by decide +kernel, Nat.le_of_ble_eq_true rfl⟩ (fun G hG => ?_)
  unfold M_hasEvenings at hO
  show G 0 [(0, .ref 251), (1, .int x1)] [] h
  refine rbx hG 6 0 5 [.aload 0, .iload 1, .putfield 1226] [] [] (wr h 251 26 x1) (fun h1 => [(0, .ref 251), (1, .int x1)]) (fun h1 => []) (fun h1 => h1) [kd 251 = 12] (by decide +kernel) rfl kd_251 hO (fun h1 hO => ?_)
  refine rb hG 6 5 8 [.aload 0, .ldc_w 0, .iload 1] [1] [] [(0, .ref 251), (1, .int x1)] [.int x1, .int (1 : Int32), .ref 251] h1 [] (by decide +kernel) rfl trivial ?_
  refine rv hG z_M_is 258 2 8 251 [.int (1 : Int32), .int x1] [] (by decide +kernel) mk_M_is lk_12_258 rcv_251 rfl ⟨rfl, Nat.le_of_ble_eq_true rfl⟩ (c_M_is (d := d) h1 (1 : Int32) x1 (ok_bind hO)) ?_
  rintro _ _ ⟨r2, rfl, rfl, hO⟩
  obtain ⟨g3, hO⟩ := ok_if hO
  exact eZ hG 11 (by decide +kernel) rfl g3 ⟨r2, rfl, ok_some (Q := P) hO⟩
/-! GrainInnModel.deeds()I -/
noncomputable def M_deeds (h : Hp) : Option Int32 := if inb ((121 : Int32) * (h.1 251 26)) (ln 258) then (some (h.1 258 (Int32.toNatClampNeg ((121 : Int32) * (h.1 251 26))))) else none
set_option maxRecDepth 100000 in
set_option maxHeartbeats 4000000 in
theorem c_M_deeds {E : En} {d : Nat} (h : Hp) {P : Int32 → Prop} (hO : Okk (M_deeds h) P) : Cn E (d + 1) z_M_deeds [.ref 251] h (RIp h P) := by
  refine cn_of (on := 12) (d := d + 0) ⟨rfl, by decide +kernel, Nat.le_of_ble_eq_true rfl⟩ (fun G hG => ?_)
  unfold M_deeds at hO
  show G 0 [(0, .ref 251)] [] h
  obtain ⟨g1, hO⟩ := ok_if hO
  refine rb hG 10 0 12 [.aload 0, .invokeinterface 1207 7, .ldc_w 0, .aload 0, .getfield 1226, .imul, .iaload] [121] [] [(0, .ref 251)] [.int (h.1 258 (Int32.toNatClampNeg ((121 : Int32) * (h.1 251 26))))] h [kd 251 = 12, kd 251 = 12, kd 258 = 20 ∧ inb ((121 : Int32) * (h.1 251 26)) (ln 258)] (by decide +kernel) rfl ⟨kd_251, kd_251, ⟨kd_258, g1⟩⟩ ?_
  exact eI hG 12 (by decide +kernel) rfl ⟨(h.1 258 (Int32.toNatClampNeg ((121 : Int32) * (h.1 251 26)))), rfl, rfl, ok_some (Q := P) hO⟩
/-! GrainInnModel.deedOf(II)I -/
noncomputable def M_deedOf (h : Hp) (x1 : Int32) (x2 : Int32) : Option Int32 := if inb (((((121 : Int32) * (h.1 251 26)) + (1 : Int32)) + ((3 : Int32) * x1)) + x2) (ln 258) then (some (h.1 258 (Int32.toNatClampNeg (((((121 : Int32) * (h.1 251 26)) + (1 : Int32)) + ((3 : Int32) * x1)) + x2)))) else none
set_option maxRecDepth 100000 in
set_option maxHeartbeats 4000000 in
theorem c_M_deedOf {E : En} {d : Nat} (h : Hp) (x1 : Int32) (x2 : Int32) {P : Int32 → Prop} (hO : Okk (M_deedOf h x1 x2) P) : Cn E (d + 1) z_M_deedOf [.ref 251, .int x1, .int x2] h (RIp h P) := by
  refine cn_of (on := 12) (d := d + 0) ⟨rfl, by decide +kernel, Nat.le_of_ble_eq_true rfl⟩ (fun G hG => ?_)
  unfold M_deedOf at hO
  show G 0 [(0, .ref 251), (1, .int x1), (2, .int x2)] [] h
  obtain ⟨g1, hO⟩ := ok_if hO
  refine rb hG 18 0 20 [.aload 0, .invokeinterface 1207 7, .ldc_w 0, .aload 0, .getfield 1226, .imul, .ldc_w 1, .iadd, .ldc_w 2, .iload 1, .imul, .iadd, .iload 2, .iadd, .iaload] [121, 1, 3] [] [(0, .ref 251), (1, .int x1), (2, .int x2)] [.int (h.1 258 (Int32.toNatClampNeg (((((121 : Int32) * (h.1 251 26)) + (1 : Int32)) + ((3 : Int32) * x1)) + x2)))] h [kd 251 = 12, kd 251 = 12, kd 258 = 20 ∧ inb (((((121 : Int32) * (h.1 251 26)) + (1 : Int32)) + ((3 : Int32) * x1)) + x2) (ln 258)] (by decide +kernel) rfl ⟨kd_251, kd_251, ⟨kd_258, g1⟩⟩ ?_
  exact eI hG 20 (by decide +kernel) rfl ⟨(h.1 258 (Int32.toNatClampNeg (((((121 : Int32) * (h.1 251 26)) + (1 : Int32)) + ((3 : Int32) * x1)) + x2))), rfl, rfl, ok_some (Q := P) hO⟩
/-! GrainInnModel.deed(III)I -/
noncomputable def M_deed_j69 (s0 : Int32) (h : Hp) : Option (Int32 × Hp) := some (s0, h)
noncomputable def M_deed_j67 (h : Hp) : Option (Int32 × Hp) := (M_deed_j69 (-2 : Int32) h)
noncomputable def M_deed_j34 (s0 : Int32) (h : Hp) : Option (Int32 × Hp) := some (s0, h)
noncomputable def M_deed (h : Hp) (x1 : Int32) (x2 : Int32) (x3 : Int32) : Option (Int32 × Hp) := bnd (wr h 251 0 (0 : Int32)) fun h1 => (M_hasEvenings h1 x1).bind fun (r2, h3) => if r2 = 0 then (some ((-2 : Int32), h3)) else (if x2 = (-1 : Int32) then (if x3 = 0 then ((M_deeds h3).bind fun r7 => (M_deed_j34 r7 h3)) else ((M_deed_j34 (-2 : Int32) h3))) else ((M_deeds h3).bind fun r8 => (M_in x2 (0 : Int32) (r8 - (1 : Int32))).bind fun r9 => if r9 = 0 then ((M_deed_j67 h3)) else ((M_in x3 (0 : Int32) (2 : Int32)).bind fun r11 => if r11 = 0 then ((M_deed_j67 h3)) else ((M_deedOf h3 x2 x3).bind fun r13 => (M_deed_j69 r13 h3)))))
set_option maxRecDepth 100000 in
set_option maxHeartbeats 4000000 in
theorem c_M_deed {E : En} {d : Nat} (h : Hp) (x1 : Int32) (x2 : Int32) (x3 : Int32) {P : (Int32 × Hp) → Prop} (hO : Okk (M_deed h x1 x2 x3) P) : Cn E (d + 4) z_M_deed [.ref 251, .int x1, .int x2, .int x3] h (RI P) := by
  refine cn_of (on := 12) (d := d + 3) ⟨rfl, by decide +kernel, Nat.le_of_ble_eq_true rfl⟩ (fun G hG => ?_)
  unfold M_deed at hO
  show G 0 [(0, .ref 251), (1, .int x1), (2, .int x2), (3, .int x3)] [] h
  have j69 : ∀ (s0 : Int32) (h : Hp), Okk (M_deed_j69 s0 h) P → G 69 [] [.int s0] h := by
    intro s0 h hO
    unfold M_deed_j69 at hO
    exact eI hG 69 (by decide +kernel) rfl ⟨s0, rfl, ok_some (Q := P) hO⟩
  have j67 : ∀ (h : Hp), Okk (M_deed_j67 h) P → G 67 [] [] h := by
    intro h hO
    unfold M_deed_j67 at hO
    refine rb hG 4 67 69 [.ldc_w 0] [-2] [] [] [.int (-2 : Int32)] h [] (by decide +kernel) rfl trivial ?_
    exact j69 (-2 : Int32) h hO
  have j34 : ∀ (s0 : Int32) (h : Hp), Okk (M_deed_j34 s0 h) P → G 34 [] [.int s0] h := by
    intro s0 h hO
    unfold M_deed_j34 at hO
    exact eI hG 34 (by decide +kernel) rfl ⟨s0, rfl, ok_some (Q := P) hO⟩
  refine rbx hG 6 0 5 [.aload 0, .ldc_w 0, .putfield 1200] [0] [] (wr h 251 0 (0 : Int32)) (fun h1 => [(0, .ref 251), (1, .int x1), (2, .int x2), (3, .int x3)]) (fun h1 => []) (fun h1 => h1) [kd 251 = 12] (by decide +kernel) rfl kd_251 hO (fun h1 hO => ?_)
  refine rb hG 5 5 7 [.aload 0, .iload 1] [] [] [(0, .ref 251), (1, .int x1), (2, .int x2), (3, .int x3)] [.int x1, .ref 251] h1 [] (by decide +kernel) rfl trivial ?_
  refine rv hG z_M_hasEvenings 289 1 7 251 [.int x1] [] (by decide +kernel) mk_M_hasEvenings lk_12_289 rcv_251 rfl ⟨rfl, Nat.le_of_ble_eq_true rfl⟩ (c_M_hasEvenings (d := d) h1 x1 (ok_bind hO)) ?_
  rintro _ h3 ⟨r2, rfl, hO⟩
  refine riN hG (6) 16 10 (by decide +kernel) (by decide) (fun c4 => ?_) (fun c4 => ?_)
  · have hO := ok_pos c4 hO
    refine rb hG 4 13 15 [.ldc_w 0] [-2] [] [(0, .ref 251), (1, .int x1), (2, .int x2), (3, .int x3)] [.int (-2 : Int32)] h3 [] (by decide +kernel) rfl trivial ?_
    exact eI hG 15 (by decide +kernel) rfl ⟨(-2 : Int32), rfl, ok_some (Q := P) hO⟩
  · have hO := ok_neg c4 hO
    refine rb hG 5 16 18 [.iload 2, .ldc_w 0] [-1] [] [(0, .ref 251), (1, .int x1), (2, .int x2), (3, .int x3)] [.int (-1 : Int32), .int x2] h3 [] (by decide +kernel) rfl trivial ?_
    refine rjN hG (17) 35 18 (by decide +kernel) (by decide) (fun c5 => ?_) (fun c5 => ?_)
    · have hO := ok_pos c5 hO
      refine rb hG 4 21 22 [.iload 3] [] [] [(0, .ref 251), (1, .int x1), (2, .int x2), (3, .int x3)] [.int x3] h3 [] (by decide +kernel) rfl trivial ?_
      refine riN hG (10) 32 22 (by decide +kernel) (by decide) (fun c6 => ?_) (fun c6 => ?_)
      · have hO := ok_pos c6 hO
        refine rb hG 4 25 26 [.aload 0] [] [] [(0, .ref 251), (1, .int x1), (2, .int x2), (3, .int x3)] [.ref 251] h3 [] (by decide +kernel) rfl trivial ?_
        refine rv hG z_M_deeds 292 0 26 251 [] [] (by decide +kernel) mk_M_deeds lk_12_292 rcv_251 rfl ⟨rfl, Nat.le_of_ble_eq_true rfl⟩ (c_M_deeds (d := d + 2) h3 (ok_bind hO)) ?_
        rintro _ _ ⟨r7, rfl, rfl, hO⟩
        refine rb hG 4 29 34 [] [] [] [(0, .ref 251), (1, .int x1), (2, .int x2), (3, .int x3)] [.int r7] h3 [] (by decide +kernel) rfl trivial ?_
        refine rs hG [] [] rfl ?_
        exact j34 r7 h3 hO
      · have hO := ok_neg c6 hO
        refine rb hG 4 32 34 [.ldc_w 0] [-2] [] [(0, .ref 251), (1, .int x1), (2, .int x2), (3, .int x3)] [.int (-2 : Int32)] h3 [] (by decide +kernel) rfl trivial ?_
        refine rs hG [] [] rfl ?_
        exact j34 (-2 : Int32) h3 hO
    · have hO := ok_neg c5 hO
      refine rb hG 6 35 38 [.iload 2, .ldc_w 0, .aload 0] [0] [] [(0, .ref 251), (1, .int x1), (2, .int x2), (3, .int x3)] [.ref 251, .int (0 : Int32), .int x2] h3 [] (by decide +kernel) rfl trivial ?_
      refine rv hG z_M_deeds 292 0 38 251 [] [.int (0 : Int32), .int x2] (by decide +kernel) mk_M_deeds lk_12_292 rcv_251 rfl ⟨rfl, Nat.le_of_ble_eq_true rfl⟩ (c_M_deeds (d := d + 2) h3 (ok_bind hO)) ?_
      rintro _ _ ⟨r8, rfl, rfl, hO⟩
      refine rb hG 5 41 43 [.ldc_w 0, .isub] [1] [] [(0, .ref 251), (1, .int x1), (2, .int x2), (3, .int x3)] [.int (r8 - (1 : Int32)), .int (0 : Int32), .int x2] h3 [] (by decide +kernel) rfl trivial ?_
      refine rt hG z_M_in 111 3 43 [.int x2, .int (0 : Int32), .int (r8 - (1 : Int32))] [] (by decide +kernel) mk_M_in lk_12_111 rfl ⟨rfl, Nat.le_of_ble_eq_true rfl⟩ (c_M_in (d := d + 2) h3 x2 (0 : Int32) (r8 - (1 : Int32)) (ok_bind hO)) ?_
      rintro _ _ ⟨r9, rfl, rfl, hO⟩
      refine ri hG .eq (21) 67 46 (by decide +kernel) (by decide) (fun c10 => ?_) (fun c10 => ?_)
      · have hO := ok_pos c10 hO
        refine rs hG [] [] rfl ?_
        exact j67 h3 hO
      · have hO := ok_neg c10 hO
        refine rb hG 6 49 52 [.iload 3, .ldc_w 0, .ldc_w 1] [0, 2] [] [(0, .ref 251), (1, .int x1), (2, .int x2), (3, .int x3)] [.int (2 : Int32), .int (0 : Int32), .int x3] h3 [] (by decide +kernel) rfl trivial ?_
        refine rt hG z_M_in 111 3 52 [.int x3, .int (0 : Int32), .int (2 : Int32)] [] (by decide +kernel) mk_M_in lk_12_111 rfl ⟨rfl, Nat.le_of_ble_eq_true rfl⟩ (c_M_in (d := d + 2) h3 x3 (0 : Int32) (2 : Int32) (ok_bind hO)) ?_
        rintro _ _ ⟨r11, rfl, rfl, hO⟩
        refine ri hG .eq (12) 67 55 (by decide +kernel) (by decide) (fun c12 => ?_) (fun c12 => ?_)
        · have hO := ok_pos c12 hO
          refine rs hG [] [] rfl ?_
          exact j67 h3 hO
        · have hO := ok_neg c12 hO
          refine rb hG 6 58 61 [.aload 0, .iload 2, .iload 3] [] [] [(0, .ref 251), (1, .int x1), (2, .int x2), (3, .int x3)] [.int x3, .int x2, .ref 251] h3 [] (by decide +kernel) rfl trivial ?_
          refine rv hG z_M_deedOf 295 2 61 251 [.int x2, .int x3] [] (by decide +kernel) mk_M_deedOf lk_12_295 rcv_251 rfl ⟨rfl, Nat.le_of_ble_eq_true rfl⟩ (c_M_deedOf (d := d + 2) h3 x2 x3 (ok_bind hO)) ?_
          rintro _ _ ⟨r13, rfl, rfl, hO⟩
          refine rb hG 4 64 69 [] [] [] [(0, .ref 251), (1, .int x1), (2, .int x2), (3, .int x3)] [.int r13] h3 [] (by decide +kernel) rfl trivial ?_
          refine rs hG [] [] rfl ?_
          exact j69 r13 h3 hO
/-! GrainInn.Bench.clear()V -/
noncomputable def B_clear (h : Hp) (x0 : Nat) : Option Hp := if kd x0 = 0 then (bnd (wr h x0 3 (0 : Int32)) fun h1 => bnd (wr h1 x0 4 (0 : Int32)) fun h2 => bnd (wr h2 x0 5 (0 : Int32)) fun h3 => bnd (wr h3 x0 6 (0 : Int32)) fun h4 => some h4) else none
set_option maxRecDepth 100000 in
set_option maxHeartbeats 4000000 in
theorem c_B_clear {E : En} {d : Nat} (h : Hp) (x0 : Nat) {P : Hp → Prop} (hO : Okk (B_clear h x0) P) : Cn E (d + 1) z_B_clear [.ref x0] h (RV P) := by
  refine cn_of (on := 0) (d := d + 0) ⟨rfl, by decide +kernel, Nat.le_of_ble_eq_true rfl⟩ (fun G hG => ?_)
  unfold B_clear at hO
  show G 0 [(0, .ref x0)] [] h
  obtain ⟨g0, hO⟩ := ok_if hO
  refine rbx hG 6 0 5 [.aload 0, .ldc_w 0, .putfield 3] [0] [] (wr h x0 3 (0 : Int32)) (fun h1 => [(0, .ref x0)]) (fun h1 => []) (fun h1 => h1) [kd x0 = 0] (by decide +kernel) rfl g0 hO (fun h1 hO => ?_)
  refine rbx hG 6 5 10 [.aload 0, .ldc_w 0, .putfield 4] [0] [] (wr h1 x0 4 (0 : Int32)) (fun h2 => [(0, .ref x0)]) (fun h2 => []) (fun h2 => h2) [kd x0 = 0] (by decide +kernel) rfl g0 hO (fun h2 hO => ?_)
  refine rbx hG 6 10 15 [.aload 0, .ldc_w 0, .putfield 5] [0] [] (wr h2 x0 5 (0 : Int32)) (fun h3 => [(0, .ref x0)]) (fun h3 => []) (fun h3 => h3) [kd x0 = 0] (by decide +kernel) rfl g0 hO (fun h3 hO => ?_)
  refine rbx hG 6 15 20 [.aload 0, .ldc_w 0, .putfield 6] [0] [] (wr h3 x0 6 (0 : Int32)) (fun h4 => [(0, .ref x0)]) (fun h4 => []) (fun h4 => h4) [kd x0 = 0] (by decide +kernel) rfl g0 hO (fun h4 hO => ?_)
  exact eV hG 20 (by decide +kernel) rfl ⟨rfl, ok_some (Q := P) hO⟩
/-! GrainInn.State.begin(LGrainInn$House;)V -/
noncomputable def S_begin_j78 (x1 : Nat) (h : Hp) : Option Hp := some h
noncomputable def S_begin_b54 (x1 : Nat) (x2 : Int32) (h : Hp) : Option ((Int32 × Hp) ⊕ Hp) := if (Int32.ofNat (ln 58)) ≤ x2 then (((S_begin_j78 x1 h).map Sum.inr)) else (if inb x2 (ln 58) then (if kd (el 58 (Int32.toNatClampNeg x2)) = 0 then ((B_clear h (el 58 (Int32.toNatClampNeg x2))).bind fun h4 => bnd ((x2 + (1 : Int32))) fun y5 => some (.inl (y5, h4))) else none) else none)
noncomputable def S_begin_l54 (x1 : Nat) (x2 : Int32) (h : Hp) : Option Hp := lp (fun s : (Int32 × Hp) => S_begin_b54 x1 s.1 s.2) (x2, h)
theorem S_begin_l54_eq (x1 : Nat) (x2 : Int32) (h : Hp) : S_begin_l54 x1 x2 h = (S_begin_b54 x1 x2 h).bind (Sum.elim (fun q : (Int32 × Hp) => S_begin_l54 x1 q.1 q.2) some) := lp_eq _ _
noncomputable def S_begin (h : Hp) (x1 : Nat) : Option Hp := if kd x1 = 1 then (bnd (wr h 57 6 (Int32.ofNat x1)) fun h7 => bnd (wr h7 57 7 (0 : Int32)) fun h8 => bnd (wr h8 57 8 (0 : Int32)) fun h9 => bnd (wr h9 57 9 (0 : Int32)) fun h10 => (J_fill h10 59 (0 : Int32)).bind fun h11 => (J_fill h11 60 (0 : Int32)).bind fun h12 => (J_fill h12 61 (0 : Int32)).bind fun h13 => (J_fill h13 62 (0 : Int32)).bind fun h14 => (S_begin_l54 x1 (0 : Int32) h14)) else none
set_option maxRecDepth 100000 in
set_option maxHeartbeats 4000000 in
theorem c_S_begin {E : En} {d : Nat} (h : Hp) (x1 : Nat) {P : Hp → Prop} (hO : Okk (S_begin h x1) P) : Cn E (d + 2) z_S_begin [.ref 57, .ref x1] h (RV P) := by
  refine cn_of (on := 7) (d := d + 1) ⟨rfl, by decide +kernel, Nat.le_of_ble_eq_true rfl⟩ (fun G hG => ?_)
  unfold S_begin at hO
  show G 0 [(0, .ref 57), (1, .ref x1)] [] h
  have j78 : ∀ (h : Hp), Okk (S_begin_j78 x1 h) P → G 78 [] [] h := by
    intro h hO
    unfold S_begin_j78 at hO
    exact eV hG 78 (by decide +kernel) rfl ⟨rfl, ok_some (Q := P) hO⟩
  have l54 : ∀ (x2 : Int32) (h : Hp), Okk (S_begin_l54 x1 x2 h) P → G 54 [(0, .ref 57), (2, .int x2)] [] h := by
    intro x2 h hO
    obtain ⟨H54, eH54⟩ : ∃ q : (Int32 × Hp) → Prop, q = fun s => G 54 [(0, .ref 57), (2, .int (s.1))] [] (s.2) := ⟨_, rfl⟩
    have w9 : H54 (x2, h) := by
      refine lp_wp (f := fun s : (Int32 × Hp) => S_begin_b54 x1 s.1 s.2) (H := H54) (Q := P) ?_ (x2, h) hO
      rintro ⟨x2, h⟩ hO
      rw [eH54]
      show G 54 [(0, .ref 57), (2, .int x2)] [] h
      have k54 : ∀ s : (Int32 × Hp), H54 s → G 54 [(0, .ref 57), (2, .int (s.1))] [] (s.2) := fun s q => by rw [eH54] at q; exact q
      replace hO : Okk (S_begin_b54 x1 x2 h) (Sum.elim H54 P) := hO
      clear eH54
      unfold S_begin_b54 at hO
      refine rb hG 7 54 60 [.iload 2, .aload 0, .invokeinterface 700 1, .arraylength] [] [] [(0, .ref 57), (2, .int x2)] [.int (Int32.ofNat (ln 58)), .int x2] h [kd 57 = 7, 20 ≤ kd 58 ∧ kd 58 < 27] (by decide +kernel) rfl ⟨kd_57, (show 20 ≤ kd 58 ∧ kd 58 < 27 by decide +kernel)⟩ ?_
      refine rj hG .ge (18) 78 60 (by decide +kernel) (by decide) (fun c1 => ?_) (fun c1 => ?_)
      · have hO := ok_pos c1 hO
        refine rs hG [] [] rfl ?_
        exact j78 h (ok_inr hO)
      · have hO := ok_neg c1 hO
        obtain ⟨g2, hO⟩ := ok_if hO
        obtain ⟨g3, hO⟩ := ok_if hO
        refine rb hG 7 63 69 [.aload 0, .invokeinterface 700 1, .iload 2, .aaload] [] [] [(0, .ref 57), (2, .int x2)] [.ref (el 58 (Int32.toNatClampNeg x2))] h [kd 57 = 7, (kd 58 = 23 ∨ kd 58 = 24 ∨ kd 58 = 25 ∨ kd 58 = 26) ∧ inb x2 (ln 58)] (by decide +kernel) rfl ⟨kd_57, ⟨Or.inr (Or.inr (Or.inl kd_58)), g2⟩⟩ ?_
        refine rv hG z_B_clear 63 0 69 (el 58 (Int32.toNatClampNeg x2)) [] [] (by decide +kernel) mk_B_clear lk_7_63 (rcv_B g3) rfl ⟨rfl, Nat.le_of_ble_eq_true rfl⟩ (c_B_clear (d := d) h (el 58 (Int32.toNatClampNeg x2)) (ok_bind hO)) ?_
        rintro _ h4 ⟨rfl, hO⟩
        refine rbx hG 4 72 75 [.iinc 2 0] [1] [] ((x2 + (1 : Int32))) (fun y5 => [(2, .int y5), (0, .ref 57)]) (fun y5 => []) (fun y5 => h4) [] (by decide +kernel) rfl trivial hO (fun y5 hO => ?_)
        refine rb hG 4 75 54 [] [] [] [(2, .int y5), (0, .ref 57)] [] h4 [] (by decide +kernel) rfl trivial ?_
        refine rs hG [(0, .ref 57), (2, .int y5)] [1, 0] rfl ?_
        exact k54 (y5, h4) (ok_some (Q := (Sum.elim H54 P)) hO)
    rw [eH54] at w9
    exact w9
  obtain ⟨g6, hO⟩ := ok_if hO
  refine rbx hG 6 0 5 [.aload 0, .aload 1, .anewarray 706] [] [] (wr h 57 6 (Int32.ofNat x1)) (fun h7 => [(0, .ref 57), (1, .ref x1)]) (fun h7 => []) (fun h7 => h7) [kd 57 = 7 ∧ kd x1 = 1] (by decide +kernel) rfl ⟨kd_57, g6⟩ hO (fun h7 hO => ?_)
  refine rbx hG 6 5 10 [.aload 0, .ldc_w 0, .putfield 707] [0] [] (wr h7 57 7 (0 : Int32)) (fun h8 => [(0, .ref 57), (1, .ref x1)]) (fun h8 => []) (fun h8 => h8) [kd 57 = 7] (by decide +kernel) rfl kd_57 hO (fun h8 hO => ?_)
  refine rbx hG 6 10 15 [.aload 0, .ldc_w 0, .putfield 708] [0] [] (wr h8 57 8 (0 : Int32)) (fun h9 => [(0, .ref 57), (1, .ref x1)]) (fun h9 => []) (fun h9 => h9) [kd 57 = 7] (by decide +kernel) rfl kd_57 hO (fun h9 hO => ?_)
  refine rbx hG 6 15 20 [.aload 0, .ldc_w 0, .putfield 709] [0] [] (wr h9 57 9 (0 : Int32)) (fun h10 => [(0, .ref 57), (1, .ref x1)]) (fun h10 => []) (fun h10 => h10) [kd 57 = 7] (by decide +kernel) rfl kd_57 hO (fun h10 hO => ?_)
  refine rb hG 6 20 25 [.aload 0, .invokeinterface 701 2, .ldc_w 0] [0] [] [(0, .ref 57), (1, .ref x1)] [.int (0 : Int32), .ref 59] h10 [kd 57 = 7] (by decide +kernel) rfl kd_57 ?_
  refine rt hG z_J_fill 57 2 25 [.ref 59, .int (0 : Int32)] [] (by decide +kernel) mk_J_fill lk_7_57 rfl ⟨rfl, Nat.le_of_ble_eq_true rfl⟩ (c_J_fill (d := d) h10 59 (0 : Int32) (ok_bind hO)) ?_
  rintro _ h11 ⟨rfl, hO⟩
  refine rb hG 6 28 33 [.aload 0, .invokeinterface 702 3, .ldc_w 0] [0] [] [(0, .ref 57), (1, .ref x1)] [.int (0 : Int32), .ref 60] h11 [kd 57 = 7] (by decide +kernel) rfl kd_57 ?_
  refine rt hG z_J_fill 57 2 33 [.ref 60, .int (0 : Int32)] [] (by decide +kernel) mk_J_fill lk_7_57 rfl ⟨rfl, Nat.le_of_ble_eq_true rfl⟩ (c_J_fill (d := d) h11 60 (0 : Int32) (ok_bind hO)) ?_
  rintro _ h12 ⟨rfl, hO⟩
  refine rb hG 6 36 41 [.aload 0, .invokeinterface 703 4, .ldc_w 0] [0] [] [(0, .ref 57), (1, .ref x1)] [.int (0 : Int32), .ref 61] h12 [kd 57 = 7] (by decide +kernel) rfl kd_57 ?_
  refine rt hG z_J_fill 57 2 41 [.ref 61, .int (0 : Int32)] [] (by decide +kernel) mk_J_fill lk_7_57 rfl ⟨rfl, Nat.le_of_ble_eq_true rfl⟩ (c_J_fill (d := d) h12 61 (0 : Int32) (ok_bind hO)) ?_
  rintro _ h13 ⟨rfl, hO⟩
  refine rb hG 6 44 49 [.aload 0, .invokeinterface 704 5, .ldc_w 0] [0] [] [(0, .ref 57), (1, .ref x1)] [.int (0 : Int32), .ref 62] h13 [kd 57 = 7] (by decide +kernel) rfl kd_57 ?_
  refine rt hG z_J_fill 57 2 49 [.ref 62, .int (0 : Int32)] [] (by decide +kernel) mk_J_fill lk_7_57 rfl ⟨rfl, Nat.le_of_ble_eq_true rfl⟩ (c_J_fill (d := d) h13 62 (0 : Int32) (ok_bind hO)) ?_
  rintro _ h14 ⟨rfl, hO⟩
  refine rb hG 5 52 54 [.ldc_w 0, .istore 2] [0] [] [(2, .int (0 : Int32)), (0, .ref 57), (1, .ref x1)] [] h14 [] (by decide +kernel) rfl trivial ?_
  refine rs hG [(0, .ref 57), (2, .int (0 : Int32))] [1, 0] rfl ?_
  exact l54 (0 : Int32) h14 hO
/-! GrainInn.State.benchAt(I)LGrainInn$Bench; -/
noncomputable def S_benchAt_j30 (s0 : Nat) (h : Hp) : Option Nat := some s0
noncomputable def S_benchAt_j29 (h : Hp) : Option Nat := (S_benchAt_j30 0 h)
noncomputable def S_benchAt (h : Hp) (x1 : Int32) : Option Nat := if kd (Int32.toNatClampNeg (h.1 57 6)) = 1 then ((H_hasTable h (Int32.toNatClampNeg (h.1 57 6)) x1).bind fun r2 => if r2 = 0 then ((S_benchAt_j29 h)) else (if (Int32.ofNat (ln 58)) ≤ x1 then ((S_benchAt_j29 h)) else (if inb x1 (ln 58) then ((S_benchAt_j30 (el 58 (Int32.toNatClampNeg x1)) h)) else none))) else none
set_option maxRecDepth 100000 in
set_option maxHeartbeats 4000000 in
theorem c_S_benchAt {E : En} {d : Nat} (h : Hp) (x1 : Int32) {P : Nat → Prop} (hO : Okk (S_benchAt h x1) P) : Cn E (d + 2) z_S_benchAt [.ref 57, .int x1] h (RRp h P) := by
  refine cn_of (on := 7) (d := d + 1) ⟨rfl, by decide +kernel, Nat.le_of_ble_eq_true rfl⟩ (fun G hG => ?_)
  unfold S_benchAt at hO
  show G 0 [(0, .ref 57), (1, .int x1)] [] h
  have j30 : ∀ (s0 : Nat), Okk (S_benchAt_j30 s0 h) P → G 30 [] [.ref s0] h := by
    intro s0 hO
    unfold S_benchAt_j30 at hO
    exact eR hG 30 (by decide +kernel) rfl ⟨s0, rfl, rfl, ok_some (Q := P) hO⟩
  have j29 : Okk (S_benchAt_j29 h) P → G 29 [] [] h := by
    intro hO
    unfold S_benchAt_j29 at hO
    refine rb hG 4 29 30 [.aconst_null] [] [] [] [.ref 0] h [] (by decide +kernel) rfl trivial ?_
    exact j30 0 hO
  obtain ⟨g1, hO⟩ := ok_if hO
  refine rb hG 6 0 5 [.aload 0, .instanceof 706, .iload 1] [] [] [(0, .ref 57), (1, .int x1)] [.int x1, .ref (Int32.toNatClampNeg (h.1 57 6))] h [kd 57 = 7] (by decide +kernel) rfl kd_57 ?_
  refine rv hG z_H_hasTable 66 1 5 (Int32.toNatClampNeg (h.1 57 6)) [.int x1] [] (by decide +kernel) mk_H_hasTable lk_7_66 (rcv_H g1) rfl ⟨rfl, Nat.le_of_ble_eq_true rfl⟩ (c_H_hasTable (d := d) h (Int32.toNatClampNeg (h.1 57 6)) x1 (ok_bind hO)) ?_
  rintro _ _ ⟨r2, rfl, rfl, hO⟩
  refine ri hG .eq (21) 29 8 (by decide +kernel) (by decide) (fun c3 => ?_) (fun c3 => ?_)
  · have hO := ok_pos c3 hO
    refine rs hG [] [] rfl ?_
    exact j29 hO
  · have hO := ok_neg c3 hO
    refine rb hG 7 11 17 [.iload 1, .aload 0, .invokeinterface 700 1, .arraylength] [] [] [(0, .ref 57), (1, .int x1)] [.int (Int32.ofNat (ln 58)), .int x1] h [kd 57 = 7, 20 ≤ kd 58 ∧ kd 58 < 27] (by decide +kernel) rfl ⟨kd_57, (show 20 ≤ kd 58 ∧ kd 58 < 27 by decide +kernel)⟩ ?_
    refine rj hG .ge (12) 29 17 (by decide +kernel) (by decide) (fun c4 => ?_) (fun c4 => ?_)
    · have hO := ok_pos c4 hO
      refine rs hG [] [] rfl ?_
      exact j29 hO
    · have hO := ok_neg c4 hO
      obtain ⟨g5, hO⟩ := ok_if hO
      refine rb hG 8 20 30 [.aload 0, .invokeinterface 700 1, .iload 1, .aaload] [] [] [(0, .ref 57), (1, .int x1)] [.ref (el 58 (Int32.toNatClampNeg x1))] h [kd 57 = 7, (kd 58 = 23 ∨ kd 58 = 24 ∨ kd 58 = 25 ∨ kd 58 = 26) ∧ inb x1 (ln 58)] (by decide +kernel) rfl ⟨kd_57, ⟨Or.inr (Or.inr (Or.inl kd_58)), g5⟩⟩ ?_
      refine rs hG [] [] rfl ?_
      exact j30 (el 58 (Int32.toNatClampNeg x1)) hO
/-! GrainInn.State.seated()I -/
noncomputable def S_seated_j31 (x1 : Int32) (h : Hp) : Option Int32 := some x1
noncomputable def S_seated_b4 (x1 : Int32) (x2 : Int32) (h : Hp) : Option ((Int32 × Int32) ⊕ Int32) := if (Int32.ofNat (ln 58)) ≤ x2 then (((S_seated_j31 x1 h).map Sum.inr)) else (if inb x2 (ln 58) then (if kd (el 58 (Int32.toNatClampNeg x2)) = 0 then (bnd ((x1 ||| (h.1 (el 58 (Int32.toNatClampNeg x2)) 5))) fun y4 => bnd ((x2 + (1 : Int32))) fun y5 => some (.inl (y4, y5))) else none) else none)
noncomputable def S_seated_l4 (x1 : Int32) (x2 : Int32) (h : Hp) : Option Int32 := lp (fun s : (Int32 × Int32) => S_seated_b4 s.1 s.2 h) (x1, x2)
theorem S_seated_l4_eq (x1 : Int32) (x2 : Int32) (h : Hp) : S_seated_l4 x1 x2 h = (S_seated_b4 x1 x2 h).bind (Sum.elim (fun q : (Int32 × Int32) => S_seated_l4 q.1 q.2 h) some) := lp_eq _ _
noncomputable def S_seated (h : Hp) : Option Int32 := (S_seated_l4 (0 : Int32) (0 : Int32) h)
set_option maxRecDepth 100000 in
set_option maxHeartbeats 4000000 in
theorem c_S_seated {E : En} {d : Nat} (h : Hp) {P : Int32 → Prop} (hO : Okk (S_seated h) P) : Cn E (d + 1) z_S_seated [.ref 57] h (RIp h P) := by
  refine cn_of (on := 7) (d := d + 0) ⟨rfl, by decide +kernel, Nat.le_of_ble_eq_true rfl⟩ (fun G hG => ?_)
  unfold S_seated at hO
  show G 0 [(0, .ref 57)] [] h
  have j31 : ∀ (x1 : Int32), Okk (S_seated_j31 x1 h) P → G 31 [(1, .int x1)] [] h := by
    intro x1 hO
    unfold S_seated_j31 at hO
    refine rb hG 4 31 32 [.iload 1] [] [] [(1, .int x1)] [.int x1] h [] (by decide +kernel) rfl trivial ?_
    exact eI hG 32 (by decide +kernel) rfl ⟨x1, rfl, rfl, ok_some (Q := P) hO⟩
  have l4 : ∀ (x1 : Int32) (x2 : Int32), Okk (S_seated_l4 x1 x2 h) P → G 4 [(0, .ref 57), (1, .int x1), (2, .int x2)] [] h := by
    intro x1 x2 hO
    obtain ⟨H4, eH4⟩ : ∃ q : (Int32 × Int32) → Prop, q = fun s => G 4 [(0, .ref 57), (1, .int (s.1)), (2, .int (s.2))] [] (h) := ⟨_, rfl⟩
    have w9 : H4 (x1, x2) := by
      refine lp_wp (f := fun s : (Int32 × Int32) => S_seated_b4 s.1 s.2 h) (H := H4) (Q := P) ?_ (x1, x2) hO
      rintro ⟨x1, x2⟩ hO
      rw [eH4]
      show G 4 [(0, .ref 57), (1, .int x1), (2, .int x2)] [] h
      have k4 : ∀ s : (Int32 × Int32), H4 s → G 4 [(0, .ref 57), (1, .int (s.1)), (2, .int (s.2))] [] (h) := fun s q => by rw [eH4] at q; exact q
      replace hO : Okk (S_seated_b4 x1 x2 h) (Sum.elim H4 P) := hO
      clear eH4
      unfold S_seated_b4 at hO
      refine rb hG 7 4 10 [.iload 2, .aload 0, .invokeinterface 700 1, .arraylength] [] [] [(0, .ref 57), (1, .int x1), (2, .int x2)] [.int (Int32.ofNat (ln 58)), .int x2] h [kd 57 = 7, 20 ≤ kd 58 ∧ kd 58 < 27] (by decide +kernel) rfl ⟨kd_57, (show 20 ≤ kd 58 ∧ kd 58 < 27 by decide +kernel)⟩ ?_
      refine rj hG .ge (21) 31 10 (by decide +kernel) (by decide) (fun c1 => ?_) (fun c1 => ?_)
      · have hO := ok_pos c1 hO
        refine rs hG [(1, .int x1)] [1] rfl ?_
        exact j31 x1 (ok_inr hO)
      · have hO := ok_neg c1 hO
        obtain ⟨g2, hO⟩ := ok_if hO
        obtain ⟨g3, hO⟩ := ok_if hO
        refine rbx hG 11 13 25 [.iload 1, .aload 0, .invokeinterface 700 1, .iload 2, .aaload, .getfield 5, .ior, .istore 1] [] [] ((x1 ||| (h.1 (el 58 (Int32.toNatClampNeg x2)) 5))) (fun y4 => [(1, .int y4), (0, .ref 57), (2, .int x2)]) (fun y4 => []) (fun y4 => h) [kd 57 = 7, (kd 58 = 23 ∨ kd 58 = 24 ∨ kd 58 = 25 ∨ kd 58 = 26) ∧ inb x2 (ln 58), kd (el 58 (Int32.toNatClampNeg x2)) = 0] (by decide +kernel) rfl ⟨kd_57, ⟨Or.inr (Or.inr (Or.inl kd_58)), g2⟩, g3⟩ hO (fun y4 hO => ?_)
        refine rbx hG 4 25 28 [.iinc 2 0] [1] [] ((x2 + (1 : Int32))) (fun y5 => [(2, .int y5), (1, .int y4), (0, .ref 57)]) (fun y5 => []) (fun y5 => h) [] (by decide +kernel) rfl trivial hO (fun y5 hO => ?_)
        refine rb hG 4 28 4 [] [] [] [(2, .int y5), (1, .int y4), (0, .ref 57)] [] h [] (by decide +kernel) rfl trivial ?_
        refine rs hG [(0, .ref 57), (1, .int y4), (2, .int y5)] [2, 1, 0] rfl ?_
        exact k4 (y4, y5) (ok_some (Q := (Sum.elim H4 P)) hO)
    rw [eH4] at w9
    exact w9
  refine rb hG 7 0 4 [.ldc_w 0, .istore 1, .ldc_w 0, .istore 2] [0] [] [(2, .int (0 : Int32)), (1, .int (0 : Int32)), (0, .ref 57)] [] h [] (by decide +kernel) rfl trivial ?_
  refine rs hG [(0, .ref 57), (1, .int (0 : Int32)), (2, .int (0 : Int32))] [2, 1, 0] rfl ?_
  exact l4 (0 : Int32) (0 : Int32) hO
/-! java/lang/Integer.bitCount(I)I -/
noncomputable def J_bitCount (x0 : Int32) : Option Int32 := bnd ((x0 - ((us x0 (1 : Int32)) &&& (1431655765 : Int32)))) fun y1 => bnd (((y1 &&& (858993459 : Int32)) + ((us y1 (2 : Int32)) &&& (858993459 : Int32)))) fun y2 => bnd (((y2 + (us y2 (4 : Int32))) &&& (252645135 : Int32))) fun y3 => bnd ((y3 + (us y3 (8 : Int32)))) fun y4 => bnd ((y4 + (us y4 (16 : Int32)))) fun y5 => some (y5 &&& (63 : Int32))
set_option maxRecDepth 100000 in
set_option maxHeartbeats 4000000 in
theorem c_J_bitCount {E : En} {d : Nat} (h : Hp) (x0 : Int32) {P : Int32 → Prop} (hO : Okk (J_bitCount x0) P) : Cn E (d + 1) z_J_bitCount [.int x0] h (RIp h P) := by
  refine cn_of (on := 14) (d := d + 0) ⟨rfl, by decide +kernel, Nat.le_of_ble_eq_true rfl⟩ (fun G hG => ?_)
  unfold J_bitCount at hO
  show G 0 [(0, .int x0)] [] h
  refine rbx hG 11 0 10 [.iload 0, .iload 0, .ldc_w 0, .iushr, .ldc_w 1, .iand, .isub, .istore 0] [1, 1431655765] [] ((x0 - ((us x0 (1 : Int32)) &&& (1431655765 : Int32)))) (fun y1 => [(0, .int y1)]) (fun y1 => []) (fun y1 => h) [] (by decide +kernel) rfl trivial hO (fun y1 hO => ?_)
  refine rbx hG 13 10 24 [.iload 0, .ldc_w 0, .iand, .iload 0, .ldc_w 1, .iushr, .ldc_w 0, .iand, .iadd, .istore 0] [858993459, 2] [] (((y1 &&& (858993459 : Int32)) + ((us y1 (2 : Int32)) &&& (858993459 : Int32)))) (fun y2 => [(0, .int y2)]) (fun y2 => []) (fun y2 => h) [] (by decide +kernel) rfl trivial hO (fun y2 hO => ?_)
  refine rbx hG 11 24 34 [.iload 0, .iload 0, .ldc_w 0, .iushr, .iadd, .ldc_w 1, .iand, .istore 0] [4, 252645135] [] (((y2 + (us y2 (4 : Int32))) &&& (252645135 : Int32))) (fun y3 => [(0, .int y3)]) (fun y3 => []) (fun y3 => h) [] (by decide +kernel) rfl trivial hO (fun y3 hO => ?_)
  refine rbx hG 9 34 41 [.iload 0, .iload 0, .ldc_w 0, .iushr, .iadd, .istore 0] [8] [] ((y3 + (us y3 (8 : Int32)))) (fun y4 => [(0, .int y4)]) (fun y4 => []) (fun y4 => h) [] (by decide +kernel) rfl trivial hO (fun y4 hO => ?_)
  refine rbx hG 9 41 48 [.iload 0, .iload 0, .ldc_w 0, .iushr, .iadd, .istore 0] [16] [] ((y4 + (us y4 (16 : Int32)))) (fun y5 => [(0, .int y5)]) (fun y5 => []) (fun y5 => h) [] (by decide +kernel) rfl trivial hO (fun y5 hO => ?_)
  refine rb hG 6 48 52 [.iload 0, .ldc_w 0, .iand] [63] [] [(0, .int y5)] [.int (y5 &&& (63 : Int32))] h [] (by decide +kernel) rfl trivial ?_
  exact eI hG 52 (by decide +kernel) rfl ⟨(y5 &&& (63 : Int32)), rfl, rfl, ok_some (Q := P) hO⟩
/-! GrainInn.Bench.guestsOf(I)I -/
noncomputable def B_guestsOf_j22 (x0 : Nat) (s0 : Int32) (h : Hp) : Option Int32 := some s0
noncomputable def B_guestsOf_j21 (x0 : Nat) (h : Hp) : Option Int32 := (B_guestsOf_j22 x0 (0 : Int32) h)
noncomputable def B_guestsOf (h : Hp) (x0 : Nat) (x1 : Int32) : Option Int32 := if kd x0 = 0 then (if x1 < 0 then ((B_guestsOf_j21 x0 h)) else (if (h.1 x0 3) ≤ x1 then ((B_guestsOf_j21 x0 h)) else (if kd (x0 + 1) = 20 ∧ inb x1 (ln (x0 + 1)) then ((B_guestsOf_j22 x0 (h.1 (x0 + 1) (Int32.toNatClampNeg x1)) h)) else none))) else none
set_option maxRecDepth 100000 in
set_option maxHeartbeats 4000000 in
theorem c_B_guestsOf {E : En} {d : Nat} (h : Hp) (x0 : Nat) (x1 : Int32) {P : Int32 → Prop} (hO : Okk (B_guestsOf h x0 x1) P) : Cn E (d + 1) z_B_guestsOf [.ref x0, .int x1] h (RIp h P) := by
  refine cn_of (on := 0) (d := d + 0) ⟨rfl, by decide +kernel, Nat.le_of_ble_eq_true rfl⟩ (fun G hG => ?_)
  unfold B_guestsOf at hO
  show G 0 [(0, .ref x0), (1, .int x1)] [] h
  obtain ⟨g0, hO⟩ := ok_if hO
  have j22 : ∀ (s0 : Int32), Okk (B_guestsOf_j22 x0 s0 h) P → G 22 [] [.int s0] h := by
    intro s0 hO
    unfold B_guestsOf_j22 at hO
    exact eI hG 22 (by decide +kernel) rfl ⟨s0, rfl, rfl, ok_some (Q := P) hO⟩
  have j21 : Okk (B_guestsOf_j21 x0 h) P → G 21 [] [] h := by
    intro hO
    unfold B_guestsOf_j21 at hO
    refine rb hG 4 21 22 [.ldc_w 0] [0] [] [] [.int (0 : Int32)] h [] (by decide +kernel) rfl trivial ?_
    exact j22 (0 : Int32) hO
  refine rb hG 4 0 1 [.iload 1] [] [] [(0, .ref x0), (1, .int x1)] [.int x1] h [] (by decide +kernel) rfl trivial ?_
  refine ri hG .lt (20) 21 1 (by decide +kernel) (by decide) (fun c1 => ?_) (fun c1 => ?_)
  · have hO := ok_pos c1 hO
    refine rs hG [] [] rfl ?_
    exact j21 hO
  · have hO := ok_neg c1 hO
    refine rb hG 6 4 9 [.iload 1, .aload 0, .getfield 3] [] [] [(0, .ref x0), (1, .int x1)] [.int (h.1 x0 3), .int x1] h [kd x0 = 0] (by decide +kernel) rfl g0 ?_
    refine rj hG .ge (12) 21 9 (by decide +kernel) (by decide) (fun c2 => ?_) (fun c2 => ?_)
    · have hO := ok_pos c2 hO
      refine rs hG [] [] rfl ?_
      exact j21 hO
    · have hO := ok_neg c2 hO
      obtain ⟨g3, hO⟩ := ok_if hO
      refine rb hG 8 12 22 [.aload 0, .invokeinterface 0 1, .iload 1, .iaload] [] [] [(0, .ref x0), (1, .int x1)] [.int (h.1 (x0 + 1) (Int32.toNatClampNeg x1))] h [kd x0 = 0, kd (x0 + 1) = 20 ∧ inb x1 (ln (x0 + 1))] (by decide +kernel) rfl ⟨g0, g3⟩ ?_
      refine rs hG [] [] rfl ?_
      exact j22 (h.1 (x0 + 1) (Int32.toNatClampNeg x1)) hO
/-! GrainInn.Bench.wordsOf(I)I -/
noncomputable def B_wordsOf_j22 (x0 : Nat) (s0 : Int32) (h : Hp) : Option Int32 := some s0
noncomputable def B_wordsOf_j21 (x0 : Nat) (h : Hp) : Option Int32 := (B_wordsOf_j22 x0 (0 : Int32) h)
noncomputable def B_wordsOf (h : Hp) (x0 : Nat) (x1 : Int32) : Option Int32 := if kd x0 = 0 then (if x1 < 0 then ((B_wordsOf_j21 x0 h)) else (if (h.1 x0 3) ≤ x1 then ((B_wordsOf_j21 x0 h)) else (if kd (x0 + 2) = 20 ∧ inb x1 (ln (x0 + 2)) then ((B_wordsOf_j22 x0 (h.1 (x0 + 2) (Int32.toNatClampNeg x1)) h)) else none))) else none
set_option maxRecDepth 100000 in
set_option maxHeartbeats 4000000 in
theorem c_B_wordsOf {E : En} {d : Nat} (h : Hp) (x0 : Nat) (x1 : Int32) {P : Int32 → Prop} (hO : Okk (B_wordsOf h x0 x1) P) : Cn E (d + 1) z_B_wordsOf [.ref x0, .int x1] h (RIp h P) := by
  refine cn_of (on := 0) (d := d + 0) ⟨rfl, by decide +kernel, Nat.le_of_ble_eq_true rfl⟩ (fun G hG => ?_)
  unfold B_wordsOf at hO
  show G 0 [(0, .ref x0), (1, .int x1)] [] h
  obtain ⟨g0, hO⟩ := ok_if hO
  have j22 : ∀ (s0 : Int32), Okk (B_wordsOf_j22 x0 s0 h) P → G 22 [] [.int s0] h := by
    intro s0 hO
    unfold B_wordsOf_j22 at hO
    exact eI hG 22 (by decide +kernel) rfl ⟨s0, rfl, rfl, ok_some (Q := P) hO⟩
  have j21 : Okk (B_wordsOf_j21 x0 h) P → G 21 [] [] h := by
    intro hO
    unfold B_wordsOf_j21 at hO
    refine rb hG 4 21 22 [.ldc_w 0] [0] [] [] [.int (0 : Int32)] h [] (by decide +kernel) rfl trivial ?_
    exact j22 (0 : Int32) hO
  refine rb hG 4 0 1 [.iload 1] [] [] [(0, .ref x0), (1, .int x1)] [.int x1] h [] (by decide +kernel) rfl trivial ?_
  refine ri hG .lt (20) 21 1 (by decide +kernel) (by decide) (fun c1 => ?_) (fun c1 => ?_)
  · have hO := ok_pos c1 hO
    refine rs hG [] [] rfl ?_
    exact j21 hO
  · have hO := ok_neg c1 hO
    refine rb hG 6 4 9 [.iload 1, .aload 0, .getfield 3] [] [] [(0, .ref x0), (1, .int x1)] [.int (h.1 x0 3), .int x1] h [kd x0 = 0] (by decide +kernel) rfl g0 ?_
    refine rj hG .ge (12) 21 9 (by decide +kernel) (by decide) (fun c2 => ?_) (fun c2 => ?_)
    · have hO := ok_pos c2 hO
      refine rs hG [] [] rfl ?_
      exact j21 hO
    · have hO := ok_neg c2 hO
      obtain ⟨g3, hO⟩ := ok_if hO
      refine rb hG 8 12 22 [.aload 0, .invokeinterface 1 2, .iload 1, .iaload] [] [] [(0, .ref x0), (1, .int x1)] [.int (h.1 (x0 + 2) (Int32.toNatClampNeg x1))] h [kd x0 = 0, kd (x0 + 2) = 20 ∧ inb x1 (ln (x0 + 2))] (by decide +kernel) rfl ⟨g0, g3⟩ ?_
      refine rs hG [] [] rfl ?_
      exact j22 (h.1 (x0 + 2) (Int32.toNatClampNeg x1)) hO
/-! GrainInn.House.couplesOf([III)I -/
noncomputable def H_couplesOf_j39 (x0 : Nat) (x3 : Int32) (h : Hp) : Option Int32 := some x3
noncomputable def H_couplesOf_j33 (x0 : Nat) (x1 : Int32) (x2 : Int32) (x3 : Int32) (x4 : Int32) (h : Hp) : Option ((Int32 × Int32) ⊕ Int32) := bnd ((x4 + (1 : Int32))) fun y1 => some (.inl (x3, y1))
noncomputable def H_couplesOf_b5 (x0 : Nat) (x1 : Int32) (x2 : Int32) (x3 : Int32) (x4 : Int32) (h : Hp) : Option ((Int32 × Int32) ⊕ Int32) := if 20 ≤ kd x0 ∧ kd x0 < 27 then (if (Int32.ofNat (ln x0)) ≤ x4 then (((H_couplesOf_j39 x0 x3 h).map Sum.inr)) else (if ((sr x1 x4) &&& (1 : Int32)) = 0 then ((H_couplesOf_j33 x0 x1 x2 x3 x4 h)) else (if kd x0 = 20 ∧ inb x4 (ln x0) then ((J_bitCount ((h.1 x0 (Int32.toNatClampNeg x4)) &&& x2)).bind fun r6 => bnd ((x3 + r6)) fun y7 => (H_couplesOf_j33 x0 x1 x2 y7 x4 h)) else none))) else none
noncomputable def H_couplesOf_l5 (x0 : Nat) (x1 : Int32) (x2 : Int32) (x3 : Int32) (x4 : Int32) (h : Hp) : Option Int32 := lp (fun s : (Int32 × Int32) => H_couplesOf_b5 x0 x1 x2 s.1 s.2 h) (x3, x4)
theorem H_couplesOf_l5_eq (x0 : Nat) (x1 : Int32) (x2 : Int32) (x3 : Int32) (x4 : Int32) (h : Hp) : H_couplesOf_l5 x0 x1 x2 x3 x4 h = (H_couplesOf_b5 x0 x1 x2 x3 x4 h).bind (Sum.elim (fun q : (Int32 × Int32) => H_couplesOf_l5 x0 x1 x2 q.1 q.2 h) some) := lp_eq _ _
noncomputable def H_couplesOf (h : Hp) (x0 : Nat) (x1 : Int32) (x2 : Int32) : Option Int32 := (H_couplesOf_l5 x0 x1 x2 (0 : Int32) (0 : Int32) h)
set_option maxRecDepth 100000 in
set_option maxHeartbeats 4000000 in
theorem c_H_couplesOf {E : En} {d : Nat} (h : Hp) (x0 : Nat) (x1 : Int32) (x2 : Int32) {P : Int32 → Prop} (hO : Okk (H_couplesOf h x0 x1 x2) P) : Cn E (d + 2) z_H_couplesOf [.ref x0, .int x1, .int x2] h (RIp h P) := by
  refine cn_of (on := 1) (d := d + 1) ⟨rfl, by decide +kernel, Nat.le_of_ble_eq_true rfl⟩ (fun G hG => ?_)
  unfold H_couplesOf at hO
  show G 0 [(0, .ref x0), (1, .int x1), (2, .int x2)] [] h
  have j39 : ∀ (x3 : Int32), Okk (H_couplesOf_j39 x0 x3 h) P → G 39 [(3, .int x3)] [] h := by
    intro x3 hO
    unfold H_couplesOf_j39 at hO
    refine rb hG 4 39 40 [.iload 3] [] [] [(3, .int x3)] [.int x3] h [] (by decide +kernel) rfl trivial ?_
    exact eI hG 40 (by decide +kernel) rfl ⟨x3, rfl, rfl, ok_some (Q := P) hO⟩
  have l5 : ∀ (x3 : Int32) (x4 : Int32), Okk (H_couplesOf_l5 x0 x1 x2 x3 x4 h) P → G 5 [(0, .ref x0), (1, .int x1), (2, .int x2), (3, .int x3), (4, .int x4)] [] h := by
    intro x3 x4 hO
    obtain ⟨H5, eH5⟩ : ∃ q : (Int32 × Int32) → Prop, q = fun s => G 5 [(0, .ref x0), (1, .int x1), (2, .int x2), (3, .int (s.1)), (4, .int (s.2))] [] (h) := ⟨_, rfl⟩
    have w9 : H5 (x3, x4) := by
      refine lp_wp (f := fun s : (Int32 × Int32) => H_couplesOf_b5 x0 x1 x2 s.1 s.2 h) (H := H5) (Q := P) ?_ (x3, x4) hO
      rintro ⟨x3, x4⟩ hO
      rw [eH5]
      show G 5 [(0, .ref x0), (1, .int x1), (2, .int x2), (3, .int x3), (4, .int x4)] [] h
      have k5 : ∀ s : (Int32 × Int32), H5 s → G 5 [(0, .ref x0), (1, .int x1), (2, .int x2), (3, .int (s.1)), (4, .int (s.2))] [] (h) := fun s q => by rw [eH5] at q; exact q
      replace hO : Okk (H_couplesOf_b5 x0 x1 x2 x3 x4 h) (Sum.elim H5 P) := hO
      clear eH5
      have j33 : ∀ (x3 : Int32) (x4 : Int32), Okk (H_couplesOf_j33 x0 x1 x2 x3 x4 h) (Sum.elim H5 P) → G 33 [(0, .ref x0), (1, .int x1), (2, .int x2), (3, .int x3), (4, .int x4)] [] h := by
        intro x3 x4 hO
        unfold H_couplesOf_j33 at hO
        refine rbx hG 4 33 36 [.iinc 4 0] [1] [] ((x4 + (1 : Int32))) (fun y1 => [(4, .int y1), (0, .ref x0), (1, .int x1), (2, .int x2), (3, .int x3)]) (fun y1 => []) (fun y1 => h) [] (by decide +kernel) rfl trivial hO (fun y1 hO => ?_)
        refine rb hG 4 36 5 [] [] [] [(4, .int y1), (0, .ref x0), (1, .int x1), (2, .int x2), (3, .int x3)] [] h [] (by decide +kernel) rfl trivial ?_
        refine rs hG [(0, .ref x0), (1, .int x1), (2, .int x2), (3, .int x3), (4, .int y1)] [1, 2, 3, 4, 0] rfl ?_
        exact k5 (x3, y1) (ok_some (Q := (Sum.elim H5 P)) hO)
      unfold H_couplesOf_b5 at hO
      obtain ⟨g2, hO⟩ := ok_if hO
      refine rb hG 6 5 9 [.iload 4, .aload 0, .arraylength] [] [] [(0, .ref x0), (1, .int x1), (2, .int x2), (3, .int x3), (4, .int x4)] [.int (Int32.ofNat (ln x0)), .int x4] h [20 ≤ kd x0 ∧ kd x0 < 27] (by decide +kernel) rfl g2 ?_
      refine rj hG .ge (30) 39 9 (by decide +kernel) (by decide) (fun c3 => ?_) (fun c3 => ?_)
      · have hO := ok_pos c3 hO
        refine rs hG [(3, .int x3)] [3] rfl ?_
        exact j39 x3 (ok_inr hO)
      · have hO := ok_neg c3 hO
        refine rb hG 8 12 18 [.iload 1, .iload 4, .ishr, .ldc_w 0, .iand] [1] [] [(0, .ref x0), (1, .int x1), (2, .int x2), (3, .int x3), (4, .int x4)] [.int ((sr x1 x4) &&& (1 : Int32))] h [] (by decide +kernel) rfl trivial ?_
        refine ri hG .eq (15) 33 18 (by decide +kernel) (by decide) (fun c4 => ?_) (fun c4 => ?_)
        · have hO := ok_pos c4 hO
          exact j33 x3 x4 hO
        · have hO := ok_neg c4 hO
          obtain ⟨g5, hO⟩ := ok_if hO
          refine rb hG 9 21 28 [.iload 3, .aload 0, .iload 4, .iaload, .iload 2, .iand] [] [] [(0, .ref x0), (1, .int x1), (2, .int x2), (3, .int x3), (4, .int x4)] [.int ((h.1 x0 (Int32.toNatClampNeg x4)) &&& x2), .int x3] h [kd x0 = 20 ∧ inb x4 (ln x0)] (by decide +kernel) rfl g5 ?_
          refine rt hG z_J_bitCount 61 1 28 [.int ((h.1 x0 (Int32.toNatClampNeg x4)) &&& x2)] [.int x3] (by decide +kernel) mk_J_bitCount lk_1_61 rfl ⟨rfl, Nat.le_of_ble_eq_true rfl⟩ (c_J_bitCount (d := d) h ((h.1 x0 (Int32.toNatClampNeg x4)) &&& x2) (ok_bind hO)) ?_
          rintro _ _ ⟨r6, rfl, rfl, hO⟩
          refine rbx hG 5 31 33 [.iadd, .istore 3] [] [] ((x3 + r6)) (fun y7 => [(3, .int y7), (0, .ref x0), (1, .int x1), (2, .int x2), (4, .int x4)]) (fun y7 => []) (fun y7 => h) [] (by decide +kernel) rfl trivial hO (fun y7 hO => ?_)
          refine rs hG [(0, .ref x0), (1, .int x1), (2, .int x2), (3, .int y7), (4, .int x4)] [1, 2, 3, 0, 4] rfl ?_
          exact j33 y7 x4 hO
    rw [eH5] at w9
    exact w9
  refine rb hG 7 0 5 [.ldc_w 0, .istore 3, .ldc_w 0, .istore 4] [0] [] [(4, .int (0 : Int32)), (3, .int (0 : Int32)), (0, .ref x0), (1, .int x1), (2, .int x2)] [] h [] (by decide +kernel) rfl trivial ?_
  refine rs hG [(0, .ref x0), (1, .int x1), (2, .int x2), (3, .int (0 : Int32)), (4, .int (0 : Int32))] [2, 3, 4, 1, 0] rfl ?_
  exact l5 (0 : Int32) (0 : Int32) hO
/-! GrainInn.House.strifeOf(II)I -/
noncomputable def H_strifeOf (h : Hp) (x0 : Nat) (x1 : Int32) (x2 : Int32) : Option Int32 := if kd x0 = 1 then ((H_couplesOf h (x0 + 4) x1 x2).bind fun r1 => some r1) else none
set_option maxRecDepth 100000 in
set_option maxHeartbeats 4000000 in
theorem c_H_strifeOf {E : En} {d : Nat} (h : Hp) (x0 : Nat) (x1 : Int32) (x2 : Int32) {P : Int32 → Prop} (hO : Okk (H_strifeOf h x0 x1 x2) P) : Cn E (d + 3) z_H_strifeOf [.ref x0, .int x1, .int x2] h (RIp h P) := by
  refine cn_of (on := 1) (d := d + 2) ⟨rfl, by decide +kernel, Nat.le_of_ble_eq_true rfl⟩ (fun G hG => ?_)
  unfold H_strifeOf at hO
  show G 0 [(0, .ref x0), (1, .int x1), (2, .int x2)] [] h
  obtain ⟨g0, hO⟩ := ok_if hO
  refine rb hG 7 0 6 [.aload 0, .invokeinterface 103 4, .iload 1, .iload 2] [] [] [(0, .ref x0), (1, .int x1), (2, .int x2)] [.int x2, .int x1, .ref (x0 + 4)] h [kd x0 = 1] (by decide +kernel) rfl g0 ?_
  refine rt hG z_H_couplesOf 57 3 6 [.ref (x0 + 4), .int x1, .int x2] [] (by decide +kernel) mk_H_couplesOf lk_1_57 rfl ⟨rfl, Nat.le_of_ble_eq_true rfl⟩ (c_H_couplesOf (d := d) h (x0 + 4) x1 x2 (ok_bind hO)) ?_
  rintro _ _ ⟨r1, rfl, rfl, hO⟩
  exact eI hG 9 (by decide +kernel) rfl ⟨r1, rfl, rfl, ok_some (Q := P) hO⟩
/-! GrainInn.House.joyOf(II)I -/
noncomputable def H_joyOf (h : Hp) (x0 : Nat) (x1 : Int32) (x2 : Int32) : Option Int32 := if kd x0 = 1 then ((H_couplesOf h (x0 + 5) x1 x2).bind fun r1 => some r1) else none
set_option maxRecDepth 100000 in
set_option maxHeartbeats 4000000 in
theorem c_H_joyOf {E : En} {d : Nat} (h : Hp) (x0 : Nat) (x1 : Int32) (x2 : Int32) {P : Int32 → Prop} (hO : Okk (H_joyOf h x0 x1 x2) P) : Cn E (d + 3) z_H_joyOf [.ref x0, .int x1, .int x2] h (RIp h P) := by
  refine cn_of (on := 1) (d := d + 2) ⟨rfl, by decide +kernel, Nat.le_of_ble_eq_true rfl⟩ (fun G hG => ?_)
  unfold H_joyOf at hO
  show G 0 [(0, .ref x0), (1, .int x1), (2, .int x2)] [] h
  obtain ⟨g0, hO⟩ := ok_if hO
  refine rb hG 7 0 6 [.aload 0, .invokeinterface 104 5, .iload 1, .iload 2] [] [] [(0, .ref x0), (1, .int x1), (2, .int x2)] [.int x2, .int x1, .ref (x0 + 5)] h [kd x0 = 1] (by decide +kernel) rfl g0 ?_
  refine rt hG z_H_couplesOf 57 3 6 [.ref (x0 + 5), .int x1, .int x2] [] (by decide +kernel) mk_H_couplesOf lk_1_57 rfl ⟨rfl, Nat.le_of_ble_eq_true rfl⟩ (c_H_couplesOf (d := d) h (x0 + 5) x1 x2 (ok_bind hO)) ?_
  rintro _ _ ⟨r1, rfl, rfl, hO⟩
  exact eI hG 9 (by decide +kernel) rfl ⟨r1, rfl, rfl, ok_some (Q := P) hO⟩
/-! GrainInn.State.payAll(III)V -/
noncomputable def S_payAll_j124 (h : Hp) : Option Hp := some h
noncomputable def S_payAll_j118 (x2 : Int32) (x3 : Int32) (x4 : Int32) (x5 : Int32) (h : Hp) : Option ((Int32 × Hp) ⊕ Hp) := bnd ((x5 + (1 : Int32))) fun y1 => some (.inl (y1, h))
noncomputable def S_payAll_j116 (x2 : Int32) (x3 : Int32) (x4 : Int32) (x5 : Int32) (s1 : Int32) (s2 : Int32) (s3 : Int32) (h : Hp) : Option ((Int32 × Hp) ⊕ Hp) := if inb s1 (ln 62) then (bnd (wr h 62 (Int32.toNatClampNeg s1) (s2 + s3)) fun h3 => (S_payAll_j118 x2 x3 x4 x5 h3)) else none
noncomputable def S_payAll_b57 (x2 : Int32) (x3 : Int32) (x4 : Int32) (x5 : Int32) (h : Hp) : Option ((Int32 × Hp) ⊕ Hp) := if (8 : Int32) ≤ x5 then (((S_payAll_j124 h).map Sum.inr)) else (if x4 = (-1 : Int32) then (((S_payAll_j124 h).map Sum.inr)) else ((K_isIn x2 x5).bind fun r6 => if r6 = 0 then ((S_payAll_j118 x2 x3 x4 x5 h)) else (if inb x4 (ln 60) then (if inb x4 (ln 60) then (bnd (wr h 60 (Int32.toNatClampNeg x4) ((h.1 60 (Int32.toNatClampNeg x4)) + x3)) fun h10 => if inb (((8 : Int32) * x4) + x5) (ln 62) then (if x5 = x4 then ((S_payAll_j116 x2 x3 x4 x5 (((8 : Int32) * x4) + x5) (h10.1 62 (Int32.toNatClampNeg (((8 : Int32) * x4) + x5))) (0 : Int32) h10)) else ((S_payAll_j116 x2 x3 x4 x5 (((8 : Int32) * x4) + x5) (h10.1 62 (Int32.toNatClampNeg (((8 : Int32) * x4) + x5))) x3 h10))) else none) else none) else none)))
noncomputable def S_payAll_l57 (x2 : Int32) (x3 : Int32) (x4 : Int32) (x5 : Int32) (h : Hp) : Option Hp := lp (fun s : (Int32 × Hp) => S_payAll_b57 x2 x3 x4 s.1 s.2) (x5, h)
theorem S_payAll_l57_eq (x2 : Int32) (x3 : Int32) (x4 : Int32) (x5 : Int32) (h : Hp) : S_payAll_l57 x2 x3 x4 x5 h = (S_payAll_b57 x2 x3 x4 x5 h).bind (Sum.elim (fun q : (Int32 × Hp) => S_payAll_l57 x2 x3 x4 q.1 q.2) some) := lp_eq _ _
noncomputable def S_payAll_j54 (x2 : Int32) (x3 : Int32) (x4 : Int32) (h : Hp) : Option Hp := (S_payAll_l57 x2 x3 x4 (0 : Int32) h)
noncomputable def S_payAll_j48 (x1 : Int32) (x2 : Int32) (x3 : Int32) (x4 : Int32) (x5 : Int32) (h : Hp) : Option ((Int32 × Int32 × Hp) ⊕ Hp) := bnd ((x5 + (1 : Int32))) fun y13 => some (.inl (x4, y13, h))
noncomputable def S_payAll_j46 (x1 : Int32) (x2 : Int32) (x3 : Int32) (x5 : Int32) (s0 : Int32) (h : Hp) : Option ((Int32 × Int32 × Hp) ⊕ Hp) := (S_payAll_j48 x1 x2 x3 s0 x5 h)
noncomputable def S_payAll_b6 (x1 : Int32) (x2 : Int32) (x3 : Int32) (x4 : Int32) (x5 : Int32) (h : Hp) : Option ((Int32 × Int32 × Hp) ⊕ Hp) := if (8 : Int32) ≤ x5 then (((S_payAll_j54 x2 x3 x4 h).map Sum.inr)) else ((K_isIn x1 x5).bind fun r15 => if r15 = 0 then ((S_payAll_j48 x1 x2 x3 x4 x5 h)) else (if inb x5 (ln 60) then (if inb x5 (ln 60) then (bnd (wr h 60 (Int32.toNatClampNeg x5) ((h.1 60 (Int32.toNatClampNeg x5)) + x3)) fun h19 => if x4 = (-1 : Int32) then ((S_payAll_j46 x1 x2 x3 x5 x5 h19)) else ((S_payAll_j46 x1 x2 x3 x5 x4 h19))) else none) else none))
noncomputable def S_payAll_l6 (x1 : Int32) (x2 : Int32) (x3 : Int32) (x4 : Int32) (x5 : Int32) (h : Hp) : Option Hp := lp (fun s : (Int32 × Int32 × Hp) => S_payAll_b6 x1 x2 x3 s.1 s.2.1 s.2.2) (x4, x5, h)
theorem S_payAll_l6_eq (x1 : Int32) (x2 : Int32) (x3 : Int32) (x4 : Int32) (x5 : Int32) (h : Hp) : S_payAll_l6 x1 x2 x3 x4 x5 h = (S_payAll_b6 x1 x2 x3 x4 x5 h).bind (Sum.elim (fun q : (Int32 × Int32 × Hp) => S_payAll_l6 x1 x2 x3 q.1 q.2.1 q.2.2) some) := lp_eq _ _
noncomputable def S_payAll (h : Hp) (x1 : Int32) (x2 : Int32) (x3 : Int32) : Option Hp := (S_payAll_l6 x1 x2 x3 (-1 : Int32) (0 : Int32) h)
set_option maxRecDepth 100000 in
set_option maxHeartbeats 4000000 in
theorem c_S_payAll {E : En} {d : Nat} (h : Hp) (x1 : Int32) (x2 : Int32) (x3 : Int32) {P : Hp → Prop} (hO : Okk (S_payAll h x1 x2 x3) P) : Cn E (d + 2) z_S_payAll [.ref 57, .int x1, .int x2, .int x3] h (RV P) := by
  refine cn_of (on := 7) (d := d + 1) ⟨rfl, by decide +kernel, Nat.le_of_ble_eq_true rfl⟩ (fun G hG => ?_)
  unfold S_payAll at hO
  show G 0 [(0, .ref 57), (1, .int x1), (2, .int x2), (3, .int x3)] [] h
  have j124 : ∀ (h : Hp), Okk (S_payAll_j124 h) P → G 124 [] [] h := by
    intro h hO
    unfold S_payAll_j124 at hO
    exact eV hG 124 (by decide +kernel) rfl ⟨rfl, ok_some (Q := P) hO⟩
  have l57 : ∀ (x4 : Int32) (x5 : Int32) (h : Hp), Okk (S_payAll_l57 x2 x3 x4 x5 h) P → G 57 [(0, .ref 57), (2, .int x2), (3, .int x3), (4, .int x4), (5, .int x5)] [] h := by
    intro x4 x5 h hO
    obtain ⟨H57, eH57⟩ : ∃ q : (Int32 × Hp) → Prop, q = fun s => G 57 [(0, .ref 57), (2, .int x2), (3, .int x3), (4, .int x4), (5, .int (s.1))] [] (s.2) := ⟨_, rfl⟩
    have w9 : H57 (x5, h) := by
      refine lp_wp (f := fun s : (Int32 × Hp) => S_payAll_b57 x2 x3 x4 s.1 s.2) (H := H57) (Q := P) ?_ (x5, h) hO
      rintro ⟨x5, h⟩ hO
      rw [eH57]
      show G 57 [(0, .ref 57), (2, .int x2), (3, .int x3), (4, .int x4), (5, .int x5)] [] h
      have k57 : ∀ s : (Int32 × Hp), H57 s → G 57 [(0, .ref 57), (2, .int x2), (3, .int x3), (4, .int x4), (5, .int (s.1))] [] (s.2) := fun s q => by rw [eH57] at q; exact q
      replace hO : Okk (S_payAll_b57 x2 x3 x4 x5 h) (Sum.elim H57 P) := hO
      clear eH57
      have j118 : ∀ (x5 : Int32) (h : Hp), Okk (S_payAll_j118 x2 x3 x4 x5 h) (Sum.elim H57 P) → G 118 [(0, .ref 57), (2, .int x2), (3, .int x3), (4, .int x4), (5, .int x5)] [] h := by
        intro x5 h hO
        unfold S_payAll_j118 at hO
        refine rbx hG 4 118 121 [.iinc 5 0] [1] [] ((x5 + (1 : Int32))) (fun y1 => [(5, .int y1), (0, .ref 57), (2, .int x2), (3, .int x3), (4, .int x4)]) (fun y1 => []) (fun y1 => h) [] (by decide +kernel) rfl trivial hO (fun y1 hO => ?_)
        refine rb hG 4 121 57 [] [] [] [(5, .int y1), (0, .ref 57), (2, .int x2), (3, .int x3), (4, .int x4)] [] h [] (by decide +kernel) rfl trivial ?_
        refine rs hG [(0, .ref 57), (2, .int x2), (3, .int x3), (4, .int x4), (5, .int y1)] [1, 2, 3, 4, 0] rfl ?_
        exact k57 (y1, h) (ok_some (Q := (Sum.elim H57 P)) hO)
      have j116 : ∀ (x5 : Int32) (s1 : Int32) (s2 : Int32) (s3 : Int32) (h : Hp), Okk (S_payAll_j116 x2 x3 x4 x5 s1 s2 s3 h) (Sum.elim H57 P) → G 116 [(0, .ref 57), (2, .int x2), (3, .int x3), (4, .int x4), (5, .int x5)] [.int s3, .int s2, .int s1, .ref 62] h := by
        intro x5 s1 s2 s3 h hO
        unfold S_payAll_j116 at hO
        obtain ⟨g2, hO⟩ := ok_if hO
        refine rbx hG 5 116 118 [.iadd, .iastore] [] [] (wr h 62 (Int32.toNatClampNeg s1) (s2 + s3)) (fun h3 => [(0, .ref 57), (2, .int x2), (3, .int x3), (4, .int x4), (5, .int x5)]) (fun h3 => []) (fun h3 => h3) [kd 62 = 20 ∧ inb s1 (ln 62)] (by decide +kernel) rfl ⟨kd_62, g2⟩ hO (fun h3 hO => ?_)
        exact j118 x5 h3 hO
      unfold S_payAll_b57 at hO
      refine rb hG 5 57 61 [.iload 5, .ldc_w 0] [8] [] [(0, .ref 57), (2, .int x2), (3, .int x3), (4, .int x4), (5, .int x5)] [.int (8 : Int32), .int x5] h [] (by decide +kernel) rfl trivial ?_
      refine rj hG .ge (63) 124 61 (by decide +kernel) (by decide) (fun c4 => ?_) (fun c4 => ?_)
      · have hO := ok_pos c4 hO
        refine rs hG [] [] rfl ?_
        exact j124 h (ok_inr hO)
      · have hO := ok_neg c4 hO
        refine rb hG 5 64 67 [.iload 4, .ldc_w 0] [-1] [] [(0, .ref 57), (2, .int x2), (3, .int x3), (4, .int x4), (5, .int x5)] [.int (-1 : Int32), .int x4] h [] (by decide +kernel) rfl trivial ?_
        refine rj hG .eq (57) 124 67 (by decide +kernel) (by decide) (fun c5 => ?_) (fun c5 => ?_)
        · have hO := ok_pos c5 hO
          refine rs hG [] [] rfl ?_
          exact j124 h (ok_inr hO)
        · have hO := ok_neg c5 hO
          refine rb hG 5 70 73 [.iload 2, .iload 5] [] [] [(0, .ref 57), (2, .int x2), (3, .int x3), (4, .int x4), (5, .int x5)] [.int x5, .int x2] h [] (by decide +kernel) rfl trivial ?_
          refine rt hG z_K_isIn 73 2 73 [.int x2, .int x5] [] (by decide +kernel) mk_K_isIn lk_7_73 rfl ⟨rfl, Nat.le_of_ble_eq_true rfl⟩ (c_K_isIn (d := d) h x2 x5 (ok_bind hO)) ?_
          rintro _ _ ⟨r6, rfl, rfl, hO⟩
          refine ri hG .eq (42) 118 76 (by decide +kernel) (by decide) (fun c7 => ?_) (fun c7 => ?_)
          · have hO := ok_pos c7 hO
            exact j118 x5 h hO
          · have hO := ok_neg c7 hO
            obtain ⟨g8, hO⟩ := ok_if hO
            obtain ⟨g9, hO⟩ := ok_if hO
            refine rbx hG 11 79 90 [.aload 0, .invokeinterface 702 3, .iload 4, .dup2, .iaload, .iload 3, .iadd, .iastore] [] [] (wr h 60 (Int32.toNatClampNeg x4) ((h.1 60 (Int32.toNatClampNeg x4)) + x3)) (fun h10 => [(0, .ref 57), (2, .int x2), (3, .int x3), (4, .int x4), (5, .int x5)]) (fun h10 => []) (fun h10 => h10) [kd 57 = 7, kd 60 = 20 ∧ inb x4 (ln 60), kd 60 = 20 ∧ inb x4 (ln 60)] (by decide +kernel) rfl ⟨kd_57, ⟨kd_60, g8⟩, ⟨kd_60, g9⟩⟩ hO (fun h10 hO => ?_)
            obtain ⟨g11, hO⟩ := ok_if hO
            refine rb hG 14 90 108 [.aload 0, .invokeinterface 704 5, .ldc_w 0, .iload 4, .imul, .iload 5, .iadd, .dup2, .iaload, .iload 5, .iload 4] [8] [] [(0, .ref 57), (2, .int x2), (3, .int x3), (4, .int x4), (5, .int x5)] [.int x4, .int x5, .int (h10.1 62 (Int32.toNatClampNeg (((8 : Int32) * x4) + x5))), .int (((8 : Int32) * x4) + x5), .ref 62] h10 [kd 57 = 7, kd 62 = 20 ∧ inb (((8 : Int32) * x4) + x5) (ln 62)] (by decide +kernel) rfl ⟨kd_57, ⟨kd_62, g11⟩⟩ ?_
            refine rjN hG (7) 115 108 (by decide +kernel) (by decide) (fun c12 => ?_) (fun c12 => ?_)
            · have hO := ok_pos c12 hO
              refine rb hG 5 111 116 [.ldc_w 0] [0] [] [(0, .ref 57), (2, .int x2), (3, .int x3), (4, .int x4), (5, .int x5)] [.int (0 : Int32), .int (h10.1 62 (Int32.toNatClampNeg (((8 : Int32) * x4) + x5))), .int (((8 : Int32) * x4) + x5), .ref 62] h10 [] (by decide +kernel) rfl trivial ?_
              exact j116 x5 (((8 : Int32) * x4) + x5) (h10.1 62 (Int32.toNatClampNeg (((8 : Int32) * x4) + x5))) (0 : Int32) h10 hO
            · have hO := ok_neg c12 hO
              refine rb hG 4 115 116 [.iload 3] [] [] [(0, .ref 57), (2, .int x2), (3, .int x3), (4, .int x4), (5, .int x5)] [.int x3, .int (h10.1 62 (Int32.toNatClampNeg (((8 : Int32) * x4) + x5))), .int (((8 : Int32) * x4) + x5), .ref 62] h10 [] (by decide +kernel) rfl trivial ?_
              exact j116 x5 (((8 : Int32) * x4) + x5) (h10.1 62 (Int32.toNatClampNeg (((8 : Int32) * x4) + x5))) x3 h10 hO
    rw [eH57] at w9
    exact w9
  have j54 : ∀ (x4 : Int32) (h : Hp), Okk (S_payAll_j54 x2 x3 x4 h) P → G 54 [(0, .ref 57), (2, .int x2), (3, .int x3), (4, .int x4)] [] h := by
    intro x4 h hO
    unfold S_payAll_j54 at hO
    refine rb hG 5 54 57 [.ldc_w 0, .istore 5] [0] [] [(5, .int (0 : Int32)), (0, .ref 57), (2, .int x2), (3, .int x3), (4, .int x4)] [] h [] (by decide +kernel) rfl trivial ?_
    refine rs hG [(0, .ref 57), (2, .int x2), (3, .int x3), (4, .int x4), (5, .int (0 : Int32))] [1, 2, 3, 4, 0] rfl ?_
    exact l57 x4 (0 : Int32) h hO
  have l6 : ∀ (x4 : Int32) (x5 : Int32) (h : Hp), Okk (S_payAll_l6 x1 x2 x3 x4 x5 h) P → G 6 [(0, .ref 57), (1, .int x1), (2, .int x2), (3, .int x3), (4, .int x4), (5, .int x5)] [] h := by
    intro x4 x5 h hO
    obtain ⟨H6, eH6⟩ : ∃ q : (Int32 × Int32 × Hp) → Prop, q = fun s => G 6 [(0, .ref 57), (1, .int x1), (2, .int x2), (3, .int x3), (4, .int (s.1)), (5, .int (s.2.1))] [] (s.2.2) := ⟨_, rfl⟩
    have w9 : H6 (x4, x5, h) := by
      refine lp_wp (f := fun s : (Int32 × Int32 × Hp) => S_payAll_b6 x1 x2 x3 s.1 s.2.1 s.2.2) (H := H6) (Q := P) ?_ (x4, x5, h) hO
      rintro ⟨x4, x5, h⟩ hO
      rw [eH6]
      show G 6 [(0, .ref 57), (1, .int x1), (2, .int x2), (3, .int x3), (4, .int x4), (5, .int x5)] [] h
      have k6 : ∀ s : (Int32 × Int32 × Hp), H6 s → G 6 [(0, .ref 57), (1, .int x1), (2, .int x2), (3, .int x3), (4, .int (s.1)), (5, .int (s.2.1))] [] (s.2.2) := fun s q => by rw [eH6] at q; exact q
      replace hO : Okk (S_payAll_b6 x1 x2 x3 x4 x5 h) (Sum.elim H6 P) := hO
      clear eH6
      have j48 : ∀ (x4 : Int32) (x5 : Int32) (h : Hp), Okk (S_payAll_j48 x1 x2 x3 x4 x5 h) (Sum.elim H6 P) → G 48 [(0, .ref 57), (1, .int x1), (2, .int x2), (3, .int x3), (4, .int x4), (5, .int x5)] [] h := by
        intro x4 x5 h hO
        unfold S_payAll_j48 at hO
        refine rbx hG 4 48 51 [.iinc 5 0] [1] [] ((x5 + (1 : Int32))) (fun y13 => [(5, .int y13), (0, .ref 57), (1, .int x1), (2, .int x2), (3, .int x3), (4, .int x4)]) (fun y13 => []) (fun y13 => h) [] (by decide +kernel) rfl trivial hO (fun y13 hO => ?_)
        refine rb hG 4 51 6 [] [] [] [(5, .int y13), (0, .ref 57), (1, .int x1), (2, .int x2), (3, .int x3), (4, .int x4)] [] h [] (by decide +kernel) rfl trivial ?_
        refine rs hG [(0, .ref 57), (1, .int x1), (2, .int x2), (3, .int x3), (4, .int x4), (5, .int y13)] [1, 2, 3, 4, 5, 0] rfl ?_
        exact k6 (x4, y13, h) (ok_some (Q := (Sum.elim H6 P)) hO)
      have j46 : ∀ (x5 : Int32) (s0 : Int32) (h : Hp), Okk (S_payAll_j46 x1 x2 x3 x5 s0 h) (Sum.elim H6 P) → G 46 [(0, .ref 57), (1, .int x1), (2, .int x2), (3, .int x3), (5, .int x5)] [.int s0] h := by
        intro x5 s0 h hO
        unfold S_payAll_j46 at hO
        refine rb hG 4 46 48 [.istore 4] [] [] [(4, .int s0), (0, .ref 57), (1, .int x1), (2, .int x2), (3, .int x3), (5, .int x5)] [] h [] (by decide +kernel) rfl trivial ?_
        refine rs hG [(0, .ref 57), (1, .int x1), (2, .int x2), (3, .int x3), (4, .int s0), (5, .int x5)] [1, 2, 3, 4, 0, 5] rfl ?_
        exact j48 s0 x5 h hO
      unfold S_payAll_b6 at hO
      refine rb hG 5 6 10 [.iload 5, .ldc_w 0] [8] [] [(0, .ref 57), (1, .int x1), (2, .int x2), (3, .int x3), (4, .int x4), (5, .int x5)] [.int (8 : Int32), .int x5] h [] (by decide +kernel) rfl trivial ?_
      refine rj hG .ge (44) 54 10 (by decide +kernel) (by decide) (fun c14 => ?_) (fun c14 => ?_)
      · have hO := ok_pos c14 hO
        refine rs hG [(0, .ref 57), (2, .int x2), (3, .int x3), (4, .int x4)] [0, 2, 3, 4] rfl ?_
        exact j54 x4 h (ok_inr hO)
      · have hO := ok_neg c14 hO
        refine rb hG 5 13 16 [.iload 1, .iload 5] [] [] [(0, .ref 57), (1, .int x1), (2, .int x2), (3, .int x3), (4, .int x4), (5, .int x5)] [.int x5, .int x1] h [] (by decide +kernel) rfl trivial ?_
        refine rt hG z_K_isIn 73 2 16 [.int x1, .int x5] [] (by decide +kernel) mk_K_isIn lk_7_73 rfl ⟨rfl, Nat.le_of_ble_eq_true rfl⟩ (c_K_isIn (d := d) h x1 x5 (ok_bind hO)) ?_
        rintro _ _ ⟨r15, rfl, rfl, hO⟩
        refine ri hG .eq (29) 48 19 (by decide +kernel) (by decide) (fun c16 => ?_) (fun c16 => ?_)
        · have hO := ok_pos c16 hO
          exact j48 x4 x5 h hO
        · have hO := ok_neg c16 hO
          obtain ⟨g17, hO⟩ := ok_if hO
          obtain ⟨g18, hO⟩ := ok_if hO
          refine rbx hG 11 22 33 [.aload 0, .invokeinterface 702 3, .iload 5, .dup2, .iaload, .iload 3, .iadd, .iastore] [] [] (wr h 60 (Int32.toNatClampNeg x5) ((h.1 60 (Int32.toNatClampNeg x5)) + x3)) (fun h19 => [(0, .ref 57), (1, .int x1), (2, .int x2), (3, .int x3), (4, .int x4), (5, .int x5)]) (fun h19 => []) (fun h19 => h19) [kd 57 = 7, kd 60 = 20 ∧ inb x5 (ln 60), kd 60 = 20 ∧ inb x5 (ln 60)] (by decide +kernel) rfl ⟨kd_57, ⟨kd_60, g17⟩, ⟨kd_60, g18⟩⟩ hO (fun h19 hO => ?_)
          refine rb hG 5 33 36 [.iload 4, .ldc_w 0] [-1] [] [(0, .ref 57), (1, .int x1), (2, .int x2), (3, .int x3), (4, .int x4), (5, .int x5)] [.int (-1 : Int32), .int x4] h19 [] (by decide +kernel) rfl trivial ?_
          refine rjN hG (8) 44 36 (by decide +kernel) (by decide) (fun c20 => ?_) (fun c20 => ?_)
          · have hO := ok_pos c20 hO
            refine rb hG 5 39 46 [.iload 5] [] [] [(0, .ref 57), (1, .int x1), (2, .int x2), (3, .int x3), (4, .int x4), (5, .int x5)] [.int x5] h19 [] (by decide +kernel) rfl trivial ?_
            refine rs hG [(0, .ref 57), (1, .int x1), (2, .int x2), (3, .int x3), (5, .int x5)] [0, 1, 2, 3, 5] rfl ?_
            exact j46 x5 x5 h19 hO
          · have hO := ok_neg c20 hO
            refine rb hG 4 44 46 [.iload 4] [] [] [(0, .ref 57), (1, .int x1), (2, .int x2), (3, .int x3), (4, .int x4), (5, .int x5)] [.int x4] h19 [] (by decide +kernel) rfl trivial ?_
            refine rs hG [(0, .ref 57), (1, .int x1), (2, .int x2), (3, .int x3), (5, .int x5)] [0, 1, 2, 3, 5] rfl ?_
            exact j46 x5 x4 h19 hO
    rw [eH6] at w9
    exact w9
  refine rb hG 7 0 6 [.ldc_w 0, .istore 4, .ldc_w 1, .istore 5] [-1, 0] [] [(5, .int (0 : Int32)), (4, .int (-1 : Int32)), (0, .ref 57), (1, .int x1), (2, .int x2), (3, .int x3)] [] h [] (by decide +kernel) rfl trivial ?_
  refine rs hG [(0, .ref 57), (1, .int x1), (2, .int x2), (3, .int x3), (4, .int (-1 : Int32)), (5, .int (0 : Int32))] [2, 3, 4, 5, 1, 0] rfl ?_
  exact l6 (-1 : Int32) (0 : Int32) h hO
/-! GrainInn.State.hearAll(II)V -/
noncomputable def S_hearAll_j32 (h : Hp) : Option Hp := some h
noncomputable def S_hearAll_j26 (x1 : Int32) (x2 : Int32) (x3 : Int32) (h : Hp) : Option ((Int32 × Hp) ⊕ Hp) := bnd ((x3 + (1 : Int32))) fun y1 => some (.inl (y1, h))
noncomputable def S_hearAll_b2 (x1 : Int32) (x2 : Int32) (x3 : Int32) (h : Hp) : Option ((Int32 × Hp) ⊕ Hp) := if (8 : Int32) ≤ x3 then (((S_hearAll_j32 h).map Sum.inr)) else ((K_isIn x1 x3).bind fun r3 => if r3 = 0 then ((S_hearAll_j26 x1 x2 x3 h)) else (if inb x3 (ln 59) then (if inb x3 (ln 59) then (bnd (wr h 59 (Int32.toNatClampNeg x3) ((h.1 59 (Int32.toNatClampNeg x3)) ||| x2)) fun h7 => (S_hearAll_j26 x1 x2 x3 h7)) else none) else none))
noncomputable def S_hearAll_l2 (x1 : Int32) (x2 : Int32) (x3 : Int32) (h : Hp) : Option Hp := lp (fun s : (Int32 × Hp) => S_hearAll_b2 x1 x2 s.1 s.2) (x3, h)
theorem S_hearAll_l2_eq (x1 : Int32) (x2 : Int32) (x3 : Int32) (h : Hp) : S_hearAll_l2 x1 x2 x3 h = (S_hearAll_b2 x1 x2 x3 h).bind (Sum.elim (fun q : (Int32 × Hp) => S_hearAll_l2 x1 x2 q.1 q.2) some) := lp_eq _ _
noncomputable def S_hearAll (h : Hp) (x1 : Int32) (x2 : Int32) : Option Hp := (S_hearAll_l2 x1 x2 (0 : Int32) h)
set_option maxRecDepth 100000 in
set_option maxHeartbeats 4000000 in
theorem c_S_hearAll {E : En} {d : Nat} (h : Hp) (x1 : Int32) (x2 : Int32) {P : Hp → Prop} (hO : Okk (S_hearAll h x1 x2) P) : Cn E (d + 2) z_S_hearAll [.ref 57, .int x1, .int x2] h (RV P) := by
  refine cn_of (on := 7) (d := d + 1) ⟨rfl, by decide +kernel, Nat.le_of_ble_eq_true rfl⟩ (fun G hG => ?_)
  unfold S_hearAll at hO
  show G 0 [(0, .ref 57), (1, .int x1), (2, .int x2)] [] h
  have j32 : ∀ (h : Hp), Okk (S_hearAll_j32 h) P → G 32 [] [] h := by
    intro h hO
    unfold S_hearAll_j32 at hO
    exact eV hG 32 (by decide +kernel) rfl ⟨rfl, ok_some (Q := P) hO⟩
  have l2 : ∀ (x3 : Int32) (h : Hp), Okk (S_hearAll_l2 x1 x2 x3 h) P → G 2 [(0, .ref 57), (1, .int x1), (2, .int x2), (3, .int x3)] [] h := by
    intro x3 h hO
    obtain ⟨H2, eH2⟩ : ∃ q : (Int32 × Hp) → Prop, q = fun s => G 2 [(0, .ref 57), (1, .int x1), (2, .int x2), (3, .int (s.1))] [] (s.2) := ⟨_, rfl⟩
    have w9 : H2 (x3, h) := by
      refine lp_wp (f := fun s : (Int32 × Hp) => S_hearAll_b2 x1 x2 s.1 s.2) (H := H2) (Q := P) ?_ (x3, h) hO
      rintro ⟨x3, h⟩ hO
      rw [eH2]
      show G 2 [(0, .ref 57), (1, .int x1), (2, .int x2), (3, .int x3)] [] h
      have k2 : ∀ s : (Int32 × Hp), H2 s → G 2 [(0, .ref 57), (1, .int x1), (2, .int x2), (3, .int (s.1))] [] (s.2) := fun s q => by rw [eH2] at q; exact q
      replace hO : Okk (S_hearAll_b2 x1 x2 x3 h) (Sum.elim H2 P) := hO
      clear eH2
      have j26 : ∀ (x3 : Int32) (h : Hp), Okk (S_hearAll_j26 x1 x2 x3 h) (Sum.elim H2 P) → G 26 [(0, .ref 57), (1, .int x1), (2, .int x2), (3, .int x3)] [] h := by
        intro x3 h hO
        unfold S_hearAll_j26 at hO
        refine rbx hG 4 26 29 [.iinc 3 0] [1] [] ((x3 + (1 : Int32))) (fun y1 => [(3, .int y1), (0, .ref 57), (1, .int x1), (2, .int x2)]) (fun y1 => []) (fun y1 => h) [] (by decide +kernel) rfl trivial hO (fun y1 hO => ?_)
        refine rb hG 4 29 2 [] [] [] [(3, .int y1), (0, .ref 57), (1, .int x1), (2, .int x2)] [] h [] (by decide +kernel) rfl trivial ?_
        refine rs hG [(0, .ref 57), (1, .int x1), (2, .int x2), (3, .int y1)] [1, 2, 3, 0] rfl ?_
        exact k2 (y1, h) (ok_some (Q := (Sum.elim H2 P)) hO)
      unfold S_hearAll_b2 at hO
      refine rb hG 5 2 5 [.iload 3, .ldc_w 0] [8] [] [(0, .ref 57), (1, .int x1), (2, .int x2), (3, .int x3)] [.int (8 : Int32), .int x3] h [] (by decide +kernel) rfl trivial ?_
      refine rj hG .ge (27) 32 5 (by decide +kernel) (by decide) (fun c2 => ?_) (fun c2 => ?_)
      · have hO := ok_pos c2 hO
        refine rs hG [] [] rfl ?_
        exact j32 h (ok_inr hO)
      · have hO := ok_neg c2 hO
        refine rb hG 5 8 10 [.iload 1, .iload 3] [] [] [(0, .ref 57), (1, .int x1), (2, .int x2), (3, .int x3)] [.int x3, .int x1] h [] (by decide +kernel) rfl trivial ?_
        refine rt hG z_K_isIn 73 2 10 [.int x1, .int x3] [] (by decide +kernel) mk_K_isIn lk_7_73 rfl ⟨rfl, Nat.le_of_ble_eq_true rfl⟩ (c_K_isIn (d := d) h x1 x3 (ok_bind hO)) ?_
        rintro _ _ ⟨r3, rfl, rfl, hO⟩
        refine ri hG .eq (13) 26 13 (by decide +kernel) (by decide) (fun c4 => ?_) (fun c4 => ?_)
        · have hO := ok_pos c4 hO
          exact j26 x3 h hO
        · have hO := ok_neg c4 hO
          obtain ⟨g5, hO⟩ := ok_if hO
          obtain ⟨g6, hO⟩ := ok_if hO
          refine rbx hG 11 16 26 [.aload 0, .invokeinterface 701 2, .iload 3, .dup2, .iaload, .iload 2, .ior, .iastore] [] [] (wr h 59 (Int32.toNatClampNeg x3) ((h.1 59 (Int32.toNatClampNeg x3)) ||| x2)) (fun h7 => [(0, .ref 57), (1, .int x1), (2, .int x2), (3, .int x3)]) (fun h7 => []) (fun h7 => h7) [kd 57 = 7, kd 59 = 20 ∧ inb x3 (ln 59), kd 59 = 20 ∧ inb x3 (ln 59)] (by decide +kernel) rfl ⟨kd_57, ⟨kd_59, g5⟩, ⟨kd_59, g6⟩⟩ hO (fun h7 hO => ?_)
          exact j26 x3 h7 hO
    rw [eH2] at w9
    exact w9
  refine rb hG 5 0 2 [.ldc_w 0, .istore 3] [0] [] [(3, .int (0 : Int32)), (0, .ref 57), (1, .int x1), (2, .int x2)] [] h [] (by decide +kernel) rfl trivial ?_
  refine rs hG [(0, .ref 57), (1, .int x1), (2, .int x2), (3, .int (0 : Int32))] [1, 2, 3, 0] rfl ?_
  exact l2 (0 : Int32) h hO
/-! GrainInn.State.meetAll(II)V -/
noncomputable def S_meetAll_j60 (h : Hp) : Option Hp := some h
noncomputable def S_meetAll_j35 (x1 : Int32) (x2 : Int32) (x3 : Int32) (s0 : Int32) (h : Hp) : Option ((Int32 × Hp) ⊕ Hp) := if inb x3 (ln 61) then (if inb x3 (ln 61) then (bnd (wr h 61 (Int32.toNatClampNeg x3) ((h.1 61 (Int32.toNatClampNeg x3)) ||| (s0 &&& ((sh (1 : Int32) x3) ^^^ (-1 : Int32))))) fun h3 => bnd ((x3 + (1 : Int32))) fun y4 => some (.inl (y4, h3))) else none) else none
noncomputable def S_meetAll_b2 (x1 : Int32) (x2 : Int32) (x3 : Int32) (h : Hp) : Option ((Int32 × Hp) ⊕ Hp) := if (8 : Int32) ≤ x3 then (((S_meetAll_j60 h).map Sum.inr)) else ((K_isIn x1 x3).bind fun r6 => if r6 = 0 then ((K_isIn x2 x3).bind fun r8 => if r8 = 0 then ((S_meetAll_j35 x1 x2 x3 (0 : Int32) h)) else ((S_meetAll_j35 x1 x2 x3 x1 h))) else ((S_meetAll_j35 x1 x2 x3 (x1 ||| x2) h)))
noncomputable def S_meetAll_l2 (x1 : Int32) (x2 : Int32) (x3 : Int32) (h : Hp) : Option Hp := lp (fun s : (Int32 × Hp) => S_meetAll_b2 x1 x2 s.1 s.2) (x3, h)
theorem S_meetAll_l2_eq (x1 : Int32) (x2 : Int32) (x3 : Int32) (h : Hp) : S_meetAll_l2 x1 x2 x3 h = (S_meetAll_b2 x1 x2 x3 h).bind (Sum.elim (fun q : (Int32 × Hp) => S_meetAll_l2 x1 x2 q.1 q.2) some) := lp_eq _ _
noncomputable def S_meetAll (h : Hp) (x1 : Int32) (x2 : Int32) : Option Hp := (S_meetAll_l2 x1 x2 (0 : Int32) h)
set_option maxRecDepth 100000 in
set_option maxHeartbeats 4000000 in
theorem c_S_meetAll {E : En} {d : Nat} (h : Hp) (x1 : Int32) (x2 : Int32) {P : Hp → Prop} (hO : Okk (S_meetAll h x1 x2) P) : Cn E (d + 2) z_S_meetAll [.ref 57, .int x1, .int x2] h (RV P) := by
  refine cn_of (on := 7) (d := d + 1) ⟨rfl, by decide +kernel, Nat.le_of_ble_eq_true rfl⟩ (fun G hG => ?_)
  unfold S_meetAll at hO
  show G 0 [(0, .ref 57), (1, .int x1), (2, .int x2)] [] h
  have j60 : ∀ (h : Hp), Okk (S_meetAll_j60 h) P → G 60 [] [] h := by
    intro h hO
    unfold S_meetAll_j60 at hO
    exact eV hG 60 (by decide +kernel) rfl ⟨rfl, ok_some (Q := P) hO⟩
  have l2 : ∀ (x3 : Int32) (h : Hp), Okk (S_meetAll_l2 x1 x2 x3 h) P → G 2 [(0, .ref 57), (1, .int x1), (2, .int x2), (3, .int x3)] [] h := by
    intro x3 h hO
    obtain ⟨H2, eH2⟩ : ∃ q : (Int32 × Hp) → Prop, q = fun s => G 2 [(0, .ref 57), (1, .int x1), (2, .int x2), (3, .int (s.1))] [] (s.2) := ⟨_, rfl⟩
    have w9 : H2 (x3, h) := by
      refine lp_wp (f := fun s : (Int32 × Hp) => S_meetAll_b2 x1 x2 s.1 s.2) (H := H2) (Q := P) ?_ (x3, h) hO
      rintro ⟨x3, h⟩ hO
      rw [eH2]
      show G 2 [(0, .ref 57), (1, .int x1), (2, .int x2), (3, .int x3)] [] h
      have k2 : ∀ s : (Int32 × Hp), H2 s → G 2 [(0, .ref 57), (1, .int x1), (2, .int x2), (3, .int (s.1))] [] (s.2) := fun s q => by rw [eH2] at q; exact q
      replace hO : Okk (S_meetAll_b2 x1 x2 x3 h) (Sum.elim H2 P) := hO
      clear eH2
      have j35 : ∀ (x3 : Int32) (s0 : Int32) (h : Hp), Okk (S_meetAll_j35 x1 x2 x3 s0 h) (Sum.elim H2 P) → G 35 [(0, .ref 57), (1, .int x1), (2, .int x2), (3, .int x3)] [.int s0] h := by
        intro x3 s0 h hO
        unfold S_meetAll_j35 at hO
        obtain ⟨g1, hO⟩ := ok_if hO
        obtain ⟨g2, hO⟩ := ok_if hO
        refine rbx hG 18 35 54 [.istore 4, .aload 0, .invokeinterface 703 4, .iload 3, .dup2, .iaload, .iload 4, .ldc_w 0, .iload 3, .ishl, .ldc_w 1, .ixor, .iand, .ior, .iastore] [1, -1] [] (wr h 61 (Int32.toNatClampNeg x3) ((h.1 61 (Int32.toNatClampNeg x3)) ||| (s0 &&& ((sh (1 : Int32) x3) ^^^ (-1 : Int32))))) (fun h3 => [(4, .int s0), (0, .ref 57), (1, .int x1), (2, .int x2), (3, .int x3)]) (fun h3 => []) (fun h3 => h3) [kd 57 = 7, kd 61 = 20 ∧ inb x3 (ln 61), kd 61 = 20 ∧ inb x3 (ln 61)] (by decide +kernel) rfl ⟨kd_57, ⟨kd_61, g1⟩, ⟨kd_61, g2⟩⟩ hO (fun h3 hO => ?_)
        refine rbx hG 4 54 57 [.iinc 3 0] [1] [] ((x3 + (1 : Int32))) (fun y4 => [(3, .int y4), (4, .int s0), (0, .ref 57), (1, .int x1), (2, .int x2)]) (fun y4 => []) (fun y4 => h3) [] (by decide +kernel) rfl trivial hO (fun y4 hO => ?_)
        refine rb hG 4 57 2 [] [] [] [(3, .int y4), (4, .int s0), (0, .ref 57), (1, .int x1), (2, .int x2)] [] h3 [] (by decide +kernel) rfl trivial ?_
        refine rs hG [(0, .ref 57), (1, .int x1), (2, .int x2), (3, .int y4)] [2, 3, 4, 0] rfl ?_
        exact k2 (y4, h3) (ok_some (Q := (Sum.elim H2 P)) hO)
      unfold S_meetAll_b2 at hO
      refine rb hG 5 2 5 [.iload 3, .ldc_w 0] [8] [] [(0, .ref 57), (1, .int x1), (2, .int x2), (3, .int x3)] [.int (8 : Int32), .int x3] h [] (by decide +kernel) rfl trivial ?_
      refine rj hG .ge (55) 60 5 (by decide +kernel) (by decide) (fun c5 => ?_) (fun c5 => ?_)
      · have hO := ok_pos c5 hO
        refine rs hG [] [] rfl ?_
        exact j60 h (ok_inr hO)
      · have hO := ok_neg c5 hO
        refine rb hG 5 8 10 [.iload 1, .iload 3] [] [] [(0, .ref 57), (1, .int x1), (2, .int x2), (3, .int x3)] [.int x3, .int x1] h [] (by decide +kernel) rfl trivial ?_
        refine rt hG z_K_isIn 73 2 10 [.int x1, .int x3] [] (by decide +kernel) mk_K_isIn lk_7_73 rfl ⟨rfl, Nat.le_of_ble_eq_true rfl⟩ (c_K_isIn (d := d) h x1 x3 (ok_bind hO)) ?_
        rintro _ _ ⟨r6, rfl, rfl, hO⟩
        refine ri hG .eq (9) 22 13 (by decide +kernel) (by decide) (fun c7 => ?_) (fun c7 => ?_)
        · have hO := ok_pos c7 hO
          refine rb hG 5 22 24 [.iload 2, .iload 3] [] [] [(0, .ref 57), (1, .int x1), (2, .int x2), (3, .int x3)] [.int x3, .int x2] h [] (by decide +kernel) rfl trivial ?_
          refine rt hG z_K_isIn 73 2 24 [.int x2, .int x3] [] (by decide +kernel) mk_K_isIn lk_7_73 rfl ⟨rfl, Nat.le_of_ble_eq_true rfl⟩ (c_K_isIn (d := d) h x2 x3 (ok_bind hO)) ?_
          rintro _ _ ⟨r8, rfl, rfl, hO⟩
          refine ri hG .eq (7) 34 27 (by decide +kernel) (by decide) (fun c9 => ?_) (fun c9 => ?_)
          · have hO := ok_pos c9 hO
            refine rb hG 4 34 35 [.ldc_w 0] [0] [] [(0, .ref 57), (1, .int x1), (2, .int x2), (3, .int x3)] [.int (0 : Int32)] h [] (by decide +kernel) rfl trivial ?_
            exact j35 x3 (0 : Int32) h hO
          · have hO := ok_neg c9 hO
            refine rb hG 5 30 35 [.iload 1] [] [] [(0, .ref 57), (1, .int x1), (2, .int x2), (3, .int x3)] [.int x1] h [] (by decide +kernel) rfl trivial ?_
            exact j35 x3 x1 h hO
        · have hO := ok_neg c7 hO
          refine rb hG 7 16 35 [.iload 1, .iload 2, .ior] [] [] [(0, .ref 57), (1, .int x1), (2, .int x2), (3, .int x3)] [.int (x1 ||| x2)] h [] (by decide +kernel) rfl trivial ?_
          exact j35 x3 (x1 ||| x2) h hO
    rw [eH2] at w9
    exact w9
  refine rb hG 5 0 2 [.ldc_w 0, .istore 3] [0] [] [(3, .int (0 : Int32)), (0, .ref 57), (1, .int x1), (2, .int x2)] [] h [] (by decide +kernel) rfl trivial ?_
  refine rs hG [(0, .ref 57), (1, .int x1), (2, .int x2), (3, .int (0 : Int32))] [1, 2, 3, 0] rfl ?_
  exact l2 (0 : Int32) h hO
/-! GrainInn.Bench.turnOn()V -/
noncomputable def B_turnOn_j24 (x0 : Nat) (s1 : Int32) (h : Hp) : Option Hp := bnd (wr h x0 4 s1) fun h1 => some h1
noncomputable def B_turnOn (h : Hp) (x0 : Nat) : Option Hp := if kd x0 = 0 then (if (h.1 x0 3) ≤ ((h.1 x0 4) + (1 : Int32)) then ((B_turnOn_j24 x0 (0 : Int32) h)) else ((B_turnOn_j24 x0 ((h.1 x0 4) + (1 : Int32)) h))) else none
set_option maxRecDepth 100000 in
set_option maxHeartbeats 4000000 in
theorem c_B_turnOn {E : En} {d : Nat} (h : Hp) (x0 : Nat) {P : Hp → Prop} (hO : Okk (B_turnOn h x0) P) : Cn E (d + 1) z_B_turnOn [.ref x0] h (RV P) := by
  refine cn_of (on := 0) (d := d + 0) ⟨rfl, by decide +kernel, Nat.le_of_ble_eq_true rfl⟩ (fun G hG => ?_)
  unfold B_turnOn at hO
  show G 0 [(0, .ref x0)] [] h
  obtain ⟨g0, hO⟩ := ok_if hO
  have j24 : ∀ (s1 : Int32) (h : Hp), Okk (B_turnOn_j24 x0 s1 h) P → G 24 [] [.int s1, .ref x0] h := by
    intro s1 h hO
    unfold B_turnOn_j24 at hO
    refine rbx hG 4 24 27 [.putfield 4] [] [] (wr h x0 4 s1) (fun h1 => []) (fun h1 => []) (fun h1 => h1) [kd x0 = 0] (by decide +kernel) rfl g0 hO (fun h1 hO => ?_)
    exact eV hG 27 (by decide +kernel) rfl ⟨rfl, ok_some (Q := P) hO⟩
  refine rb hG 10 0 11 [.aload 0, .aload 0, .getfield 4, .ldc_w 0, .iadd, .aload 0, .getfield 3] [1] [] [(0, .ref x0)] [.int (h.1 x0 3), .int ((h.1 x0 4) + (1 : Int32)), .ref x0] h [kd x0 = 0, kd x0 = 0] (by decide +kernel) rfl ⟨g0, g0⟩ ?_
  refine rj hG .ge (12) 23 11 (by decide +kernel) (by decide) (fun c2 => ?_) (fun c2 => ?_)
  · have hO := ok_pos c2 hO
    refine rb hG 4 23 24 [.ldc_w 0] [0] [] [(0, .ref x0)] [.int (0 : Int32), .ref x0] h [] (by decide +kernel) rfl trivial ?_
    refine rs hG [] [] rfl ?_
    exact j24 (0 : Int32) h hO
  · have hO := ok_neg c2 hO
    refine rb hG 8 14 24 [.aload 0, .getfield 4, .ldc_w 0, .iadd] [1] [] [(0, .ref x0)] [.int ((h.1 x0 4) + (1 : Int32)), .ref x0] h [kd x0 = 0] (by decide +kernel) rfl g0 ?_
    refine rs hG [] [] rfl ?_
    exact j24 ((h.1 x0 4) + (1 : Int32)) h hO
/-! GrainInn.State.sitDown(II)Z -/
noncomputable def S_sitDown_j32 (h : Hp) : Option (Int32 × Hp) := some ((0 : Int32), h)
noncomputable def S_sitDown_j58 (h : Hp) : Option (Int32 × Hp) := some ((0 : Int32), h)
noncomputable def S_sitDown (h : Hp) (x1 : Int32) (x2 : Int32) : Option (Int32 × Hp) := (S_benchAt h x1).bind fun r1 => if r1 = 0 then ((S_sitDown_j32 h)) else (if kd r1 = 0 then (if (h.1 r1 5) = 0 then (if x2 = 0 then ((S_sitDown_j32 h)) else (if kd (Int32.toNatClampNeg (h.1 57 6)) = 1 then ((H_hasAll h (Int32.toNatClampNeg (h.1 57 6)) x2).bind fun r7 => if r7 = 0 then ((S_sitDown_j32 h)) else ((S_seated h).bind fun r9 => if (x2 &&& r9) = 0 then ((J_bitCount x2).bind fun r11 => (H_seatsOf h (Int32.toNatClampNeg (h.1 57 6)) x1).bind fun r12 => if r11 ≤ r12 then ((B_guestsOf h r1 (h.1 r1 4)).bind fun r14 => (B_wordsOf h r1 (h.1 r1 4)).bind fun r15 => (H_strifeOf h (Int32.toNatClampNeg (h.1 57 6)) x2 r14).bind fun r16 => bnd (wr h 57 8 ((h.1 57 8) + r16)) fun h17 => if kd (Int32.toNatClampNeg (h17.1 57 6)) = 1 then ((H_joyOf h17 (Int32.toNatClampNeg (h17.1 57 6)) x2 r14).bind fun r19 => bnd (wr h17 57 9 ((h17.1 57 9) + r19)) fun h20 => if kd (Int32.toNatClampNeg (h20.1 57 6)) = 1 then ((H_priceOf h20 (Int32.toNatClampNeg (h20.1 57 6)) x1).bind fun r22 => (S_payAll h20 x2 r14 r22).bind fun h23 => (S_hearAll h23 x2 r15).bind fun h24 => (S_meetAll h24 x2 r14).bind fun h25 => bnd (wr h25 r1 5 x2) fun h26 => (B_turnOn h26 r1).bind fun h27 => some ((1 : Int32), h27)) else none) else none) else ((S_sitDown_j58 h))) else ((S_sitDown_j58 h)))) else none)) else ((S_sitDown_j32 h))) else none)
set_option maxRecDepth 100000 in
set_option maxHeartbeats 4000000 in
theorem c_S_sitDown {E : En} {d : Nat} (h : Hp) (x1 : Int32) (x2 : Int32) {P : (Int32 × Hp) → Prop} (hO : Okk (S_sitDown h x1 x2) P) : Cn E (d + 4) z_S_sitDown [.ref 57, .int x1, .int x2] h (RI P) := by
  refine cn_of (on := 7) (d := d + 3) ⟨rfl, by decide +kernel, Nat.le_of_ble_eq_true rfl⟩ (fun G hG => ?_)
  unfold S_sitDown at hO
  show G 0 [(0, .ref 57), (1, .int x1), (2, .int x2)] [] h
  have j32 : ∀ (h : Hp), Okk (S_sitDown_j32 h) P → G 32 [] [] h := by
    intro h hO
    unfold S_sitDown_j32 at hO
    refine rb hG 4 32 33 [.ldc_w 0] [0] [] [] [.int (0 : Int32)] h [] (by decide +kernel) rfl trivial ?_
    exact eZ hG 33 (by decide +kernel) rfl (Or.inl rfl) ⟨(0 : Int32), rfl, ok_some (Q := P) hO⟩
  have j58 : ∀ (h : Hp), Okk (S_sitDown_j58 h) P → G 58 [] [] h := by
    intro h hO
    unfold S_sitDown_j58 at hO
    refine rb hG 4 58 59 [.ldc_w 0] [0] [] [] [.int (0 : Int32)] h [] (by decide +kernel) rfl trivial ?_
    exact eZ hG 59 (by decide +kernel) rfl (Or.inl rfl) ⟨(0 : Int32), rfl, ok_some (Q := P) hO⟩
  refine rb hG 5 0 2 [.aload 0, .iload 1] [] [] [(0, .ref 57), (1, .int x1), (2, .int x2)] [.int x1, .ref 57] h [] (by decide +kernel) rfl trivial ?_
  refine rv hG z_S_benchAt 107 1 2 57 [.int x1] [] (by decide +kernel) mk_S_benchAt lk_7_107 rcv_57 rfl ⟨rfl, Nat.le_of_ble_eq_true rfl⟩ (c_S_benchAt (d := d + 1) h x1 (ok_bind hO)) ?_
  rintro _ _ ⟨r1, rfl, rfl, hO⟩
  refine rb hG 5 5 7 [.astore 3, .aload 3] [] [] [(3, .ref r1), (0, .ref 57), (1, .int x1), (2, .int x2)] [.ref r1] h [] (by decide +kernel) rfl trivial ?_
  refine rn hG (25) 32 7 (by decide +kernel) (by decide) (fun c2 => ?_) (fun c2 => ?_)
  · have hO := ok_pos c2 hO
    refine rs hG [] [] rfl ?_
    exact j32 h hO
  · have hO := ok_neg c2 hO
    obtain ⟨g3, hO⟩ := ok_if hO
    refine rb hG 5 10 14 [.aload 3, .getfield 5] [] [] [(3, .ref r1), (0, .ref 57), (1, .int x1), (2, .int x2)] [.int (h.1 r1 5)] h [kd r1 = 0] (by decide +kernel) rfl g3 ?_
    refine riN hG (18) 32 14 (by decide +kernel) (by decide) (fun c4 => ?_) (fun c4 => ?_)
    · have hO := ok_pos c4 hO
      refine rb hG 4 17 18 [.iload 2] [] [] [(3, .ref r1), (0, .ref 57), (1, .int x1), (2, .int x2)] [.int x2] h [] (by decide +kernel) rfl trivial ?_
      refine ri hG .eq (14) 32 18 (by decide +kernel) (by decide) (fun c5 => ?_) (fun c5 => ?_)
      · have hO := ok_pos c5 hO
        refine rs hG [] [] rfl ?_
        exact j32 h hO
      · have hO := ok_neg c5 hO
        obtain ⟨g6, hO⟩ := ok_if hO
        refine rb hG 6 21 26 [.aload 0, .instanceof 706, .iload 2] [] [] [(3, .ref r1), (0, .ref 57), (1, .int x1), (2, .int x2)] [.int x2, .ref (Int32.toNatClampNeg (h.1 57 6))] h [kd 57 = 7] (by decide +kernel) rfl kd_57 ?_
        refine rv hG z_H_hasAll 111 1 26 (Int32.toNatClampNeg (h.1 57 6)) [.int x2] [] (by decide +kernel) mk_H_hasAll lk_7_111 (rcv_H g6) rfl ⟨rfl, Nat.le_of_ble_eq_true rfl⟩ (c_H_hasAll (d := d + 2) h (Int32.toNatClampNeg (h.1 57 6)) x2 (ok_bind hO)) ?_
        rintro _ _ ⟨r7, rfl, rfl, hO⟩
        refine riN hG (5) 34 29 (by decide +kernel) (by decide) (fun c8 => ?_) (fun c8 => ?_)
        · have hO := ok_pos c8 hO
          refine rs hG [] [] rfl ?_
          exact j32 h hO
        · have hO := ok_neg c8 hO
          refine rb hG 5 34 36 [.iload 2, .aload 0] [] [] [(3, .ref r1), (0, .ref 57), (1, .int x1), (2, .int x2)] [.ref 57, .int x2] h [] (by decide +kernel) rfl trivial ?_
          refine rv hG z_S_seated 114 0 36 57 [] [.int x2] (by decide +kernel) mk_S_seated lk_7_114 rcv_57 rfl ⟨rfl, Nat.le_of_ble_eq_true rfl⟩ (c_S_seated (d := d + 2) h (ok_bind hO)) ?_
          rintro _ _ ⟨r9, rfl, rfl, hO⟩
          refine rb hG 4 39 40 [.iand] [] [] [(3, .ref r1), (0, .ref 57), (1, .int x1), (2, .int x2)] [.int (x2 &&& r9)] h [] (by decide +kernel) rfl trivial ?_
          refine riN hG (18) 58 40 (by decide +kernel) (by decide) (fun c10 => ?_) (fun c10 => ?_)
          · have hO := ok_pos c10 hO
            refine rb hG 4 43 44 [.iload 2] [] [] [(3, .ref r1), (0, .ref 57), (1, .int x1), (2, .int x2)] [.int x2] h [] (by decide +kernel) rfl trivial ?_
            refine rt hG z_J_bitCount 118 1 44 [.int x2] [] (by decide +kernel) mk_J_bitCount lk_7_118 rfl ⟨rfl, Nat.le_of_ble_eq_true rfl⟩ (c_J_bitCount (d := d + 2) h x2 (ok_bind hO)) ?_
            rintro _ _ ⟨r11, rfl, rfl, hO⟩
            refine rb hG 6 47 52 [.aload 0, .instanceof 706, .iload 1] [] [] [(3, .ref r1), (0, .ref 57), (1, .int x1), (2, .int x2)] [.int x1, .ref (Int32.toNatClampNeg (h.1 57 6)), .int r11] h [kd 57 = 7] (by decide +kernel) rfl kd_57 ?_
            refine rv hG z_H_seatsOf 123 1 52 (Int32.toNatClampNeg (h.1 57 6)) [.int x1] [.int r11] (by decide +kernel) mk_H_seatsOf lk_7_123 (rcv_H g6) rfl ⟨rfl, Nat.le_of_ble_eq_true rfl⟩ (c_H_seatsOf (d := d + 1) h (Int32.toNatClampNeg (h.1 57 6)) x1 (ok_bind hO)) ?_
            rintro _ _ ⟨r12, rfl, rfl, hO⟩
            refine rj hG .le (5) 60 55 (by decide +kernel) (by decide) (fun c13 => ?_) (fun c13 => ?_)
            · have hO := ok_pos c13 hO
              refine rb hG 6 60 65 [.aload 3, .aload 3, .getfield 4] [] [] [(3, .ref r1), (0, .ref 57), (1, .int x1), (2, .int x2)] [.int (h.1 r1 4), .ref r1] h [kd r1 = 0] (by decide +kernel) rfl g3 ?_
              refine rv hG z_B_guestsOf 129 1 65 r1 [.int (h.1 r1 4)] [] (by decide +kernel) mk_B_guestsOf lk_7_129 (rcv_B g3) rfl ⟨rfl, Nat.le_of_ble_eq_true rfl⟩ (c_B_guestsOf (d := d + 2) h r1 (h.1 r1 4) (ok_bind hO)) ?_
              rintro _ _ ⟨r14, rfl, rfl, hO⟩
              refine rb hG 7 68 75 [.istore 4, .aload 3, .aload 3, .getfield 4] [] [] [(4, .int r14), (3, .ref r1), (0, .ref 57), (1, .int x1), (2, .int x2)] [.int (h.1 r1 4), .ref r1] h [kd r1 = 0] (by decide +kernel) rfl g3 ?_
              refine rv hG z_B_wordsOf 132 1 75 r1 [.int (h.1 r1 4)] [] (by decide +kernel) mk_B_wordsOf lk_7_132 (rcv_B g3) rfl ⟨rfl, Nat.le_of_ble_eq_true rfl⟩ (c_B_wordsOf (d := d + 2) h r1 (h.1 r1 4) (ok_bind hO)) ?_
              rintro _ _ ⟨r15, rfl, rfl, hO⟩
              refine rb hG 11 78 92 [.istore 5, .aload 0, .dup, .getfield 708, .aload 0, .instanceof 706, .iload 2, .iload 4] [] [] [(5, .int r15), (4, .int r14), (3, .ref r1), (0, .ref 57), (1, .int x1), (2, .int x2)] [.int r14, .int x2, .ref (Int32.toNatClampNeg (h.1 57 6)), .int (h.1 57 8), .ref 57] h [kd 57 = 7, kd 57 = 7] (by decide +kernel) rfl ⟨kd_57, kd_57⟩ ?_
              refine rv hG z_H_strifeOf 135 2 92 (Int32.toNatClampNeg (h.1 57 6)) [.int x2, .int r14] [.int (h.1 57 8), .ref 57] (by decide +kernel) mk_H_strifeOf lk_7_135 (rcv_H g6) rfl ⟨rfl, Nat.le_of_ble_eq_true rfl⟩ (c_H_strifeOf (d := d) h (Int32.toNatClampNeg (h.1 57 6)) x2 r14 (ok_bind hO)) ?_
              rintro _ _ ⟨r16, rfl, rfl, hO⟩
              refine rbx hG 5 95 99 [.iadd, .putfield 708] [] [] (wr h 57 8 ((h.1 57 8) + r16)) (fun h17 => [(5, .int r15), (4, .int r14), (3, .ref r1), (0, .ref 57), (1, .int x1), (2, .int x2)]) (fun h17 => []) (fun h17 => h17) [kd 57 = 7] (by decide +kernel) rfl kd_57 hO (fun h17 hO => ?_)
              obtain ⟨g18, hO⟩ := ok_if hO
              refine rb hG 10 99 111 [.aload 0, .dup, .getfield 709, .aload 0, .instanceof 706, .iload 2, .iload 4] [] [] [(5, .int r15), (4, .int r14), (3, .ref r1), (0, .ref 57), (1, .int x1), (2, .int x2)] [.int r14, .int x2, .ref (Int32.toNatClampNeg (h17.1 57 6)), .int (h17.1 57 9), .ref 57] h17 [kd 57 = 7, kd 57 = 7] (by decide +kernel) rfl ⟨kd_57, kd_57⟩ ?_
              refine rv hG z_H_joyOf 139 2 111 (Int32.toNatClampNeg (h17.1 57 6)) [.int x2, .int r14] [.int (h17.1 57 9), .ref 57] (by decide +kernel) mk_H_joyOf lk_7_139 (rcv_H g18) rfl ⟨rfl, Nat.le_of_ble_eq_true rfl⟩ (c_H_joyOf (d := d) h17 (Int32.toNatClampNeg (h17.1 57 6)) x2 r14 (ok_bind hO)) ?_
              rintro _ _ ⟨r19, rfl, rfl, hO⟩
              refine rbx hG 5 114 118 [.iadd, .putfield 709] [] [] (wr h17 57 9 ((h17.1 57 9) + r19)) (fun h20 => [(5, .int r15), (4, .int r14), (3, .ref r1), (0, .ref 57), (1, .int x1), (2, .int x2)]) (fun h20 => []) (fun h20 => h20) [kd 57 = 7] (by decide +kernel) rfl kd_57 hO (fun h20 hO => ?_)
              obtain ⟨g21, hO⟩ := ok_if hO
              refine rb hG 9 118 127 [.aload 0, .iload 2, .iload 4, .aload 0, .instanceof 706, .iload 1] [] [] [(5, .int r15), (4, .int r14), (3, .ref r1), (0, .ref 57), (1, .int x1), (2, .int x2)] [.int x1, .ref (Int32.toNatClampNeg (h20.1 57 6)), .int r14, .int x2, .ref 57] h20 [kd 57 = 7] (by decide +kernel) rfl kd_57 ?_
              refine rv hG z_H_priceOf 142 1 127 (Int32.toNatClampNeg (h20.1 57 6)) [.int x1] [.int r14, .int x2, .ref 57] (by decide +kernel) mk_H_priceOf lk_7_142 (rcv_H g21) rfl ⟨rfl, Nat.le_of_ble_eq_true rfl⟩ (c_H_priceOf (d := d + 1) h20 (Int32.toNatClampNeg (h20.1 57 6)) x1 (ok_bind hO)) ?_
              rintro _ _ ⟨r22, rfl, rfl, hO⟩
              refine rv hG z_S_payAll 145 3 130 57 [.int x2, .int r14, .int r22] [] (by decide +kernel) mk_S_payAll lk_7_145 rcv_57 rfl ⟨rfl, Nat.le_of_ble_eq_true rfl⟩ (c_S_payAll (d := d + 1) h20 x2 r14 r22 (ok_bind hO)) ?_
              rintro _ h23 ⟨rfl, hO⟩
              refine rb hG 6 133 137 [.aload 0, .iload 2, .iload 5] [] [] [(5, .int r15), (4, .int r14), (3, .ref r1), (0, .ref 57), (1, .int x1), (2, .int x2)] [.int r15, .int x2, .ref 57] h23 [] (by decide +kernel) rfl trivial ?_
              refine rv hG z_S_hearAll 149 2 137 57 [.int x2, .int r15] [] (by decide +kernel) mk_S_hearAll lk_7_149 rcv_57 rfl ⟨rfl, Nat.le_of_ble_eq_true rfl⟩ (c_S_hearAll (d := d + 1) h23 x2 r15 (ok_bind hO)) ?_
              rintro _ h24 ⟨rfl, hO⟩
              refine rb hG 6 140 144 [.aload 0, .iload 2, .iload 4] [] [] [(5, .int r15), (4, .int r14), (3, .ref r1), (0, .ref 57), (1, .int x1), (2, .int x2)] [.int r14, .int x2, .ref 57] h24 [] (by decide +kernel) rfl trivial ?_
              refine rv hG z_S_meetAll 153 2 144 57 [.int x2, .int r14] [] (by decide +kernel) mk_S_meetAll lk_7_153 rcv_57 rfl ⟨rfl, Nat.le_of_ble_eq_true rfl⟩ (c_S_meetAll (d := d + 1) h24 x2 r14 (ok_bind hO)) ?_
              rintro _ h25 ⟨rfl, hO⟩
              refine rbx hG 6 147 152 [.aload 3, .iload 2, .putfield 5] [] [] (wr h25 r1 5 x2) (fun h26 => [(5, .int r15), (4, .int r14), (3, .ref r1), (0, .ref 57), (1, .int x1), (2, .int x2)]) (fun h26 => []) (fun h26 => h26) [kd r1 = 0] (by decide +kernel) rfl g3 hO (fun h26 hO => ?_)
              refine rb hG 4 152 153 [.aload 3] [] [] [(5, .int r15), (4, .int r14), (3, .ref r1), (0, .ref 57), (1, .int x1), (2, .int x2)] [.ref r1] h26 [] (by decide +kernel) rfl trivial ?_
              refine rv hG z_B_turnOn 156 0 153 r1 [] [] (by decide +kernel) mk_B_turnOn lk_7_156 (rcv_B g3) rfl ⟨rfl, Nat.le_of_ble_eq_true rfl⟩ (c_B_turnOn (d := d + 2) h26 r1 (ok_bind hO)) ?_
              rintro _ h27 ⟨rfl, hO⟩
              refine rb hG 4 156 157 [.ldc_w 0] [1] [] [(5, .int r15), (4, .int r14), (3, .ref r1), (0, .ref 57), (1, .int x1), (2, .int x2)] [.int (1 : Int32)] h27 [] (by decide +kernel) rfl trivial ?_
              exact eZ hG 157 (by decide +kernel) rfl (Or.inr rfl) ⟨(1 : Int32), rfl, ok_some (Q := P) hO⟩
            · have hO := ok_neg c13 hO
              refine rs hG [] [] rfl ?_
              exact j58 h hO
          · have hO := ok_neg c10 hO
            refine rs hG [] [] rfl ?_
            exact j58 h hO
    · have hO := ok_neg c4 hO
      refine rs hG [] [] rfl ?_
      exact j32 h hO
/-! GrainInn.State.tableOf(I)I -/
noncomputable def S_tableOf_j35 (h : Hp) : Option Int32 := some (-1 : Int32)
noncomputable def S_tableOf_j27 (x2 : Int32) (h : Hp) : Option Int32 := some x2
noncomputable def S_tableOf_b2 (x1 : Int32) (x2 : Int32) (h : Hp) : Option ((Int32) ⊕ Int32) := if (Int32.ofNat (ln 58)) ≤ x2 then (((S_tableOf_j35 h).map Sum.inr)) else (if inb x2 (ln 58) then (if kd (el 58 (Int32.toNatClampNeg x2)) = 0 then ((K_isIn (h.1 (el 58 (Int32.toNatClampNeg x2)) 5) x1).bind fun r4 => if r4 = 0 then (bnd ((x2 + (1 : Int32))) fun y6 => some (.inl y6)) else (((S_tableOf_j27 x2 h).map Sum.inr))) else none) else none)
noncomputable def S_tableOf_l2 (x1 : Int32) (x2 : Int32) (h : Hp) : Option Int32 := lp (fun s : (Int32) => S_tableOf_b2 x1 s h) (x2)
theorem S_tableOf_l2_eq (x1 : Int32) (x2 : Int32) (h : Hp) : S_tableOf_l2 x1 x2 h = (S_tableOf_b2 x1 x2 h).bind (Sum.elim (fun q : (Int32) => S_tableOf_l2 x1 q h) some) := lp_eq _ _
noncomputable def S_tableOf (h : Hp) (x1 : Int32) : Option Int32 := (S_tableOf_l2 x1 (0 : Int32) h)
set_option maxRecDepth 100000 in
set_option maxHeartbeats 4000000 in
theorem c_S_tableOf {E : En} {d : Nat} (h : Hp) (x1 : Int32) {P : Int32 → Prop} (hO : Okk (S_tableOf h x1) P) : Cn E (d + 2) z_S_tableOf [.ref 57, .int x1] h (RIp h P) := by
  refine cn_of (on := 7) (d := d + 1) ⟨rfl, by decide +kernel, Nat.le_of_ble_eq_true rfl⟩ (fun G hG => ?_)
  unfold S_tableOf at hO
  show G 0 [(0, .ref 57), (1, .int x1)] [] h
  have j35 : Okk (S_tableOf_j35 h) P → G 35 [] [] h := by
    intro hO
    unfold S_tableOf_j35 at hO
    refine rb hG 4 35 36 [.ldc_w 0] [-1] [] [] [.int (-1 : Int32)] h [] (by decide +kernel) rfl trivial ?_
    exact eI hG 36 (by decide +kernel) rfl ⟨(-1 : Int32), rfl, rfl, ok_some (Q := P) hO⟩
  have j27 : ∀ (x2 : Int32), Okk (S_tableOf_j27 x2 h) P → G 27 [(2, .int x2)] [] h := by
    intro x2 hO
    unfold S_tableOf_j27 at hO
    refine rb hG 4 27 28 [.iload 2] [] [] [(2, .int x2)] [.int x2] h [] (by decide +kernel) rfl trivial ?_
    exact eI hG 28 (by decide +kernel) rfl ⟨x2, rfl, rfl, ok_some (Q := P) hO⟩
  have l2 : ∀ (x2 : Int32), Okk (S_tableOf_l2 x1 x2 h) P → G 2 [(0, .ref 57), (1, .int x1), (2, .int x2)] [] h := by
    intro x2 hO
    obtain ⟨H2, eH2⟩ : ∃ q : (Int32) → Prop, q = fun s => G 2 [(0, .ref 57), (1, .int x1), (2, .int (s))] [] (h) := ⟨_, rfl⟩
    have w9 : H2 (x2) := by
      refine lp_wp (f := fun s : (Int32) => S_tableOf_b2 x1 s h) (H := H2) (Q := P) ?_ (x2) hO
      intro x2 hO
      rw [eH2]
      show G 2 [(0, .ref 57), (1, .int x1), (2, .int x2)] [] h
      have k2 : ∀ s : (Int32), H2 s → G 2 [(0, .ref 57), (1, .int x1), (2, .int (s))] [] (h) := fun s q => by rw [eH2] at q; exact q
      replace hO : Okk (S_tableOf_b2 x1 x2 h) (Sum.elim H2 P) := hO
      clear eH2
      unfold S_tableOf_b2 at hO
      refine rb hG 7 2 8 [.iload 2, .aload 0, .invokeinterface 700 1, .arraylength] [] [] [(0, .ref 57), (1, .int x1), (2, .int x2)] [.int (Int32.ofNat (ln 58)), .int x2] h [kd 57 = 7, 20 ≤ kd 58 ∧ kd 58 < 27] (by decide +kernel) rfl ⟨kd_57, (show 20 ≤ kd 58 ∧ kd 58 < 27 by decide +kernel)⟩ ?_
      refine rj hG .ge (27) 35 8 (by decide +kernel) (by decide) (fun c1 => ?_) (fun c1 => ?_)
      · have hO := ok_pos c1 hO
        refine rs hG [] [] rfl ?_
        exact j35 (ok_inr hO)
      · have hO := ok_neg c1 hO
        obtain ⟨g2, hO⟩ := ok_if hO
        obtain ⟨g3, hO⟩ := ok_if hO
        refine rb hG 9 11 21 [.aload 0, .invokeinterface 700 1, .iload 2, .aaload, .getfield 5, .iload 1] [] [] [(0, .ref 57), (1, .int x1), (2, .int x2)] [.int x1, .int (h.1 (el 58 (Int32.toNatClampNeg x2)) 5)] h [kd 57 = 7, (kd 58 = 23 ∨ kd 58 = 24 ∨ kd 58 = 25 ∨ kd 58 = 26) ∧ inb x2 (ln 58), kd (el 58 (Int32.toNatClampNeg x2)) = 0] (by decide +kernel) rfl ⟨kd_57, ⟨Or.inr (Or.inr (Or.inl kd_58)), g2⟩, g3⟩ ?_
        refine rt hG z_K_isIn 73 2 21 [.int (h.1 (el 58 (Int32.toNatClampNeg x2)) 5), .int x1] [] (by decide +kernel) mk_K_isIn lk_7_73 rfl ⟨rfl, Nat.le_of_ble_eq_true rfl⟩ (c_K_isIn (d := d) h (h.1 (el 58 (Int32.toNatClampNeg x2)) 5) x1 (ok_bind hO)) ?_
        rintro _ _ ⟨r4, rfl, rfl, hO⟩
        refine ri hG .eq (5) 29 24 (by decide +kernel) (by decide) (fun c5 => ?_) (fun c5 => ?_)
        · have hO := ok_pos c5 hO
          refine rbx hG 4 29 32 [.iinc 2 0] [1] [] ((x2 + (1 : Int32))) (fun y6 => [(2, .int y6), (0, .ref 57), (1, .int x1)]) (fun y6 => []) (fun y6 => h) [] (by decide +kernel) rfl trivial hO (fun y6 hO => ?_)
          refine rb hG 4 32 2 [] [] [] [(2, .int y6), (0, .ref 57), (1, .int x1)] [] h [] (by decide +kernel) rfl trivial ?_
          refine rs hG [(0, .ref 57), (1, .int x1), (2, .int y6)] [1, 2, 0] rfl ?_
          exact k2 y6 (ok_some (Q := (Sum.elim H2 P)) hO)
        · have hO := ok_neg c5 hO
          refine rs hG [(2, .int x2)] [2] rfl ?_
          exact j27 x2 (ok_inr hO)
    rw [eH2] at w9
    exact w9
  refine rb hG 5 0 2 [.ldc_w 0, .istore 2] [0] [] [(2, .int (0 : Int32)), (0, .ref 57), (1, .int x1)] [] h [] (by decide +kernel) rfl trivial ?_
  refine rs hG [(0, .ref 57), (1, .int x1), (2, .int (0 : Int32))] [1, 2, 0] rfl ?_
  exact l2 (0 : Int32) hO
/-! GrainInn.State.speak(II)Z -/
noncomputable def S_speak_j39 (h : Hp) : Option (Int32 × Hp) := some ((0 : Int32), h)
noncomputable def S_speak_j24 (x2 : Int32) (s0 : Nat) (h : Hp) : Option (Int32 × Hp) := if s0 = 0 then ((S_speak_j39 h)) else ((K_isOf x2 (0 : Int32) (10 : Int32)).bind fun r2 => if r2 = 0 then ((S_speak_j39 h)) else (if kd s0 = 0 then (bnd (wr h s0 6 ((h.1 s0 6) ||| (sh (1 : Int32) x2))) fun h5 => (S_hearAll h5 (h5.1 s0 5) (sh (1 : Int32) x2)).bind fun h6 => some ((1 : Int32), h6)) else none))
noncomputable def S_speak (h : Hp) (x1 : Int32) (x2 : Int32) : Option (Int32 × Hp) := if kd (Int32.toNatClampNeg (h.1 57 6)) = 1 then ((H_hasGuest h (Int32.toNatClampNeg (h.1 57 6)) x1).bind fun r8 => if r8 = 0 then ((S_speak_j24 x2 0 h)) else ((S_tableOf h x1).bind fun r10 => (S_benchAt h r10).bind fun r11 => (S_speak_j24 x2 r11 h))) else none
set_option maxRecDepth 100000 in
set_option maxHeartbeats 4000000 in
theorem c_S_speak {E : En} {d : Nat} (h : Hp) (x1 : Int32) (x2 : Int32) {P : (Int32 × Hp) → Prop} (hO : Okk (S_speak h x1 x2) P) : Cn E (d + 3) z_S_speak [.ref 57, .int x1, .int x2] h (RI P) := by
  refine cn_of (on := 7) (d := d + 2) ⟨rfl, by decide +kernel, Nat.le_of_ble_eq_true rfl⟩ (fun G hG => ?_)
  unfold S_speak at hO
  show G 0 [(0, .ref 57), (1, .int x1), (2, .int x2)] [] h
  have j39 : ∀ (h : Hp), Okk (S_speak_j39 h) P → G 39 [] [] h := by
    intro h hO
    unfold S_speak_j39 at hO
    refine rb hG 4 39 40 [.ldc_w 0] [0] [] [] [.int (0 : Int32)] h [] (by decide +kernel) rfl trivial ?_
    exact eZ hG 40 (by decide +kernel) rfl (Or.inl rfl) ⟨(0 : Int32), rfl, ok_some (Q := P) hO⟩
  have j24 : ∀ (s0 : Nat) (h : Hp), Okk (S_speak_j24 x2 s0 h) P → G 24 [(0, .ref 57), (2, .int x2)] [.ref s0] h := by
    intro s0 h hO
    unfold S_speak_j24 at hO
    refine rb hG 5 24 26 [.astore 3, .aload 3] [] [] [(3, .ref s0), (0, .ref 57), (2, .int x2)] [.ref s0] h [] (by decide +kernel) rfl trivial ?_
    refine rn hG (13) 39 26 (by decide +kernel) (by decide) (fun c1 => ?_) (fun c1 => ?_)
    · have hO := ok_pos c1 hO
      refine rs hG [] [] rfl ?_
      exact j39 h hO
    · have hO := ok_neg c1 hO
      refine rb hG 6 29 33 [.iload 2, .ldc_w 0, .ldc_w 1] [0, 10] [] [(3, .ref s0), (0, .ref 57), (2, .int x2)] [.int (10 : Int32), .int (0 : Int32), .int x2] h [] (by decide +kernel) rfl trivial ?_
      refine rt hG z_K_isOf 165 3 33 [.int x2, .int (0 : Int32), .int (10 : Int32)] [] (by decide +kernel) mk_K_isOf lk_7_165 rfl ⟨rfl, Nat.le_of_ble_eq_true rfl⟩ (c_K_isOf (d := d + 1) h x2 (0 : Int32) (10 : Int32) (ok_bind hO)) ?_
      rintro _ _ ⟨r2, rfl, rfl, hO⟩
      refine riN hG (5) 41 36 (by decide +kernel) (by decide) (fun c3 => ?_) (fun c3 => ?_)
      · have hO := ok_pos c3 hO
        refine rs hG [] [] rfl ?_
        exact j39 h hO
      · have hO := ok_neg c3 hO
        obtain ⟨g4, hO⟩ := ok_if hO
        refine rbx hG 11 41 53 [.aload 3, .dup, .getfield 6, .ldc_w 0, .iload 2, .ishl, .ior, .putfield 6] [1] [] (wr h s0 6 ((h.1 s0 6) ||| (sh (1 : Int32) x2))) (fun h5 => [(3, .ref s0), (0, .ref 57), (2, .int x2)]) (fun h5 => []) (fun h5 => h5) [kd s0 = 0, kd s0 = 0] (by decide +kernel) rfl ⟨g4, g4⟩ hO (fun h5 hO => ?_)
        refine rb hG 9 53 61 [.aload 0, .aload 3, .getfield 5, .ldc_w 0, .iload 2, .ishl] [1] [] [(3, .ref s0), (0, .ref 57), (2, .int x2)] [.int (sh (1 : Int32) x2), .int (h5.1 s0 5), .ref 57] h5 [kd s0 = 0] (by decide +kernel) rfl g4 ?_
        refine rv hG z_S_hearAll 149 2 61 57 [.int (h5.1 s0 5), .int (sh (1 : Int32) x2)] [] (by decide +kernel) mk_S_hearAll lk_7_149 rcv_57 rfl ⟨rfl, Nat.le_of_ble_eq_true rfl⟩ (c_S_hearAll (d := d) h5 (h5.1 s0 5) (sh (1 : Int32) x2) (ok_bind hO)) ?_
        rintro _ h6 ⟨rfl, hO⟩
        refine rb hG 4 64 65 [.ldc_w 0] [1] [] [(3, .ref s0), (0, .ref 57), (2, .int x2)] [.int (1 : Int32)] h6 [] (by decide +kernel) rfl trivial ?_
        exact eZ hG 65 (by decide +kernel) rfl (Or.inr rfl) ⟨(1 : Int32), rfl, ok_some (Q := P) hO⟩
  obtain ⟨g7, hO⟩ := ok_if hO
  refine rb hG 6 0 5 [.aload 0, .instanceof 706, .iload 1] [] [] [(0, .ref 57), (1, .int x1), (2, .int x2)] [.int x1, .ref (Int32.toNatClampNeg (h.1 57 6))] h [kd 57 = 7] (by decide +kernel) rfl kd_57 ?_
  refine rv hG z_H_hasGuest 159 1 5 (Int32.toNatClampNeg (h.1 57 6)) [.int x1] [] (by decide +kernel) mk_H_hasGuest lk_7_159 (rcv_H g7) rfl ⟨rfl, Nat.le_of_ble_eq_true rfl⟩ (c_H_hasGuest (d := d + 1) h (Int32.toNatClampNeg (h.1 57 6)) x1 (ok_bind hO)) ?_
  rintro _ _ ⟨r8, rfl, rfl, hO⟩
  refine ri hG .eq (15) 23 8 (by decide +kernel) (by decide) (fun c9 => ?_) (fun c9 => ?_)
  · have hO := ok_pos c9 hO
    refine rb hG 4 23 24 [.aconst_null] [] [] [(0, .ref 57), (1, .int x1), (2, .int x2)] [.ref 0] h [] (by decide +kernel) rfl trivial ?_
    refine rs hG [(0, .ref 57), (2, .int x2)] [0, 2] rfl ?_
    exact j24 0 h hO
  · have hO := ok_neg c9 hO
    refine rb hG 6 11 14 [.aload 0, .aload 0, .iload 1] [] [] [(0, .ref 57), (1, .int x1), (2, .int x2)] [.int x1, .ref 57, .ref 57] h [] (by decide +kernel) rfl trivial ?_
    refine rv hG z_S_tableOf 162 1 14 57 [.int x1] [.ref 57] (by decide +kernel) mk_S_tableOf lk_7_162 rcv_57 rfl ⟨rfl, Nat.le_of_ble_eq_true rfl⟩ (c_S_tableOf (d := d) h x1 (ok_bind hO)) ?_
    rintro _ _ ⟨r10, rfl, rfl, hO⟩
    refine rv hG z_S_benchAt 107 1 17 57 [.int r10] [] (by decide +kernel) mk_S_benchAt lk_7_107 rcv_57 rfl ⟨rfl, Nat.le_of_ble_eq_true rfl⟩ (c_S_benchAt (d := d) h r10 (ok_bind hO)) ?_
    rintro _ _ ⟨r11, rfl, rfl, hO⟩
    refine rb hG 4 20 24 [] [] [] [(0, .ref 57), (1, .int x1), (2, .int x2)] [.ref r11] h [] (by decide +kernel) rfl trivial ?_
    refine rs hG [(0, .ref 57), (2, .int x2)] [0, 2] rfl ?_
    exact j24 r11 h hO
/-! GrainInn.Bench.append(III)V -/
noncomputable def B_append_j49 (x0 : Nat) (h : Hp) : Option Hp := some h
noncomputable def B_append (h : Hp) (x0 : Nat) (x1 : Int32) (x2 : Int32) (x3 : Int32) : Option Hp := if kd x0 = 0 then (if (12 : Int32) ≤ (h.1 x0 3) then ((B_append_j49 x0 h)) else (if kd (x0 + 1) = 20 ∧ inb (h.1 x0 3) (ln (x0 + 1)) then (bnd (wr h (x0 + 1) (Int32.toNatClampNeg (h.1 x0 3)) x1) fun h3 => if kd (x0 + 2) = 20 ∧ inb (h3.1 x0 3) (ln (x0 + 2)) then (bnd (wr h3 (x0 + 2) (Int32.toNatClampNeg (h3.1 x0 3)) x2) fun h5 => if kd (x0 + 3) = 20 ∧ inb (h5.1 x0 3) (ln (x0 + 3)) then (bnd (wr h5 (x0 + 3) (Int32.toNatClampNeg (h5.1 x0 3)) x3) fun h7 => bnd (wr h7 x0 3 ((h7.1 x0 3) + (1 : Int32))) fun h8 => (B_append_j49 x0 h8)) else none) else none) else none)) else none
set_option maxRecDepth 100000 in
set_option maxHeartbeats 4000000 in
theorem c_B_append {E : En} {d : Nat} (h : Hp) (x0 : Nat) (x1 : Int32) (x2 : Int32) (x3 : Int32) {P : Hp → Prop} (hO : Okk (B_append h x0 x1 x2 x3) P) : Cn E (d + 1) z_B_append [.ref x0, .int x1, .int x2, .int x3] h (RV P) := by
  refine cn_of (on := 0) (d := d + 0) ⟨rfl, by decide +kernel, Nat.le_of_ble_eq_true rfl⟩ (fun G hG => ?_)
  unfold B_append at hO
  show G 0 [(0, .ref x0), (1, .int x1), (2, .int x2), (3, .int x3)] [] h
  obtain ⟨g0, hO⟩ := ok_if hO
  have j49 : ∀ (h : Hp), Okk (B_append_j49 x0 h) P → G 49 [] [] h := by
    intro h hO
    unfold B_append_j49 at hO
    exact eV hG 49 (by decide +kernel) rfl ⟨rfl, ok_some (Q := P) hO⟩
  refine rb hG 6 0 6 [.aload 0, .getfield 3, .ldc_w 0] [12] [] [(0, .ref x0), (1, .int x1), (2, .int x2), (3, .int x3)] [.int (12 : Int32), .int (h.1 x0 3)] h [kd x0 = 0] (by decide +kernel) rfl g0 ?_
  refine rj hG .ge (43) 49 6 (by decide +kernel) (by decide) (fun c1 => ?_) (fun c1 => ?_)
  · have hO := ok_pos c1 hO
    refine rs hG [] [] rfl ?_
    exact j49 h hO
  · have hO := ok_neg c1 hO
    obtain ⟨g2, hO⟩ := ok_if hO
    refine rbx hG 9 9 19 [.aload 0, .invokeinterface 0 1, .aload 0, .getfield 3, .iload 1, .iastore] [] [] (wr h (x0 + 1) (Int32.toNatClampNeg (h.1 x0 3)) x1) (fun h3 => [(0, .ref x0), (1, .int x1), (2, .int x2), (3, .int x3)]) (fun h3 => []) (fun h3 => h3) [kd x0 = 0, kd x0 = 0, kd (x0 + 1) = 20 ∧ inb (h.1 x0 3) (ln (x0 + 1))] (by decide +kernel) rfl ⟨g0, g0, g2⟩ hO (fun h3 hO => ?_)
    obtain ⟨g4, hO⟩ := ok_if hO
    refine rbx hG 9 19 29 [.aload 0, .invokeinterface 1 2, .aload 0, .getfield 3, .iload 2, .iastore] [] [] (wr h3 (x0 + 2) (Int32.toNatClampNeg (h3.1 x0 3)) x2) (fun h5 => [(0, .ref x0), (1, .int x1), (2, .int x2), (3, .int x3)]) (fun h5 => []) (fun h5 => h5) [kd x0 = 0, kd x0 = 0, kd (x0 + 2) = 20 ∧ inb (h3.1 x0 3) (ln (x0 + 2))] (by decide +kernel) rfl ⟨g0, g0, g4⟩ hO (fun h5 hO => ?_)
    obtain ⟨g6, hO⟩ := ok_if hO
    refine rbx hG 9 29 39 [.aload 0, .invokeinterface 2 3, .aload 0, .getfield 3, .iload 3, .iastore] [] [] (wr h5 (x0 + 3) (Int32.toNatClampNeg (h5.1 x0 3)) x3) (fun h7 => [(0, .ref x0), (1, .int x1), (2, .int x2), (3, .int x3)]) (fun h7 => []) (fun h7 => h7) [kd x0 = 0, kd x0 = 0, kd (x0 + 3) = 20 ∧ inb (h5.1 x0 3) (ln (x0 + 3))] (by decide +kernel) rfl ⟨g0, g0, g6⟩ hO (fun h7 hO => ?_)
    refine rbx hG 9 39 49 [.aload 0, .dup, .getfield 3, .ldc_w 0, .iadd, .putfield 3] [1] [] (wr h7 x0 3 ((h7.1 x0 3) + (1 : Int32))) (fun h8 => [(0, .ref x0), (1, .int x1), (2, .int x2), (3, .int x3)]) (fun h8 => []) (fun h8 => h8) [kd x0 = 0, kd x0 = 0] (by decide +kernel) rfl ⟨g0, g0⟩ hO (fun h8 hO => ?_)
    refine rs hG [] [] rfl ?_
    exact j49 h8 hO
/-! GrainInn.Bench.forgetFirst(I)V -/
noncomputable def B_forgetFirst_j12 (x0 : Nat) (h : Hp) : Option Hp := some h
noncomputable def B_forgetFirst_j71 (x0 : Nat) (x1 : Int32) (h : Hp) : Option Hp := bnd (wr h x0 3 ((h.1 x0 3) - x1)) fun h1 => bnd (wr h1 x0 4 (mx (0 : Int32) ((h1.1 x0 4) - x1))) fun h2 => some h2
noncomputable def B_forgetFirst_b15 (x0 : Nat) (x1 : Int32) (x2 : Int32) (h : Hp) : Option ((Int32 × Hp) ⊕ Hp) := if (h.1 x0 3) ≤ x2 then (((B_forgetFirst_j71 x0 x1 h).map Sum.inr)) else (if kd (x0 + 1) = 20 ∧ inb x2 (ln (x0 + 1)) then (if kd (x0 + 1) = 20 ∧ inb (x2 - x1) (ln (x0 + 1)) then (bnd (wr h (x0 + 1) (Int32.toNatClampNeg (x2 - x1)) (h.1 (x0 + 1) (Int32.toNatClampNeg x2))) fun h6 => if kd (x0 + 2) = 20 ∧ inb x2 (ln (x0 + 2)) then (if kd (x0 + 2) = 20 ∧ inb (x2 - x1) (ln (x0 + 2)) then (bnd (wr h6 (x0 + 2) (Int32.toNatClampNeg (x2 - x1)) (h6.1 (x0 + 2) (Int32.toNatClampNeg x2))) fun h9 => if kd (x0 + 3) = 20 ∧ inb x2 (ln (x0 + 3)) then (if kd (x0 + 3) = 20 ∧ inb (x2 - x1) (ln (x0 + 3)) then (bnd (wr h9 (x0 + 3) (Int32.toNatClampNeg (x2 - x1)) (h9.1 (x0 + 3) (Int32.toNatClampNeg x2))) fun h12 => bnd ((x2 + (1 : Int32))) fun y13 => some (.inl (y13, h12))) else none) else none) else none) else none) else none) else none)
noncomputable def B_forgetFirst_l15 (x0 : Nat) (x1 : Int32) (x2 : Int32) (h : Hp) : Option Hp := lp (fun s : (Int32 × Hp) => B_forgetFirst_b15 x0 x1 s.1 s.2) (x2, h)
theorem B_forgetFirst_l15_eq (x0 : Nat) (x1 : Int32) (x2 : Int32) (h : Hp) : B_forgetFirst_l15 x0 x1 x2 h = (B_forgetFirst_b15 x0 x1 x2 h).bind (Sum.elim (fun q : (Int32 × Hp) => B_forgetFirst_l15 x0 x1 q.1 q.2) some) := lp_eq _ _
noncomputable def B_forgetFirst (h : Hp) (x0 : Nat) (x1 : Int32) : Option Hp := if kd x0 = 0 then (if x1 ≤ 0 then ((B_forgetFirst_j12 x0 h)) else (if x1 ≤ (h.1 x0 3) then ((B_forgetFirst_l15 x0 x1 x1 h)) else ((B_forgetFirst_j12 x0 h)))) else none
set_option maxRecDepth 100000 in
set_option maxHeartbeats 4000000 in
theorem c_B_forgetFirst {E : En} {d : Nat} (h : Hp) (x0 : Nat) (x1 : Int32) {P : Hp → Prop} (hO : Okk (B_forgetFirst h x0 x1) P) : Cn E (d + 1) z_B_forgetFirst [.ref x0, .int x1] h (RV P) := by
  refine cn_of (on := 0) (d := d + 0) ⟨rfl, by decide +kernel, Nat.le_of_ble_eq_true rfl⟩ (fun G hG => ?_)
  unfold B_forgetFirst at hO
  show G 0 [(0, .ref x0), (1, .int x1)] [] h
  obtain ⟨g0, hO⟩ := ok_if hO
  have j12 : ∀ (h : Hp), Okk (B_forgetFirst_j12 x0 h) P → G 12 [] [] h := by
    intro h hO
    unfold B_forgetFirst_j12 at hO
    exact eV hG 12 (by decide +kernel) rfl ⟨rfl, ok_some (Q := P) hO⟩
  have j71 : ∀ (h : Hp), Okk (B_forgetFirst_j71 x0 x1 h) P → G 71 [(0, .ref x0), (1, .int x1)] [] h := by
    intro h hO
    unfold B_forgetFirst_j71 at hO
    refine rbx hG 9 71 81 [.aload 0, .dup, .getfield 3, .iload 1, .isub, .putfield 3] [] [] (wr h x0 3 ((h.1 x0 3) - x1)) (fun h1 => [(0, .ref x0), (1, .int x1)]) (fun h1 => []) (fun h1 => h1) [kd x0 = 0, kd x0 = 0] (by decide +kernel) rfl ⟨g0, g0⟩ hO (fun h1 hO => ?_)
    refine rbx hG 11 81 95 [.aload 0, .ldc_w 0, .aload 0, .getfield 4, .iload 1, .isub, .invokestatic 1, .putfield 4] [0] [] (wr h1 x0 4 (mx (0 : Int32) ((h1.1 x0 4) - x1))) (fun h2 => [(0, .ref x0), (1, .int x1)]) (fun h2 => []) (fun h2 => h2) [kd x0 = 0, sm [.ref x0] ≤ 8, kd x0 = 0] (by decide +kernel) rfl ⟨g0, Nat.le_of_ble_eq_true rfl, g0⟩ hO (fun h2 hO => ?_)
    exact eV hG 95 (by decide +kernel) rfl ⟨rfl, ok_some (Q := P) hO⟩
  have l15 : ∀ (x2 : Int32) (h : Hp), Okk (B_forgetFirst_l15 x0 x1 x2 h) P → G 15 [(0, .ref x0), (1, .int x1), (2, .int x2)] [] h := by
    intro x2 h hO
    obtain ⟨H15, eH15⟩ : ∃ q : (Int32 × Hp) → Prop, q = fun s => G 15 [(0, .ref x0), (1, .int x1), (2, .int (s.1))] [] (s.2) := ⟨_, rfl⟩
    have w9 : H15 (x2, h) := by
      refine lp_wp (f := fun s : (Int32 × Hp) => B_forgetFirst_b15 x0 x1 s.1 s.2) (H := H15) (Q := P) ?_ (x2, h) hO
      rintro ⟨x2, h⟩ hO
      rw [eH15]
      show G 15 [(0, .ref x0), (1, .int x1), (2, .int x2)] [] h
      have k15 : ∀ s : (Int32 × Hp), H15 s → G 15 [(0, .ref x0), (1, .int x1), (2, .int (s.1))] [] (s.2) := fun s q => by rw [eH15] at q; exact q
      replace hO : Okk (B_forgetFirst_b15 x0 x1 x2 h) (Sum.elim H15 P) := hO
      clear eH15
      unfold B_forgetFirst_b15 at hO
      refine rb hG 6 15 20 [.iload 2, .aload 0, .getfield 3] [] [] [(0, .ref x0), (1, .int x1), (2, .int x2)] [.int (h.1 x0 3), .int x2] h [kd x0 = 0] (by decide +kernel) rfl g0 ?_
      refine rj hG .ge (51) 71 20 (by decide +kernel) (by decide) (fun c3 => ?_) (fun c3 => ?_)
      · have hO := ok_pos c3 hO
        refine rs hG [(0, .ref x0), (1, .int x1)] [0, 1] rfl ?_
        exact j71 h (ok_inr hO)
      · have hO := ok_neg c3 hO
        obtain ⟨g4, hO⟩ := ok_if hO
        obtain ⟨g5, hO⟩ := ok_if hO
        refine rbx hG 13 23 37 [.aload 0, .invokeinterface 0 1, .iload 2, .iload 1, .isub, .aload 0, .invokeinterface 0 1, .iload 2, .iaload, .iastore] [] [] (wr h (x0 + 1) (Int32.toNatClampNeg (x2 - x1)) (h.1 (x0 + 1) (Int32.toNatClampNeg x2))) (fun h6 => [(0, .ref x0), (1, .int x1), (2, .int x2)]) (fun h6 => []) (fun h6 => h6) [kd x0 = 0, kd x0 = 0, kd (x0 + 1) = 20 ∧ inb x2 (ln (x0 + 1)), kd (x0 + 1) = 20 ∧ inb (x2 - x1) (ln (x0 + 1))] (by decide +kernel) rfl ⟨g0, g0, g4, g5⟩ hO (fun h6 hO => ?_)
        obtain ⟨g7, hO⟩ := ok_if hO
        obtain ⟨g8, hO⟩ := ok_if hO
        refine rbx hG 13 37 51 [.aload 0, .invokeinterface 1 2, .iload 2, .iload 1, .isub, .aload 0, .invokeinterface 1 2, .iload 2, .iaload, .iastore] [] [] (wr h6 (x0 + 2) (Int32.toNatClampNeg (x2 - x1)) (h6.1 (x0 + 2) (Int32.toNatClampNeg x2))) (fun h9 => [(0, .ref x0), (1, .int x1), (2, .int x2)]) (fun h9 => []) (fun h9 => h9) [kd x0 = 0, kd x0 = 0, kd (x0 + 2) = 20 ∧ inb x2 (ln (x0 + 2)), kd (x0 + 2) = 20 ∧ inb (x2 - x1) (ln (x0 + 2))] (by decide +kernel) rfl ⟨g0, g0, g7, g8⟩ hO (fun h9 hO => ?_)
        obtain ⟨g10, hO⟩ := ok_if hO
        obtain ⟨g11, hO⟩ := ok_if hO
        refine rbx hG 13 51 65 [.aload 0, .invokeinterface 2 3, .iload 2, .iload 1, .isub, .aload 0, .invokeinterface 2 3, .iload 2, .iaload, .iastore] [] [] (wr h9 (x0 + 3) (Int32.toNatClampNeg (x2 - x1)) (h9.1 (x0 + 3) (Int32.toNatClampNeg x2))) (fun h12 => [(0, .ref x0), (1, .int x1), (2, .int x2)]) (fun h12 => []) (fun h12 => h12) [kd x0 = 0, kd x0 = 0, kd (x0 + 3) = 20 ∧ inb x2 (ln (x0 + 3)), kd (x0 + 3) = 20 ∧ inb (x2 - x1) (ln (x0 + 3))] (by decide +kernel) rfl ⟨g0, g0, g10, g11⟩ hO (fun h12 hO => ?_)
        refine rbx hG 4 65 68 [.iinc 2 0] [1] [] ((x2 + (1 : Int32))) (fun y13 => [(2, .int y13), (0, .ref x0), (1, .int x1)]) (fun y13 => []) (fun y13 => h12) [] (by decide +kernel) rfl trivial hO (fun y13 hO => ?_)
        refine rb hG 4 68 15 [] [] [] [(2, .int y13), (0, .ref x0), (1, .int x1)] [] h12 [] (by decide +kernel) rfl trivial ?_
        refine rs hG [(0, .ref x0), (1, .int x1), (2, .int y13)] [1, 2, 0] rfl ?_
        exact k15 (y13, h12) (ok_some (Q := (Sum.elim H15 P)) hO)
    rw [eH15] at w9
    exact w9
  refine rb hG 4 0 1 [.iload 1] [] [] [(0, .ref x0), (1, .int x1)] [.int x1] h [] (by decide +kernel) rfl trivial ?_
  refine ri hG .le (11) 12 1 (by decide +kernel) (by decide) (fun c14 => ?_) (fun c14 => ?_)
  · have hO := ok_pos c14 hO
    refine rs hG [] [] rfl ?_
    exact j12 h hO
  · have hO := ok_neg c14 hO
    refine rb hG 6 4 9 [.iload 1, .aload 0, .getfield 3] [] [] [(0, .ref x0), (1, .int x1)] [.int (h.1 x0 3), .int x1] h [kd x0 = 0] (by decide +kernel) rfl g0 ?_
    refine rj hG .le (4) 13 9 (by decide +kernel) (by decide) (fun c15 => ?_) (fun c15 => ?_)
    · have hO := ok_pos c15 hO
      refine rb hG 5 13 15 [.iload 1, .istore 2] [] [] [(2, .int x1), (0, .ref x0), (1, .int x1)] [] h [] (by decide +kernel) rfl trivial ?_
      refine rs hG [(0, .ref x0), (1, .int x1), (2, .int x1)] [1, 2, 0] rfl ?_
      exact l15 x1 h hO
    · have hO := ok_neg c15 hO
      refine rs hG [] [] rfl ?_
      exact j12 h hO
/-! GrainInn.Bench.endNight(II)V -/
noncomputable def B_endNight_j30 (x0 : Nat) (h : Hp) : Option Hp := bnd (wr h x0 5 (0 : Int32)) fun h1 => bnd (wr h1 x0 6 (0 : Int32)) fun h2 => some h2
noncomputable def B_endNight (h : Hp) (x0 : Nat) (x1 : Int32) (x2 : Int32) : Option Hp := if kd x0 = 0 then (if (h.1 x0 5) = 0 then ((B_endNight_j30 x0 h)) else ((B_append h x0 (h.1 x0 5) (h.1 x0 6) x1).bind fun h4 => (B_forgetFirst h4 x0 ((h4.1 x0 3) - x2)).bind fun h5 => (B_endNight_j30 x0 h5))) else none
set_option maxRecDepth 100000 in
set_option maxHeartbeats 4000000 in
theorem c_B_endNight {E : En} {d : Nat} (h : Hp) (x0 : Nat) (x1 : Int32) (x2 : Int32) {P : Hp → Prop} (hO : Okk (B_endNight h x0 x1 x2) P) : Cn E (d + 2) z_B_endNight [.ref x0, .int x1, .int x2] h (RV P) := by
  refine cn_of (on := 0) (d := d + 1) ⟨rfl, by decide +kernel, Nat.le_of_ble_eq_true rfl⟩ (fun G hG => ?_)
  unfold B_endNight at hO
  show G 0 [(0, .ref x0), (1, .int x1), (2, .int x2)] [] h
  obtain ⟨g0, hO⟩ := ok_if hO
  have j30 : ∀ (h : Hp), Okk (B_endNight_j30 x0 h) P → G 30 [(0, .ref x0)] [] h := by
    intro h hO
    unfold B_endNight_j30 at hO
    refine rbx hG 6 30 35 [.aload 0, .ldc_w 0, .putfield 5] [0] [] (wr h x0 5 (0 : Int32)) (fun h1 => [(0, .ref x0)]) (fun h1 => []) (fun h1 => h1) [kd x0 = 0] (by decide +kernel) rfl g0 hO (fun h1 hO => ?_)
    refine rbx hG 6 35 40 [.aload 0, .ldc_w 0, .putfield 6] [0] [] (wr h1 x0 6 (0 : Int32)) (fun h2 => [(0, .ref x0)]) (fun h2 => []) (fun h2 => h2) [kd x0 = 0] (by decide +kernel) rfl g0 hO (fun h2 hO => ?_)
    exact eV hG 40 (by decide +kernel) rfl ⟨rfl, ok_some (Q := P) hO⟩
  refine rb hG 5 0 4 [.aload 0, .getfield 5] [] [] [(0, .ref x0), (1, .int x1), (2, .int x2)] [.int (h.1 x0 5)] h [kd x0 = 0] (by decide +kernel) rfl g0 ?_
  refine ri hG .eq (26) 30 4 (by decide +kernel) (by decide) (fun c3 => ?_) (fun c3 => ?_)
  · have hO := ok_pos c3 hO
    refine rs hG [(0, .ref x0)] [0] rfl ?_
    exact j30 h hO
  · have hO := ok_neg c3 hO
    refine rb hG 9 7 17 [.aload 0, .aload 0, .getfield 5, .aload 0, .getfield 6, .iload 1] [] [] [(0, .ref x0), (1, .int x1), (2, .int x2)] [.int x1, .int (h.1 x0 6), .int (h.1 x0 5), .ref x0] h [kd x0 = 0, kd x0 = 0] (by decide +kernel) rfl ⟨g0, g0⟩ ?_
    refine rv hG z_B_append 47 3 17 x0 [.int (h.1 x0 5), .int (h.1 x0 6), .int x1] [] (by decide +kernel) mk_B_append lk_0_47 (rcv_B g0) rfl ⟨rfl, Nat.le_of_ble_eq_true rfl⟩ (c_B_append (d := d) h x0 (h.1 x0 5) (h.1 x0 6) x1 (ok_bind hO)) ?_
    rintro _ h4 ⟨rfl, hO⟩
    refine rb hG 8 20 27 [.aload 0, .aload 0, .getfield 3, .iload 2, .isub] [] [] [(0, .ref x0), (1, .int x1), (2, .int x2)] [.int ((h4.1 x0 3) - x2), .ref x0] h4 [kd x0 = 0] (by decide +kernel) rfl g0 ?_
    refine rv hG z_B_forgetFirst 57 1 27 x0 [.int ((h4.1 x0 3) - x2)] [] (by decide +kernel) mk_B_forgetFirst lk_0_57 (rcv_B g0) rfl ⟨rfl, Nat.le_of_ble_eq_true rfl⟩ (c_B_forgetFirst (d := d) h4 x0 ((h4.1 x0 3) - x2) (ok_bind hO)) ?_
    rintro _ h5 ⟨rfl, hO⟩
    refine rs hG [(0, .ref x0)] [0] rfl ?_
    exact j30 h5 hO
/-! GrainInn.State.endNight()V -/
noncomputable def S_endNight_j38 (h : Hp) : Option Hp := bnd (wr h 57 7 ((h.1 57 7) + (1 : Int32))) fun h1 => some h1
noncomputable def S_endNight_b2 (x1 : Int32) (h : Hp) : Option ((Int32 × Hp) ⊕ Hp) := if (Int32.ofNat (ln 58)) ≤ x1 then (((S_endNight_j38 h).map Sum.inr)) else (if inb x1 (ln 58) then (if kd (Int32.toNatClampNeg (h.1 57 6)) = 1 then ((H_keepsOf h (Int32.toNatClampNeg (h.1 57 6)) x1).bind fun r5 => if kd (el 58 (Int32.toNatClampNeg x1)) = 0 then ((B_endNight h (el 58 (Int32.toNatClampNeg x1)) (h.1 57 7) r5).bind fun h7 => bnd ((x1 + (1 : Int32))) fun y8 => some (.inl (y8, h7))) else none) else none) else none)
noncomputable def S_endNight_l2 (x1 : Int32) (h : Hp) : Option Hp := lp (fun s : (Int32 × Hp) => S_endNight_b2 s.1 s.2) (x1, h)
theorem S_endNight_l2_eq (x1 : Int32) (h : Hp) : S_endNight_l2 x1 h = (S_endNight_b2 x1 h).bind (Sum.elim (fun q : (Int32 × Hp) => S_endNight_l2 q.1 q.2) some) := lp_eq _ _
noncomputable def S_endNight (h : Hp) : Option Hp := (S_endNight_l2 (0 : Int32) h)
set_option maxRecDepth 100000 in
set_option maxHeartbeats 4000000 in
theorem c_S_endNight {E : En} {d : Nat} (h : Hp) {P : Hp → Prop} (hO : Okk (S_endNight h) P) : Cn E (d + 3) z_S_endNight [.ref 57] h (RV P) := by
  refine cn_of (on := 7) (d := d + 2) ⟨rfl, by decide +kernel, Nat.le_of_ble_eq_true rfl⟩ (fun G hG => ?_)
  unfold S_endNight at hO
  show G 0 [(0, .ref 57)] [] h
  have j38 : ∀ (h : Hp), Okk (S_endNight_j38 h) P → G 38 [(0, .ref 57)] [] h := by
    intro h hO
    unfold S_endNight_j38 at hO
    refine rbx hG 9 38 48 [.aload 0, .dup, .getfield 707, .ldc_w 0, .iadd, .putfield 707] [1] [] (wr h 57 7 ((h.1 57 7) + (1 : Int32))) (fun h1 => [(0, .ref 57)]) (fun h1 => []) (fun h1 => h1) [kd 57 = 7, kd 57 = 7] (by decide +kernel) rfl ⟨kd_57, kd_57⟩ hO (fun h1 hO => ?_)
    exact eV hG 48 (by decide +kernel) rfl ⟨rfl, ok_some (Q := P) hO⟩
  have l2 : ∀ (x1 : Int32) (h : Hp), Okk (S_endNight_l2 x1 h) P → G 2 [(0, .ref 57), (1, .int x1)] [] h := by
    intro x1 h hO
    obtain ⟨H2, eH2⟩ : ∃ q : (Int32 × Hp) → Prop, q = fun s => G 2 [(0, .ref 57), (1, .int (s.1))] [] (s.2) := ⟨_, rfl⟩
    have w9 : H2 (x1, h) := by
      refine lp_wp (f := fun s : (Int32 × Hp) => S_endNight_b2 s.1 s.2) (H := H2) (Q := P) ?_ (x1, h) hO
      rintro ⟨x1, h⟩ hO
      rw [eH2]
      show G 2 [(0, .ref 57), (1, .int x1)] [] h
      have k2 : ∀ s : (Int32 × Hp), H2 s → G 2 [(0, .ref 57), (1, .int (s.1))] [] (s.2) := fun s q => by rw [eH2] at q; exact q
      replace hO : Okk (S_endNight_b2 x1 h) (Sum.elim H2 P) := hO
      clear eH2
      unfold S_endNight_b2 at hO
      refine rb hG 7 2 8 [.iload 1, .aload 0, .invokeinterface 700 1, .arraylength] [] [] [(0, .ref 57), (1, .int x1)] [.int (Int32.ofNat (ln 58)), .int x1] h [kd 57 = 7, 20 ≤ kd 58 ∧ kd 58 < 27] (by decide +kernel) rfl ⟨kd_57, (show 20 ≤ kd 58 ∧ kd 58 < 27 by decide +kernel)⟩ ?_
      refine rj hG .ge (30) 38 8 (by decide +kernel) (by decide) (fun c2 => ?_) (fun c2 => ?_)
      · have hO := ok_pos c2 hO
        refine rs hG [(0, .ref 57)] [0] rfl ?_
        exact j38 h (ok_inr hO)
      · have hO := ok_neg c2 hO
        obtain ⟨g3, hO⟩ := ok_if hO
        obtain ⟨g4, hO⟩ := ok_if hO
        refine rb hG 12 11 26 [.aload 0, .invokeinterface 700 1, .iload 1, .aaload, .aload 0, .getfield 707, .aload 0, .instanceof 706, .iload 1] [] [] [(0, .ref 57), (1, .int x1)] [.int x1, .ref (Int32.toNatClampNeg (h.1 57 6)), .int (h.1 57 7), .ref (el 58 (Int32.toNatClampNeg x1))] h [kd 57 = 7, (kd 58 = 23 ∨ kd 58 = 24 ∨ kd 58 = 25 ∨ kd 58 = 26) ∧ inb x1 (ln 58), kd 57 = 7, kd 57 = 7] (by decide +kernel) rfl ⟨kd_57, ⟨Or.inr (Or.inr (Or.inl kd_58)), g3⟩, kd_57, kd_57⟩ ?_
        refine rv hG z_H_keepsOf 172 1 26 (Int32.toNatClampNeg (h.1 57 6)) [.int x1] [.int (h.1 57 7), .ref (el 58 (Int32.toNatClampNeg x1))] (by decide +kernel) mk_H_keepsOf lk_7_172 (rcv_H g4) rfl ⟨rfl, Nat.le_of_ble_eq_true rfl⟩ (c_H_keepsOf (d := d) h (Int32.toNatClampNeg (h.1 57 6)) x1 (ok_bind hO)) ?_
        rintro _ _ ⟨r5, rfl, rfl, hO⟩
        obtain ⟨g6, hO⟩ := ok_if hO
        refine rv hG z_B_endNight 175 2 29 (el 58 (Int32.toNatClampNeg x1)) [.int (h.1 57 7), .int r5] [] (by decide +kernel) mk_B_endNight lk_7_175 (rcv_B g6) rfl ⟨rfl, Nat.le_of_ble_eq_true rfl⟩ (c_B_endNight (d := d) h (el 58 (Int32.toNatClampNeg x1)) (h.1 57 7) r5 (ok_bind hO)) ?_
        rintro _ h7 ⟨rfl, hO⟩
        refine rbx hG 4 32 35 [.iinc 1 0] [1] [] ((x1 + (1 : Int32))) (fun y8 => [(1, .int y8), (0, .ref 57)]) (fun y8 => []) (fun y8 => h7) [] (by decide +kernel) rfl trivial hO (fun y8 hO => ?_)
        refine rb hG 4 35 2 [] [] [] [(1, .int y8), (0, .ref 57)] [] h7 [] (by decide +kernel) rfl trivial ?_
        refine rs hG [(0, .ref 57), (1, .int y8)] [1, 0] rfl ?_
        exact k2 (y8, h7) (ok_some (Q := (Sum.elim H2 P)) hO)
    rw [eH2] at w9
    exact w9
  refine rb hG 5 0 2 [.ldc_w 0, .istore 1] [0] [] [(1, .int (0 : Int32)), (0, .ref 57)] [] h [] (by decide +kernel) rfl trivial ?_
  refine rs hG [(0, .ref 57), (1, .int (0 : Int32))] [1, 0] rfl ?_
  exact l2 (0 : Int32) h hO
/-! GrainInn.Bench.forgetLastButOne()V -/
noncomputable def B_forgetLastButOne_j102 (x0 : Nat) (h : Hp) : Option Hp := some h
noncomputable def B_forgetLastButOne_j86 (x0 : Nat) (h : Hp) : Option Hp := if (h.1 x0 4) < (h.1 x0 3) then ((B_forgetLastButOne_j102 x0 h)) else (bnd (wr h x0 4 (0 : Int32)) fun h2 => (B_forgetLastButOne_j102 x0 h2))
noncomputable def B_forgetLastButOne (h : Hp) (x0 : Nat) : Option Hp := if kd x0 = 0 then (if (2 : Int32) ≤ (h.1 x0 3) then (bnd (((h.1 x0 3) - (2 : Int32))) fun y4 => if kd (x0 + 1) = 20 ∧ inb (y4 + (1 : Int32)) (ln (x0 + 1)) then (if kd (x0 + 1) = 20 ∧ inb y4 (ln (x0 + 1)) then (bnd (wr h (x0 + 1) (Int32.toNatClampNeg y4) (h.1 (x0 + 1) (Int32.toNatClampNeg (y4 + (1 : Int32))))) fun h7 => if kd (x0 + 2) = 20 ∧ inb (y4 + (1 : Int32)) (ln (x0 + 2)) then (if kd (x0 + 2) = 20 ∧ inb y4 (ln (x0 + 2)) then (bnd (wr h7 (x0 + 2) (Int32.toNatClampNeg y4) (h7.1 (x0 + 2) (Int32.toNatClampNeg (y4 + (1 : Int32))))) fun h10 => if kd (x0 + 3) = 20 ∧ inb (y4 + (1 : Int32)) (ln (x0 + 3)) then (if kd (x0 + 3) = 20 ∧ inb y4 (ln (x0 + 3)) then (bnd (wr h10 (x0 + 3) (Int32.toNatClampNeg y4) (h10.1 (x0 + 3) (Int32.toNatClampNeg (y4 + (1 : Int32))))) fun h13 => bnd (wr h13 x0 3 ((h13.1 x0 3) - (1 : Int32))) fun h14 => if (h14.1 x0 4) ≤ y4 then ((B_forgetLastButOne_j86 x0 h14)) else (bnd (wr h14 x0 4 ((h14.1 x0 4) - (1 : Int32))) fun h16 => (B_forgetLastButOne_j86 x0 h16))) else none) else none) else none) else none) else none) else none) else (some h)) else none
set_option maxRecDepth 100000 in
set_option maxHeartbeats 4000000 in
theorem c_B_forgetLastButOne {E : En} {d : Nat} (h : Hp) (x0 : Nat) {P : Hp → Prop} (hO : Okk (B_forgetLastButOne h x0) P) : Cn E (d + 1) z_B_forgetLastButOne [.ref x0] h (RV P) := by
  refine cn_of (on := 0) (d := d + 0) ⟨rfl, by decide +kernel, Nat.le_of_ble_eq_true rfl⟩ (fun G hG => ?_)
  unfold B_forgetLastButOne at hO
  show G 0 [(0, .ref x0)] [] h
  obtain ⟨g0, hO⟩ := ok_if hO
  have j102 : ∀ (h : Hp), Okk (B_forgetLastButOne_j102 x0 h) P → G 102 [] [] h := by
    intro h hO
    unfold B_forgetLastButOne_j102 at hO
    exact eV hG 102 (by decide +kernel) rfl ⟨rfl, ok_some (Q := P) hO⟩
  have j86 : ∀ (h : Hp), Okk (B_forgetLastButOne_j86 x0 h) P → G 86 [(0, .ref x0)] [] h := by
    intro h hO
    unfold B_forgetLastButOne_j86 at hO
    refine rb hG 7 86 94 [.aload 0, .getfield 4, .aload 0, .getfield 3] [] [] [(0, .ref x0)] [.int (h.1 x0 3), .int (h.1 x0 4)] h [kd x0 = 0, kd x0 = 0] (by decide +kernel) rfl ⟨g0, g0⟩ ?_
    refine rj hG .lt (8) 102 94 (by decide +kernel) (by decide) (fun c1 => ?_) (fun c1 => ?_)
    · have hO := ok_pos c1 hO
      refine rs hG [] [] rfl ?_
      exact j102 h hO
    · have hO := ok_neg c1 hO
      refine rbx hG 6 97 102 [.aload 0, .ldc_w 0, .putfield 4] [0] [] (wr h x0 4 (0 : Int32)) (fun h2 => [(0, .ref x0)]) (fun h2 => []) (fun h2 => h2) [kd x0 = 0] (by decide +kernel) rfl g0 hO (fun h2 hO => ?_)
      refine rs hG [] [] rfl ?_
      exact j102 h2 hO
  refine rb hG 6 0 5 [.aload 0, .getfield 3, .ldc_w 0] [2] [] [(0, .ref x0)] [.int (2 : Int32), .int (h.1 x0 3)] h [kd x0 = 0] (by decide +kernel) rfl g0 ?_
  refine rj hG .ge (4) 9 5 (by decide +kernel) (by decide) (fun c3 => ?_) (fun c3 => ?_)
  · have hO := ok_pos c3 hO
    refine rbx hG 8 9 16 [.aload 0, .getfield 3, .ldc_w 0, .isub, .istore 1] [2] [] (((h.1 x0 3) - (2 : Int32))) (fun y4 => [(1, .int y4), (0, .ref x0)]) (fun y4 => []) (fun y4 => h) [kd x0 = 0] (by decide +kernel) rfl g0 hO (fun y4 hO => ?_)
    obtain ⟨g5, hO⟩ := ok_if hO
    obtain ⟨g6, hO⟩ := ok_if hO
    refine rbx hG 13 16 30 [.aload 0, .invokeinterface 0 1, .iload 1, .aload 0, .invokeinterface 0 1, .iload 1, .ldc_w 0, .iadd, .iaload, .iastore] [1] [] (wr h (x0 + 1) (Int32.toNatClampNeg y4) (h.1 (x0 + 1) (Int32.toNatClampNeg (y4 + (1 : Int32))))) (fun h7 => [(1, .int y4), (0, .ref x0)]) (fun h7 => []) (fun h7 => h7) [kd x0 = 0, kd x0 = 0, kd (x0 + 1) = 20 ∧ inb (y4 + (1 : Int32)) (ln (x0 + 1)), kd (x0 + 1) = 20 ∧ inb y4 (ln (x0 + 1))] (by decide +kernel) rfl ⟨g0, g0, g5, g6⟩ hO (fun h7 hO => ?_)
    obtain ⟨g8, hO⟩ := ok_if hO
    obtain ⟨g9, hO⟩ := ok_if hO
    refine rbx hG 13 30 44 [.aload 0, .invokeinterface 1 2, .iload 1, .aload 0, .invokeinterface 1 2, .iload 1, .ldc_w 0, .iadd, .iaload, .iastore] [1] [] (wr h7 (x0 + 2) (Int32.toNatClampNeg y4) (h7.1 (x0 + 2) (Int32.toNatClampNeg (y4 + (1 : Int32))))) (fun h10 => [(1, .int y4), (0, .ref x0)]) (fun h10 => []) (fun h10 => h10) [kd x0 = 0, kd x0 = 0, kd (x0 + 2) = 20 ∧ inb (y4 + (1 : Int32)) (ln (x0 + 2)), kd (x0 + 2) = 20 ∧ inb y4 (ln (x0 + 2))] (by decide +kernel) rfl ⟨g0, g0, g8, g9⟩ hO (fun h10 hO => ?_)
    obtain ⟨g11, hO⟩ := ok_if hO
    obtain ⟨g12, hO⟩ := ok_if hO
    refine rbx hG 13 44 58 [.aload 0, .invokeinterface 2 3, .iload 1, .aload 0, .invokeinterface 2 3, .iload 1, .ldc_w 0, .iadd, .iaload, .iastore] [1] [] (wr h10 (x0 + 3) (Int32.toNatClampNeg y4) (h10.1 (x0 + 3) (Int32.toNatClampNeg (y4 + (1 : Int32))))) (fun h13 => [(1, .int y4), (0, .ref x0)]) (fun h13 => []) (fun h13 => h13) [kd x0 = 0, kd x0 = 0, kd (x0 + 3) = 20 ∧ inb (y4 + (1 : Int32)) (ln (x0 + 3)), kd (x0 + 3) = 20 ∧ inb y4 (ln (x0 + 3))] (by decide +kernel) rfl ⟨g0, g0, g11, g12⟩ hO (fun h13 hO => ?_)
    refine rbx hG 9 58 68 [.aload 0, .dup, .getfield 3, .ldc_w 0, .isub, .putfield 3] [1] [] (wr h13 x0 3 ((h13.1 x0 3) - (1 : Int32))) (fun h14 => [(1, .int y4), (0, .ref x0)]) (fun h14 => []) (fun h14 => h14) [kd x0 = 0, kd x0 = 0] (by decide +kernel) rfl ⟨g0, g0⟩ hO (fun h14 hO => ?_)
    refine rb hG 6 68 73 [.aload 0, .getfield 4, .iload 1] [] [] [(1, .int y4), (0, .ref x0)] [.int y4, .int (h14.1 x0 4)] h14 [kd x0 = 0] (by decide +kernel) rfl g0 ?_
    refine rj hG .le (13) 86 73 (by decide +kernel) (by decide) (fun c15 => ?_) (fun c15 => ?_)
    · have hO := ok_pos c15 hO
      refine rs hG [(0, .ref x0)] [1] rfl ?_
      exact j86 h14 hO
    · have hO := ok_neg c15 hO
      refine rbx hG 9 76 86 [.aload 0, .dup, .getfield 4, .ldc_w 0, .isub, .putfield 4] [1] [] (wr h14 x0 4 ((h14.1 x0 4) - (1 : Int32))) (fun h16 => [(1, .int y4), (0, .ref x0)]) (fun h16 => []) (fun h16 => h16) [kd x0 = 0, kd x0 = 0] (by decide +kernel) rfl ⟨g0, g0⟩ hO (fun h16 hO => ?_)
      refine rs hG [(0, .ref x0)] [1] rfl ?_
      exact j86 h16 hO
  · have hO := ok_neg c3 hO
    exact eV hG 8 (by decide +kernel) rfl ⟨rfl, ok_some (Q := P) hO⟩
/-! GrainInn.State.scrubAt(I)Z -/
noncomputable def S_scrubAt_j25 (h : Hp) : Option (Int32 × Hp) := some ((0 : Int32), h)
noncomputable def S_scrubAt (h : Hp) (x1 : Int32) : Option (Int32 × Hp) := (S_benchAt h x1).bind fun r1 => if r1 = 0 then ((S_scrubAt_j25 h)) else (if kd r1 = 0 then (if (h.1 r1 5) = 0 then (if (2 : Int32) ≤ (h.1 r1 3) then ((B_forgetLastButOne h r1).bind fun h6 => some ((1 : Int32), h6)) else ((S_scrubAt_j25 h))) else ((S_scrubAt_j25 h))) else none)
set_option maxRecDepth 100000 in
set_option maxHeartbeats 4000000 in
theorem c_S_scrubAt {E : En} {d : Nat} (h : Hp) (x1 : Int32) {P : (Int32 × Hp) → Prop} (hO : Okk (S_scrubAt h x1) P) : Cn E (d + 3) z_S_scrubAt [.ref 57, .int x1] h (RI P) := by
  refine cn_of (on := 7) (d := d + 2) ⟨rfl, by decide +kernel, Nat.le_of_ble_eq_true rfl⟩ (fun G hG => ?_)
  unfold S_scrubAt at hO
  show G 0 [(0, .ref 57), (1, .int x1)] [] h
  have j25 : ∀ (h : Hp), Okk (S_scrubAt_j25 h) P → G 25 [] [] h := by
    intro h hO
    unfold S_scrubAt_j25 at hO
    refine rb hG 4 25 26 [.ldc_w 0] [0] [] [] [.int (0 : Int32)] h [] (by decide +kernel) rfl trivial ?_
    exact eZ hG 26 (by decide +kernel) rfl (Or.inl rfl) ⟨(0 : Int32), rfl, ok_some (Q := P) hO⟩
  refine rb hG 5 0 2 [.aload 0, .iload 1] [] [] [(0, .ref 57), (1, .int x1)] [.int x1, .ref 57] h [] (by decide +kernel) rfl trivial ?_
  refine rv hG z_S_benchAt 107 1 2 57 [.int x1] [] (by decide +kernel) mk_S_benchAt lk_7_107 rcv_57 rfl ⟨rfl, Nat.le_of_ble_eq_true rfl⟩ (c_S_benchAt (d := d) h x1 (ok_bind hO)) ?_
  rintro _ _ ⟨r1, rfl, rfl, hO⟩
  refine rb hG 5 5 7 [.astore 2, .aload 2] [] [] [(2, .ref r1), (0, .ref 57), (1, .int x1)] [.ref r1] h [] (by decide +kernel) rfl trivial ?_
  refine rn hG (18) 25 7 (by decide +kernel) (by decide) (fun c2 => ?_) (fun c2 => ?_)
  · have hO := ok_pos c2 hO
    refine rs hG [] [] rfl ?_
    exact j25 h hO
  · have hO := ok_neg c2 hO
    obtain ⟨g3, hO⟩ := ok_if hO
    refine rb hG 5 10 14 [.aload 2, .getfield 5] [] [] [(2, .ref r1), (0, .ref 57), (1, .int x1)] [.int (h.1 r1 5)] h [kd r1 = 0] (by decide +kernel) rfl g3 ?_
    refine riN hG (11) 25 14 (by decide +kernel) (by decide) (fun c4 => ?_) (fun c4 => ?_)
    · have hO := ok_pos c4 hO
      refine rb hG 6 17 22 [.aload 2, .getfield 3, .ldc_w 0] [2] [] [(2, .ref r1), (0, .ref 57), (1, .int x1)] [.int (2 : Int32), .int (h.1 r1 3)] h [kd r1 = 0] (by decide +kernel) rfl g3 ?_
      refine rj hG .ge (5) 27 22 (by decide +kernel) (by decide) (fun c5 => ?_) (fun c5 => ?_)
      · have hO := ok_pos c5 hO
        refine rb hG 4 27 28 [.aload 2] [] [] [(2, .ref r1), (0, .ref 57), (1, .int x1)] [.ref r1] h [] (by decide +kernel) rfl trivial ?_
        refine rv hG z_B_forgetLastButOne 180 0 28 r1 [] [] (by decide +kernel) mk_B_forgetLastButOne lk_7_180 (rcv_B g3) rfl ⟨rfl, Nat.le_of_ble_eq_true rfl⟩ (c_B_forgetLastButOne (d := d + 1) h r1 (ok_bind hO)) ?_
        rintro _ h6 ⟨rfl, hO⟩
        refine rb hG 4 31 32 [.ldc_w 0] [1] [] [(2, .ref r1), (0, .ref 57), (1, .int x1)] [.int (1 : Int32)] h6 [] (by decide +kernel) rfl trivial ?_
        exact eZ hG 32 (by decide +kernel) rfl (Or.inr rfl) ⟨(1 : Int32), rfl, ok_some (Q := P) hO⟩
      · have hO := ok_neg c5 hO
        refine rs hG [] [] rfl ?_
        exact j25 h hO
    · have hO := ok_neg c4 hO
      refine rs hG [] [] rfl ?_
      exact j25 h hO
/-! GrainInn.Bench.nightOf(I)I -/
noncomputable def B_nightOf_j22 (x0 : Nat) (s0 : Int32) (h : Hp) : Option Int32 := some s0
noncomputable def B_nightOf_j21 (x0 : Nat) (h : Hp) : Option Int32 := (B_nightOf_j22 x0 (-1 : Int32) h)
noncomputable def B_nightOf (h : Hp) (x0 : Nat) (x1 : Int32) : Option Int32 := if kd x0 = 0 then (if x1 < 0 then ((B_nightOf_j21 x0 h)) else (if (h.1 x0 3) ≤ x1 then ((B_nightOf_j21 x0 h)) else (if kd (x0 + 3) = 20 ∧ inb x1 (ln (x0 + 3)) then ((B_nightOf_j22 x0 (h.1 (x0 + 3) (Int32.toNatClampNeg x1)) h)) else none))) else none
set_option maxRecDepth 100000 in
set_option maxHeartbeats 4000000 in
theorem c_B_nightOf {E : En} {d : Nat} (h : Hp) (x0 : Nat) (x1 : Int32) {P : Int32 → Prop} (hO : Okk (B_nightOf h x0 x1) P) : Cn E (d + 1) z_B_nightOf [.ref x0, .int x1] h (RIp h P) := by
  refine cn_of (on := 0) (d := d + 0) ⟨rfl, by decide +kernel, Nat.le_of_ble_eq_true rfl⟩ (fun G hG => ?_)
  unfold B_nightOf at hO
  show G 0 [(0, .ref x0), (1, .int x1)] [] h
  obtain ⟨g0, hO⟩ := ok_if hO
  have j22 : ∀ (s0 : Int32), Okk (B_nightOf_j22 x0 s0 h) P → G 22 [] [.int s0] h := by
    intro s0 hO
    unfold B_nightOf_j22 at hO
    exact eI hG 22 (by decide +kernel) rfl ⟨s0, rfl, rfl, ok_some (Q := P) hO⟩
  have j21 : Okk (B_nightOf_j21 x0 h) P → G 21 [] [] h := by
    intro hO
    unfold B_nightOf_j21 at hO
    refine rb hG 4 21 22 [.ldc_w 0] [-1] [] [] [.int (-1 : Int32)] h [] (by decide +kernel) rfl trivial ?_
    exact j22 (-1 : Int32) hO
  refine rb hG 4 0 1 [.iload 1] [] [] [(0, .ref x0), (1, .int x1)] [.int x1] h [] (by decide +kernel) rfl trivial ?_
  refine ri hG .lt (20) 21 1 (by decide +kernel) (by decide) (fun c1 => ?_) (fun c1 => ?_)
  · have hO := ok_pos c1 hO
    refine rs hG [] [] rfl ?_
    exact j21 hO
  · have hO := ok_neg c1 hO
    refine rb hG 6 4 9 [.iload 1, .aload 0, .getfield 3] [] [] [(0, .ref x0), (1, .int x1)] [.int (h.1 x0 3), .int x1] h [kd x0 = 0] (by decide +kernel) rfl g0 ?_
    refine rj hG .ge (12) 21 9 (by decide +kernel) (by decide) (fun c2 => ?_) (fun c2 => ?_)
    · have hO := ok_pos c2 hO
      refine rs hG [] [] rfl ?_
      exact j21 hO
    · have hO := ok_neg c2 hO
      obtain ⟨g3, hO⟩ := ok_if hO
      refine rb hG 8 12 22 [.aload 0, .invokeinterface 2 3, .iload 1, .iaload] [] [] [(0, .ref x0), (1, .int x1)] [.int (h.1 (x0 + 3) (Int32.toNatClampNeg x1))] h [kd x0 = 0, kd (x0 + 3) = 20 ∧ inb x1 (ln (x0 + 3))] (by decide +kernel) rfl ⟨g0, g3⟩ ?_
      refine rs hG [] [] rfl ?_
      exact j22 (h.1 (x0 + 3) (Int32.toNatClampNeg x1)) hO
/-! GrainInn.State.joinTo(II)Z -/
noncomputable def S_joinTo_j42 (h : Hp) : Option (Int32 × Hp) := some ((0 : Int32), h)
noncomputable def S_joinTo_j88 (x1 : Int32) (x3 : Nat) (x4 : Nat) (h : Hp) : Option (Int32 × Hp) := if kd x3 = 0 then (if kd (Int32.toNatClampNeg (h.1 57 6)) = 1 then ((H_keepsOf h (Int32.toNatClampNeg (h.1 57 6)) x1).bind fun r3 => (B_forgetFirst h x3 ((h.1 x3 3) - r3)).bind fun h4 => if kd x4 = 0 then ((B_clear h4 x4).bind fun h6 => some ((1 : Int32), h6)) else none) else none) else none
noncomputable def S_joinTo_b47 (x1 : Int32) (x3 : Nat) (x4 : Nat) (x5 : Int32) (h : Hp) : Option ((Int32 × Hp) ⊕ (Int32 × Hp)) := if kd x4 = 0 then (if (h.1 x4 3) ≤ x5 then (((S_joinTo_j88 x1 x3 x4 h).map Sum.inr)) else ((B_guestsOf h x4 x5).bind fun r9 => (B_wordsOf h x4 x5).bind fun r10 => (B_nightOf h x4 x5).bind fun r11 => if kd x3 = 0 then ((B_append h x3 r9 r10 r11).bind fun h13 => bnd ((x5 + (1 : Int32))) fun y14 => some (.inl (y14, h13))) else none)) else none
noncomputable def S_joinTo_l47 (x1 : Int32) (x3 : Nat) (x4 : Nat) (x5 : Int32) (h : Hp) : Option (Int32 × Hp) := lp (fun s : (Int32 × Hp) => S_joinTo_b47 x1 x3 x4 s.1 s.2) (x5, h)
theorem S_joinTo_l47_eq (x1 : Int32) (x3 : Nat) (x4 : Nat) (x5 : Int32) (h : Hp) : S_joinTo_l47 x1 x3 x4 x5 h = (S_joinTo_b47 x1 x3 x4 x5 h).bind (Sum.elim (fun q : (Int32 × Hp) => S_joinTo_l47 x1 x3 x4 q.1 q.2) some) := lp_eq _ _
noncomputable def S_joinTo (h : Hp) (x1 : Int32) (x2 : Int32) : Option (Int32 × Hp) := (S_benchAt h x1).bind fun r15 => (S_benchAt h x2).bind fun r16 => if r15 = 0 then ((S_joinTo_j42 h)) else (if r16 = 0 then ((S_joinTo_j42 h)) else (if x1 = x2 then ((S_joinTo_j42 h)) else (if kd r15 = 0 then (if (h.1 r15 5) = 0 then (if kd r16 = 0 then (if (h.1 r16 5) = 0 then ((S_joinTo_l47 x1 r15 r16 (0 : Int32) h)) else ((S_joinTo_j42 h))) else none) else ((S_joinTo_j42 h))) else none)))
set_option maxRecDepth 100000 in
set_option maxHeartbeats 4000000 in
theorem c_S_joinTo {E : En} {d : Nat} (h : Hp) (x1 : Int32) (x2 : Int32) {P : (Int32 × Hp) → Prop} (hO : Okk (S_joinTo h x1 x2) P) : Cn E (d + 3) z_S_joinTo [.ref 57, .int x1, .int x2] h (RI P) := by
  refine cn_of (on := 7) (d := d + 2) ⟨rfl, by decide +kernel, Nat.le_of_ble_eq_true rfl⟩ (fun G hG => ?_)
  unfold S_joinTo at hO
  show G 0 [(0, .ref 57), (1, .int x1), (2, .int x2)] [] h
  have j42 : ∀ (h : Hp), Okk (S_joinTo_j42 h) P → G 42 [] [] h := by
    intro h hO
    unfold S_joinTo_j42 at hO
    refine rb hG 4 42 43 [.ldc_w 0] [0] [] [] [.int (0 : Int32)] h [] (by decide +kernel) rfl trivial ?_
    exact eZ hG 43 (by decide +kernel) rfl (Or.inl rfl) ⟨(0 : Int32), rfl, ok_some (Q := P) hO⟩
  have j88 : ∀ (x3 : Nat) (x4 : Nat) (h : Hp), Okk (S_joinTo_j88 x1 x3 x4 h) P → G 88 [(0, .ref 57), (1, .int x1), (3, .ref x3), (4, .ref x4)] [] h := by
    intro x3 x4 h hO
    unfold S_joinTo_j88 at hO
    obtain ⟨g1, hO⟩ := ok_if hO
    obtain ⟨g2, hO⟩ := ok_if hO
    refine rb hG 9 88 98 [.aload 3, .aload 3, .getfield 3, .aload 0, .instanceof 706, .iload 1] [] [] [(0, .ref 57), (1, .int x1), (3, .ref x3), (4, .ref x4)] [.int x1, .ref (Int32.toNatClampNeg (h.1 57 6)), .int (h.1 x3 3), .ref x3] h [kd x3 = 0, kd 57 = 7] (by decide +kernel) rfl ⟨g1, kd_57⟩ ?_
    refine rv hG z_H_keepsOf 172 1 98 (Int32.toNatClampNeg (h.1 57 6)) [.int x1] [.int (h.1 x3 3), .ref x3] (by decide +kernel) mk_H_keepsOf lk_7_172 (rcv_H g2) rfl ⟨rfl, Nat.le_of_ble_eq_true rfl⟩ (c_H_keepsOf (d := d) h (Int32.toNatClampNeg (h.1 57 6)) x1 (ok_bind hO)) ?_
    rintro _ _ ⟨r3, rfl, rfl, hO⟩
    refine rb hG 4 101 102 [.isub] [] [] [(0, .ref 57), (1, .int x1), (3, .ref x3), (4, .ref x4)] [.int ((h.1 x3 3) - r3), .ref x3] h [] (by decide +kernel) rfl trivial ?_
    refine rv hG z_B_forgetFirst 189 1 102 x3 [.int ((h.1 x3 3) - r3)] [] (by decide +kernel) mk_B_forgetFirst lk_7_189 (rcv_B g1) rfl ⟨rfl, Nat.le_of_ble_eq_true rfl⟩ (c_B_forgetFirst (d := d + 1) h x3 ((h.1 x3 3) - r3) (ok_bind hO)) ?_
    rintro _ h4 ⟨rfl, hO⟩
    obtain ⟨g5, hO⟩ := ok_if hO
    refine rb hG 4 105 107 [.aload 4] [] [] [(0, .ref 57), (1, .int x1), (3, .ref x3), (4, .ref x4)] [.ref x4] h4 [] (by decide +kernel) rfl trivial ?_
    refine rv hG z_B_clear 63 0 107 x4 [] [] (by decide +kernel) mk_B_clear lk_7_63 (rcv_B g5) rfl ⟨rfl, Nat.le_of_ble_eq_true rfl⟩ (c_B_clear (d := d + 1) h4 x4 (ok_bind hO)) ?_
    rintro _ h6 ⟨rfl, hO⟩
    refine rb hG 4 110 111 [.ldc_w 0] [1] [] [(0, .ref 57), (1, .int x1), (3, .ref x3), (4, .ref x4)] [.int (1 : Int32)] h6 [] (by decide +kernel) rfl trivial ?_
    exact eZ hG 111 (by decide +kernel) rfl (Or.inr rfl) ⟨(1 : Int32), rfl, ok_some (Q := P) hO⟩
  have l47 : ∀ (x3 : Nat) (x4 : Nat) (x5 : Int32) (h : Hp), Okk (S_joinTo_l47 x1 x3 x4 x5 h) P → G 47 [(0, .ref 57), (1, .int x1), (3, .ref x3), (4, .ref x4), (5, .int x5)] [] h := by
    intro x3 x4 x5 h hO
    obtain ⟨H47, eH47⟩ : ∃ q : (Int32 × Hp) → Prop, q = fun s => G 47 [(0, .ref 57), (1, .int x1), (3, .ref x3), (4, .ref x4), (5, .int (s.1))] [] (s.2) := ⟨_, rfl⟩
    have w9 : H47 (x5, h) := by
      refine lp_wp (f := fun s : (Int32 × Hp) => S_joinTo_b47 x1 x3 x4 s.1 s.2) (H := H47) (Q := P) ?_ (x5, h) hO
      rintro ⟨x5, h⟩ hO
      rw [eH47]
      show G 47 [(0, .ref 57), (1, .int x1), (3, .ref x3), (4, .ref x4), (5, .int x5)] [] h
      have k47 : ∀ s : (Int32 × Hp), H47 s → G 47 [(0, .ref 57), (1, .int x1), (3, .ref x3), (4, .ref x4), (5, .int (s.1))] [] (s.2) := fun s q => by rw [eH47] at q; exact q
      replace hO : Okk (S_joinTo_b47 x1 x3 x4 x5 h) (Sum.elim H47 P) := hO
      clear eH47
      unfold S_joinTo_b47 at hO
      obtain ⟨g7, hO⟩ := ok_if hO
      refine rb hG 6 47 54 [.iload 5, .aload 4, .getfield 3] [] [] [(0, .ref 57), (1, .int x1), (3, .ref x3), (4, .ref x4), (5, .int x5)] [.int (h.1 x4 3), .int x5] h [kd x4 = 0] (by decide +kernel) rfl g7 ?_
      refine rj hG .ge (34) 88 54 (by decide +kernel) (by decide) (fun c8 => ?_) (fun c8 => ?_)
      · have hO := ok_pos c8 hO
        refine rs hG [(0, .ref 57), (1, .int x1), (3, .ref x3), (4, .ref x4)] [0, 1, 2, 3] rfl ?_
        exact j88 x3 x4 h (ok_inr hO)
      · have hO := ok_neg c8 hO
        refine rb hG 6 57 62 [.aload 3, .aload 4, .iload 5] [] [] [(0, .ref 57), (1, .int x1), (3, .ref x3), (4, .ref x4), (5, .int x5)] [.int x5, .ref x4, .ref x3] h [] (by decide +kernel) rfl trivial ?_
        refine rv hG z_B_guestsOf 129 1 62 x4 [.int x5] [.ref x3] (by decide +kernel) mk_B_guestsOf lk_7_129 (rcv_B g7) rfl ⟨rfl, Nat.le_of_ble_eq_true rfl⟩ (c_B_guestsOf (d := d + 1) h x4 x5 (ok_bind hO)) ?_
        rintro _ _ ⟨r9, rfl, rfl, hO⟩
        refine rb hG 5 65 69 [.aload 4, .iload 5] [] [] [(0, .ref 57), (1, .int x1), (3, .ref x3), (4, .ref x4), (5, .int x5)] [.int x5, .ref x4, .int r9, .ref x3] h [] (by decide +kernel) rfl trivial ?_
        refine rv hG z_B_wordsOf 132 1 69 x4 [.int x5] [.int r9, .ref x3] (by decide +kernel) mk_B_wordsOf lk_7_132 (rcv_B g7) rfl ⟨rfl, Nat.le_of_ble_eq_true rfl⟩ (c_B_wordsOf (d := d + 1) h x4 x5 (ok_bind hO)) ?_
        rintro _ _ ⟨r10, rfl, rfl, hO⟩
        refine rb hG 5 72 76 [.aload 4, .iload 5] [] [] [(0, .ref 57), (1, .int x1), (3, .ref x3), (4, .ref x4), (5, .int x5)] [.int x5, .ref x4, .int r10, .int r9, .ref x3] h [] (by decide +kernel) rfl trivial ?_
        refine rv hG z_B_nightOf 183 1 76 x4 [.int x5] [.int r10, .int r9, .ref x3] (by decide +kernel) mk_B_nightOf lk_7_183 (rcv_B g7) rfl ⟨rfl, Nat.le_of_ble_eq_true rfl⟩ (c_B_nightOf (d := d + 1) h x4 x5 (ok_bind hO)) ?_
        rintro _ _ ⟨r11, rfl, rfl, hO⟩
        obtain ⟨g12, hO⟩ := ok_if hO
        refine rv hG z_B_append 186 3 79 x3 [.int r9, .int r10, .int r11] [] (by decide +kernel) mk_B_append lk_7_186 (rcv_B g12) rfl ⟨rfl, Nat.le_of_ble_eq_true rfl⟩ (c_B_append (d := d + 1) h x3 r9 r10 r11 (ok_bind hO)) ?_
        rintro _ h13 ⟨rfl, hO⟩
        refine rbx hG 4 82 85 [.iinc 5 0] [1] [] ((x5 + (1 : Int32))) (fun y14 => [(5, .int y14), (0, .ref 57), (1, .int x1), (3, .ref x3), (4, .ref x4)]) (fun y14 => []) (fun y14 => h13) [] (by decide +kernel) rfl trivial hO (fun y14 hO => ?_)
        refine rb hG 4 85 47 [] [] [] [(5, .int y14), (0, .ref 57), (1, .int x1), (3, .ref x3), (4, .ref x4)] [] h13 [] (by decide +kernel) rfl trivial ?_
        refine rs hG [(0, .ref 57), (1, .int x1), (3, .ref x3), (4, .ref x4), (5, .int y14)] [1, 2, 3, 4, 0] rfl ?_
        exact k47 (y14, h13) (ok_some (Q := (Sum.elim H47 P)) hO)
    rw [eH47] at w9
    exact w9
  refine rb hG 5 0 2 [.aload 0, .iload 1] [] [] [(0, .ref 57), (1, .int x1), (2, .int x2)] [.int x1, .ref 57] h [] (by decide +kernel) rfl trivial ?_
  refine rv hG z_S_benchAt 107 1 2 57 [.int x1] [] (by decide +kernel) mk_S_benchAt lk_7_107 rcv_57 rfl ⟨rfl, Nat.le_of_ble_eq_true rfl⟩ (c_S_benchAt (d := d) h x1 (ok_bind hO)) ?_
  rintro _ _ ⟨r15, rfl, rfl, hO⟩
  refine rb hG 6 5 8 [.astore 3, .aload 0, .iload 2] [] [] [(3, .ref r15), (0, .ref 57), (1, .int x1), (2, .int x2)] [.int x2, .ref 57] h [] (by decide +kernel) rfl trivial ?_
  refine rv hG z_S_benchAt 107 1 8 57 [.int x2] [] (by decide +kernel) mk_S_benchAt lk_7_107 rcv_57 rfl ⟨rfl, Nat.le_of_ble_eq_true rfl⟩ (c_S_benchAt (d := d) h x2 (ok_bind hO)) ?_
  rintro _ _ ⟨r16, rfl, rfl, hO⟩
  refine rb hG 5 11 14 [.astore 4, .aload 3] [] [] [(4, .ref r16), (3, .ref r15), (0, .ref 57), (1, .int x1), (2, .int x2)] [.ref r15] h [] (by decide +kernel) rfl trivial ?_
  refine rn hG (28) 42 14 (by decide +kernel) (by decide) (fun c17 => ?_) (fun c17 => ?_)
  · have hO := ok_pos c17 hO
    refine rs hG [] [] rfl ?_
    exact j42 h hO
  · have hO := ok_neg c17 hO
    refine rb hG 4 17 19 [.aload 4] [] [] [(4, .ref r16), (3, .ref r15), (0, .ref 57), (1, .int x1), (2, .int x2)] [.ref r16] h [] (by decide +kernel) rfl trivial ?_
    refine rn hG (23) 42 19 (by decide +kernel) (by decide) (fun c18 => ?_) (fun c18 => ?_)
    · have hO := ok_pos c18 hO
      refine rs hG [] [] rfl ?_
      exact j42 h hO
    · have hO := ok_neg c18 hO
      refine rb hG 5 22 24 [.iload 1, .iload 2] [] [] [(4, .ref r16), (3, .ref r15), (0, .ref 57), (1, .int x1), (2, .int x2)] [.int x2, .int x1] h [] (by decide +kernel) rfl trivial ?_
      refine rj hG .eq (18) 42 24 (by decide +kernel) (by decide) (fun c19 => ?_) (fun c19 => ?_)
      · have hO := ok_pos c19 hO
        refine rs hG [] [] rfl ?_
        exact j42 h hO
      · have hO := ok_neg c19 hO
        obtain ⟨g20, hO⟩ := ok_if hO
        refine rb hG 5 27 31 [.aload 3, .getfield 5] [] [] [(4, .ref r16), (3, .ref r15), (0, .ref 57), (1, .int x1), (2, .int x2)] [.int (h.1 r15 5)] h [kd r15 = 0] (by decide +kernel) rfl g20 ?_
        refine riN hG (11) 42 31 (by decide +kernel) (by decide) (fun c21 => ?_) (fun c21 => ?_)
        · have hO := ok_pos c21 hO
          obtain ⟨g22, hO⟩ := ok_if hO
          refine rb hG 5 34 39 [.aload 4, .getfield 5] [] [] [(4, .ref r16), (3, .ref r15), (0, .ref 57), (1, .int x1), (2, .int x2)] [.int (h.1 r16 5)] h [kd r16 = 0] (by decide +kernel) rfl g22 ?_
          refine ri hG .eq (5) 44 39 (by decide +kernel) (by decide) (fun c23 => ?_) (fun c23 => ?_)
          · have hO := ok_pos c23 hO
            refine rb hG 5 44 47 [.ldc_w 0, .istore 5] [0] [] [(5, .int (0 : Int32)), (4, .ref r16), (3, .ref r15), (0, .ref 57), (1, .int x1), (2, .int x2)] [] h [] (by decide +kernel) rfl trivial ?_
            refine rs hG [(0, .ref 57), (1, .int x1), (3, .ref r15), (4, .ref r16), (5, .int (0 : Int32))] [3, 4, 2, 1, 0] rfl ?_
            exact l47 r15 r16 (0 : Int32) h hO
          · have hO := ok_neg c23 hO
            refine rs hG [] [] rfl ?_
            exact j42 h hO
        · have hO := ok_neg c21 hO
          refine rs hG [] [] rfl ?_
          exact j42 h hO
/-! GrainInn.State.splitTo(II)Z -/
noncomputable def S_splitTo_j42 (h : Hp) : Option (Int32 × Hp) := some ((0 : Int32), h)
noncomputable def S_splitTo_j60 (h : Hp) : Option (Int32 × Hp) := some ((0 : Int32), h)
noncomputable def S_splitTo_j109 (x2 : Int32) (x3 : Nat) (x4 : Nat) (x5 : Int32) (h : Hp) : Option (Int32 × Hp) := if kd x3 = 0 then ((B_forgetFirst h x3 x5).bind fun h2 => bnd (wr h2 x3 4 (0 : Int32)) fun h3 => if kd x4 = 0 then (if kd (Int32.toNatClampNeg (h3.1 57 6)) = 1 then ((H_keepsOf h3 (Int32.toNatClampNeg (h3.1 57 6)) x2).bind fun r6 => (B_forgetFirst h3 x4 ((h3.1 x4 3) - r6)).bind fun h7 => bnd (wr h7 x4 4 (0 : Int32)) fun h8 => some ((1 : Int32), h8)) else none) else none) else none
noncomputable def S_splitTo_b73 (x2 : Int32) (x3 : Nat) (x4 : Nat) (x5 : Int32) (x6 : Int32) (h : Hp) : Option ((Int32 × Hp) ⊕ (Int32 × Hp)) := if x5 ≤ x6 then (((S_splitTo_j109 x2 x3 x4 x5 h).map Sum.inr)) else (if kd x3 = 0 then ((B_guestsOf h x3 x6).bind fun r11 => (B_wordsOf h x3 x6).bind fun r12 => (B_nightOf h x3 x6).bind fun r13 => if kd x4 = 0 then ((B_append h x4 r11 r12 r13).bind fun h15 => bnd ((x6 + (1 : Int32))) fun y16 => some (.inl (y16, h15))) else none) else none)
noncomputable def S_splitTo_l73 (x2 : Int32) (x3 : Nat) (x4 : Nat) (x5 : Int32) (x6 : Int32) (h : Hp) : Option (Int32 × Hp) := lp (fun s : (Int32 × Hp) => S_splitTo_b73 x2 x3 x4 x5 s.1 s.2) (x6, h)
theorem S_splitTo_l73_eq (x2 : Int32) (x3 : Nat) (x4 : Nat) (x5 : Int32) (x6 : Int32) (h : Hp) : S_splitTo_l73 x2 x3 x4 x5 x6 h = (S_splitTo_b73 x2 x3 x4 x5 x6 h).bind (Sum.elim (fun q : (Int32 × Hp) => S_splitTo_l73 x2 x3 x4 x5 q.1 q.2) some) := lp_eq _ _
noncomputable def S_splitTo (h : Hp) (x1 : Int32) (x2 : Int32) : Option (Int32 × Hp) := (S_benchAt h x1).bind fun r17 => (S_benchAt h x2).bind fun r18 => if r17 = 0 then ((S_splitTo_j42 h)) else (if r18 = 0 then ((S_splitTo_j42 h)) else (if x1 = x2 then ((S_splitTo_j42 h)) else (if kd r17 = 0 then (if (h.1 r17 5) = 0 then (if kd r18 = 0 then (if (h.1 r18 5) = 0 then (if 0 < (h.1 r18 3) then ((S_splitTo_j60 h)) else (if (2 : Int32) ≤ (h.1 r17 3) then (bnd (((h.1 r17 3) / (2 : Int32))) fun y28 => (S_splitTo_l73 x2 r17 r18 y28 (0 : Int32) h)) else ((S_splitTo_j60 h)))) else ((S_splitTo_j42 h))) else none) else ((S_splitTo_j42 h))) else none)))
set_option maxRecDepth 100000 in
set_option maxHeartbeats 4000000 in
theorem c_S_splitTo {E : En} {d : Nat} (h : Hp) (x1 : Int32) (x2 : Int32) {P : (Int32 × Hp) → Prop} (hO : Okk (S_splitTo h x1 x2) P) : Cn E (d + 3) z_S_splitTo [.ref 57, .int x1, .int x2] h (RI P) := by
  refine cn_of (on := 7) (d := d + 2) ⟨rfl, by decide +kernel, Nat.le_of_ble_eq_true rfl⟩ (fun G hG => ?_)
  unfold S_splitTo at hO
  show G 0 [(0, .ref 57), (1, .int x1), (2, .int x2)] [] h
  have j42 : ∀ (h : Hp), Okk (S_splitTo_j42 h) P → G 42 [] [] h := by
    intro h hO
    unfold S_splitTo_j42 at hO
    refine rb hG 4 42 43 [.ldc_w 0] [0] [] [] [.int (0 : Int32)] h [] (by decide +kernel) rfl trivial ?_
    exact eZ hG 43 (by decide +kernel) rfl (Or.inl rfl) ⟨(0 : Int32), rfl, ok_some (Q := P) hO⟩
  have j60 : ∀ (h : Hp), Okk (S_splitTo_j60 h) P → G 60 [] [] h := by
    intro h hO
    unfold S_splitTo_j60 at hO
    refine rb hG 4 60 61 [.ldc_w 0] [0] [] [] [.int (0 : Int32)] h [] (by decide +kernel) rfl trivial ?_
    exact eZ hG 61 (by decide +kernel) rfl (Or.inl rfl) ⟨(0 : Int32), rfl, ok_some (Q := P) hO⟩
  have j109 : ∀ (x3 : Nat) (x4 : Nat) (x5 : Int32) (h : Hp), Okk (S_splitTo_j109 x2 x3 x4 x5 h) P → G 109 [(0, .ref 57), (2, .int x2), (3, .ref x3), (4, .ref x4), (5, .int x5)] [] h := by
    intro x3 x4 x5 h hO
    unfold S_splitTo_j109 at hO
    obtain ⟨g1, hO⟩ := ok_if hO
    refine rb hG 5 109 112 [.aload 3, .iload 5] [] [] [(0, .ref 57), (2, .int x2), (3, .ref x3), (4, .ref x4), (5, .int x5)] [.int x5, .ref x3] h [] (by decide +kernel) rfl trivial ?_
    refine rv hG z_B_forgetFirst 189 1 112 x3 [.int x5] [] (by decide +kernel) mk_B_forgetFirst lk_7_189 (rcv_B g1) rfl ⟨rfl, Nat.le_of_ble_eq_true rfl⟩ (c_B_forgetFirst (d := d + 1) h x3 x5 (ok_bind hO)) ?_
    rintro _ h2 ⟨rfl, hO⟩
    refine rbx hG 6 115 120 [.aload 3, .ldc_w 0, .putfield 4] [0] [] (wr h2 x3 4 (0 : Int32)) (fun h3 => [(0, .ref 57), (2, .int x2), (3, .ref x3), (4, .ref x4), (5, .int x5)]) (fun h3 => []) (fun h3 => h3) [kd x3 = 0] (by decide +kernel) rfl g1 hO (fun h3 hO => ?_)
    obtain ⟨g4, hO⟩ := ok_if hO
    obtain ⟨g5, hO⟩ := ok_if hO
    refine rb hG 9 120 132 [.aload 4, .aload 4, .getfield 3, .aload 0, .instanceof 706, .iload 2] [] [] [(0, .ref 57), (2, .int x2), (3, .ref x3), (4, .ref x4), (5, .int x5)] [.int x2, .ref (Int32.toNatClampNeg (h3.1 57 6)), .int (h3.1 x4 3), .ref x4] h3 [kd x4 = 0, kd 57 = 7] (by decide +kernel) rfl ⟨g4, kd_57⟩ ?_
    refine rv hG z_H_keepsOf 172 1 132 (Int32.toNatClampNeg (h3.1 57 6)) [.int x2] [.int (h3.1 x4 3), .ref x4] (by decide +kernel) mk_H_keepsOf lk_7_172 (rcv_H g5) rfl ⟨rfl, Nat.le_of_ble_eq_true rfl⟩ (c_H_keepsOf (d := d) h3 (Int32.toNatClampNeg (h3.1 57 6)) x2 (ok_bind hO)) ?_
    rintro _ _ ⟨r6, rfl, rfl, hO⟩
    refine rb hG 4 135 136 [.isub] [] [] [(0, .ref 57), (2, .int x2), (3, .ref x3), (4, .ref x4), (5, .int x5)] [.int ((h3.1 x4 3) - r6), .ref x4] h3 [] (by decide +kernel) rfl trivial ?_
    refine rv hG z_B_forgetFirst 189 1 136 x4 [.int ((h3.1 x4 3) - r6)] [] (by decide +kernel) mk_B_forgetFirst lk_7_189 (rcv_B g4) rfl ⟨rfl, Nat.le_of_ble_eq_true rfl⟩ (c_B_forgetFirst (d := d + 1) h3 x4 ((h3.1 x4 3) - r6) (ok_bind hO)) ?_
    rintro _ h7 ⟨rfl, hO⟩
    refine rbx hG 6 139 145 [.aload 4, .ldc_w 0, .putfield 4] [0] [] (wr h7 x4 4 (0 : Int32)) (fun h8 => [(0, .ref 57), (2, .int x2), (3, .ref x3), (4, .ref x4), (5, .int x5)]) (fun h8 => []) (fun h8 => h8) [kd x4 = 0] (by decide +kernel) rfl g4 hO (fun h8 hO => ?_)
    refine rb hG 4 145 146 [.ldc_w 0] [1] [] [(0, .ref 57), (2, .int x2), (3, .ref x3), (4, .ref x4), (5, .int x5)] [.int (1 : Int32)] h8 [] (by decide +kernel) rfl trivial ?_
    exact eZ hG 146 (by decide +kernel) rfl (Or.inr rfl) ⟨(1 : Int32), rfl, ok_some (Q := P) hO⟩
  have l73 : ∀ (x3 : Nat) (x4 : Nat) (x5 : Int32) (x6 : Int32) (h : Hp), Okk (S_splitTo_l73 x2 x3 x4 x5 x6 h) P → G 73 [(0, .ref 57), (2, .int x2), (3, .ref x3), (4, .ref x4), (5, .int x5), (6, .int x6)] [] h := by
    intro x3 x4 x5 x6 h hO
    obtain ⟨H73, eH73⟩ : ∃ q : (Int32 × Hp) → Prop, q = fun s => G 73 [(0, .ref 57), (2, .int x2), (3, .ref x3), (4, .ref x4), (5, .int x5), (6, .int (s.1))] [] (s.2) := ⟨_, rfl⟩
    have w9 : H73 (x6, h) := by
      refine lp_wp (f := fun s : (Int32 × Hp) => S_splitTo_b73 x2 x3 x4 x5 s.1 s.2) (H := H73) (Q := P) ?_ (x6, h) hO
      rintro ⟨x6, h⟩ hO
      rw [eH73]
      show G 73 [(0, .ref 57), (2, .int x2), (3, .ref x3), (4, .ref x4), (5, .int x5), (6, .int x6)] [] h
      have k73 : ∀ s : (Int32 × Hp), H73 s → G 73 [(0, .ref 57), (2, .int x2), (3, .ref x3), (4, .ref x4), (5, .int x5), (6, .int (s.1))] [] (s.2) := fun s q => by rw [eH73] at q; exact q
      replace hO : Okk (S_splitTo_b73 x2 x3 x4 x5 x6 h) (Sum.elim H73 P) := hO
      clear eH73
      unfold S_splitTo_b73 at hO
      refine rb hG 5 73 77 [.iload 6, .iload 5] [] [] [(0, .ref 57), (2, .int x2), (3, .ref x3), (4, .ref x4), (5, .int x5), (6, .int x6)] [.int x5, .int x6] h [] (by decide +kernel) rfl trivial ?_
      refine rj hG .ge (32) 109 77 (by decide +kernel) (by decide) (fun c9 => ?_) (fun c9 => ?_)
      · have hO := ok_pos c9 hO
        refine rs hG [(0, .ref 57), (2, .int x2), (3, .ref x3), (4, .ref x4), (5, .int x5)] [0, 1, 2, 3, 4] rfl ?_
        exact j109 x3 x4 x5 h (ok_inr hO)
      · have hO := ok_neg c9 hO
        obtain ⟨g10, hO⟩ := ok_if hO
        refine rb hG 6 80 85 [.aload 4, .aload 3, .iload 6] [] [] [(0, .ref 57), (2, .int x2), (3, .ref x3), (4, .ref x4), (5, .int x5), (6, .int x6)] [.int x6, .ref x3, .ref x4] h [] (by decide +kernel) rfl trivial ?_
        refine rv hG z_B_guestsOf 129 1 85 x3 [.int x6] [.ref x4] (by decide +kernel) mk_B_guestsOf lk_7_129 (rcv_B g10) rfl ⟨rfl, Nat.le_of_ble_eq_true rfl⟩ (c_B_guestsOf (d := d + 1) h x3 x6 (ok_bind hO)) ?_
        rintro _ _ ⟨r11, rfl, rfl, hO⟩
        refine rb hG 5 88 91 [.aload 3, .iload 6] [] [] [(0, .ref 57), (2, .int x2), (3, .ref x3), (4, .ref x4), (5, .int x5), (6, .int x6)] [.int x6, .ref x3, .int r11, .ref x4] h [] (by decide +kernel) rfl trivial ?_
        refine rv hG z_B_wordsOf 132 1 91 x3 [.int x6] [.int r11, .ref x4] (by decide +kernel) mk_B_wordsOf lk_7_132 (rcv_B g10) rfl ⟨rfl, Nat.le_of_ble_eq_true rfl⟩ (c_B_wordsOf (d := d + 1) h x3 x6 (ok_bind hO)) ?_
        rintro _ _ ⟨r12, rfl, rfl, hO⟩
        refine rb hG 5 94 97 [.aload 3, .iload 6] [] [] [(0, .ref 57), (2, .int x2), (3, .ref x3), (4, .ref x4), (5, .int x5), (6, .int x6)] [.int x6, .ref x3, .int r12, .int r11, .ref x4] h [] (by decide +kernel) rfl trivial ?_
        refine rv hG z_B_nightOf 183 1 97 x3 [.int x6] [.int r12, .int r11, .ref x4] (by decide +kernel) mk_B_nightOf lk_7_183 (rcv_B g10) rfl ⟨rfl, Nat.le_of_ble_eq_true rfl⟩ (c_B_nightOf (d := d + 1) h x3 x6 (ok_bind hO)) ?_
        rintro _ _ ⟨r13, rfl, rfl, hO⟩
        obtain ⟨g14, hO⟩ := ok_if hO
        refine rv hG z_B_append 186 3 100 x4 [.int r11, .int r12, .int r13] [] (by decide +kernel) mk_B_append lk_7_186 (rcv_B g14) rfl ⟨rfl, Nat.le_of_ble_eq_true rfl⟩ (c_B_append (d := d + 1) h x4 r11 r12 r13 (ok_bind hO)) ?_
        rintro _ h15 ⟨rfl, hO⟩
        refine rbx hG 4 103 106 [.iinc 6 0] [1] [] ((x6 + (1 : Int32))) (fun y16 => [(6, .int y16), (0, .ref 57), (2, .int x2), (3, .ref x3), (4, .ref x4), (5, .int x5)]) (fun y16 => []) (fun y16 => h15) [] (by decide +kernel) rfl trivial hO (fun y16 hO => ?_)
        refine rb hG 4 106 73 [] [] [] [(6, .int y16), (0, .ref 57), (2, .int x2), (3, .ref x3), (4, .ref x4), (5, .int x5)] [] h15 [] (by decide +kernel) rfl trivial ?_
        refine rs hG [(0, .ref 57), (2, .int x2), (3, .ref x3), (4, .ref x4), (5, .int x5), (6, .int y16)] [1, 2, 3, 4, 5, 0] rfl ?_
        exact k73 (y16, h15) (ok_some (Q := (Sum.elim H73 P)) hO)
    rw [eH73] at w9
    exact w9
  refine rb hG 5 0 2 [.aload 0, .iload 1] [] [] [(0, .ref 57), (1, .int x1), (2, .int x2)] [.int x1, .ref 57] h [] (by decide +kernel) rfl trivial ?_
  refine rv hG z_S_benchAt 107 1 2 57 [.int x1] [] (by decide +kernel) mk_S_benchAt lk_7_107 rcv_57 rfl ⟨rfl, Nat.le_of_ble_eq_true rfl⟩ (c_S_benchAt (d := d) h x1 (ok_bind hO)) ?_
  rintro _ _ ⟨r17, rfl, rfl, hO⟩
  refine rb hG 6 5 8 [.astore 3, .aload 0, .iload 2] [] [] [(3, .ref r17), (0, .ref 57), (1, .int x1), (2, .int x2)] [.int x2, .ref 57] h [] (by decide +kernel) rfl trivial ?_
  refine rv hG z_S_benchAt 107 1 8 57 [.int x2] [] (by decide +kernel) mk_S_benchAt lk_7_107 rcv_57 rfl ⟨rfl, Nat.le_of_ble_eq_true rfl⟩ (c_S_benchAt (d := d) h x2 (ok_bind hO)) ?_
  rintro _ _ ⟨r18, rfl, rfl, hO⟩
  refine rb hG 5 11 14 [.astore 4, .aload 3] [] [] [(4, .ref r18), (3, .ref r17), (0, .ref 57), (1, .int x1), (2, .int x2)] [.ref r17] h [] (by decide +kernel) rfl trivial ?_
  refine rn hG (28) 42 14 (by decide +kernel) (by decide) (fun c19 => ?_) (fun c19 => ?_)
  · have hO := ok_pos c19 hO
    refine rs hG [] [] rfl ?_
    exact j42 h hO
  · have hO := ok_neg c19 hO
    refine rb hG 4 17 19 [.aload 4] [] [] [(4, .ref r18), (3, .ref r17), (0, .ref 57), (1, .int x1), (2, .int x2)] [.ref r18] h [] (by decide +kernel) rfl trivial ?_
    refine rn hG (23) 42 19 (by decide +kernel) (by decide) (fun c20 => ?_) (fun c20 => ?_)
    · have hO := ok_pos c20 hO
      refine rs hG [] [] rfl ?_
      exact j42 h hO
    · have hO := ok_neg c20 hO
      refine rb hG 5 22 24 [.iload 1, .iload 2] [] [] [(4, .ref r18), (3, .ref r17), (0, .ref 57), (1, .int x1), (2, .int x2)] [.int x2, .int x1] h [] (by decide +kernel) rfl trivial ?_
      refine rj hG .eq (18) 42 24 (by decide +kernel) (by decide) (fun c21 => ?_) (fun c21 => ?_)
      · have hO := ok_pos c21 hO
        refine rs hG [] [] rfl ?_
        exact j42 h hO
      · have hO := ok_neg c21 hO
        obtain ⟨g22, hO⟩ := ok_if hO
        refine rb hG 5 27 31 [.aload 3, .getfield 5] [] [] [(4, .ref r18), (3, .ref r17), (0, .ref 57), (1, .int x1), (2, .int x2)] [.int (h.1 r17 5)] h [kd r17 = 0] (by decide +kernel) rfl g22 ?_
        refine riN hG (11) 42 31 (by decide +kernel) (by decide) (fun c23 => ?_) (fun c23 => ?_)
        · have hO := ok_pos c23 hO
          obtain ⟨g24, hO⟩ := ok_if hO
          refine rb hG 5 34 39 [.aload 4, .getfield 5] [] [] [(4, .ref r18), (3, .ref r17), (0, .ref 57), (1, .int x1), (2, .int x2)] [.int (h.1 r18 5)] h [kd r18 = 0] (by decide +kernel) rfl g24 ?_
          refine ri hG .eq (5) 44 39 (by decide +kernel) (by decide) (fun c25 => ?_) (fun c25 => ?_)
          · have hO := ok_pos c25 hO
            refine rb hG 5 44 49 [.aload 4, .getfield 3] [] [] [(4, .ref r18), (3, .ref r17), (0, .ref 57), (1, .int x1), (2, .int x2)] [.int (h.1 r18 3)] h [kd r18 = 0] (by decide +kernel) rfl g24 ?_
            refine ri hG .gt (11) 60 49 (by decide +kernel) (by decide) (fun c26 => ?_) (fun c26 => ?_)
            · have hO := ok_pos c26 hO
              refine rs hG [] [] rfl ?_
              exact j60 h hO
            · have hO := ok_neg c26 hO
              refine rb hG 6 52 57 [.aload 3, .getfield 3, .ldc_w 0] [2] [] [(4, .ref r18), (3, .ref r17), (0, .ref 57), (1, .int x1), (2, .int x2)] [.int (2 : Int32), .int (h.1 r17 3)] h [kd r17 = 0] (by decide +kernel) rfl g22 ?_
              refine rj hG .ge (5) 62 57 (by decide +kernel) (by decide) (fun c27 => ?_) (fun c27 => ?_)
              · have hO := ok_pos c27 hO
                refine rbx hG 8 62 70 [.aload 3, .getfield 3, .ldc_w 0, .idiv, .istore 5] [2] [] (((h.1 r17 3) / (2 : Int32))) (fun y28 => [(5, .int y28), (4, .ref r18), (3, .ref r17), (0, .ref 57), (1, .int x1), (2, .int x2)]) (fun y28 => []) (fun y28 => h) [kd r17 = 0, ¬ (2 : Int32) = 0] (by decide +kernel) rfl ⟨g22, (show ¬ (2 : Int32) = 0 by decide)⟩ hO (fun y28 hO => ?_)
                refine rb hG 5 70 73 [.ldc_w 0, .istore 6] [0] [] [(6, .int (0 : Int32)), (5, .int y28), (4, .ref r18), (3, .ref r17), (0, .ref 57), (1, .int x1), (2, .int x2)] [] h [] (by decide +kernel) rfl trivial ?_
                refine rs hG [(0, .ref 57), (2, .int x2), (3, .ref r17), (4, .ref r18), (5, .int y28), (6, .int (0 : Int32))] [4, 6, 3, 2, 1, 0] rfl ?_
                exact l73 r17 r18 y28 (0 : Int32) h hO
              · have hO := ok_neg c27 hO
                refine rs hG [] [] rfl ?_
                exact j60 h hO
          · have hO := ok_neg c25 hO
            refine rs hG [] [] rfl ?_
            exact j42 h hO
        · have hO := ok_neg c23 hO
          refine rs hG [] [] rfl ?_
          exact j42 h hO
/-! GrainInn.State.follows(LGrainInn$Lines;I)Z -/
noncomputable def S_follows (h : Hp) (x1 : Nat) (x2 : Int32) : Option (Int32 × Hp) := if kd x1 = 2 then ((L_firstOf h x1 x2).bind fun r2 => (L_secondOf h x1 x2).bind fun r3 => (L_kindOf h x1 x2).bind fun r4 => if r4 = (0 : Int32) then ((S_sitDown h r2 r3).bind fun (r6, h7) => if r6 = 0 ∨ r6 = 1 then (some (r6, h7)) else none) else (if r4 = (1 : Int32) then ((S_speak h r2 r3).bind fun (r10, h11) => if r10 = 0 ∨ r10 = 1 then (some (r10, h11)) else none) else (if r4 = (2 : Int32) then ((S_endNight h).bind fun h14 => some ((1 : Int32), h14)) else (if r4 = (3 : Int32) then ((S_scrubAt h r2).bind fun (r16, h17) => if r16 = 0 ∨ r16 = 1 then (some (r16, h17)) else none) else (if r4 = (4 : Int32) then ((S_joinTo h r2 r3).bind fun (r20, h21) => if r20 = 0 ∨ r20 = 1 then (some (r20, h21)) else none) else (if r4 = (5 : Int32) then ((S_splitTo h r2 r3).bind fun (r24, h25) => if r24 = 0 ∨ r24 = 1 then (some (r24, h25)) else none) else (some ((0 : Int32), h)))))))) else none
set_option maxRecDepth 100000 in
set_option maxHeartbeats 4000000 in
theorem c_S_follows {E : En} {d : Nat} (h : Hp) (x1 : Nat) (x2 : Int32) {P : (Int32 × Hp) → Prop} (hO : Okk (S_follows h x1 x2) P) : Cn E (d + 5) z_S_follows [.ref 57, .ref x1, .int x2] h (RI P) := by
  refine cn_of (on := 7) (d := d + 4) ⟨rfl, by decide +kernel, Nat.le_of_ble_eq_true rfl⟩ (fun G hG => ?_)
  unfold S_follows at hO
  show G 0 [(0, .ref 57), (1, .ref x1), (2, .int x2)] [] h
  obtain ⟨g1, hO⟩ := ok_if hO
  refine rb hG 5 0 2 [.aload 1, .iload 2] [] [] [(0, .ref 57), (1, .ref x1), (2, .int x2)] [.int x2, .ref x1] h [] (by decide +kernel) rfl trivial ?_
  refine rv hG z_L_firstOf 77 1 2 x1 [.int x2] [] (by decide +kernel) mk_L_firstOf lk_7_77 (rcv_L g1) rfl ⟨rfl, Nat.le_of_ble_eq_true rfl⟩ (c_L_firstOf (d := d + 2) h x1 x2 (ok_bind hO)) ?_
  rintro _ _ ⟨r2, rfl, rfl, hO⟩
  refine rb hG 6 5 8 [.istore 3, .aload 1, .iload 2] [] [] [(3, .int r2), (0, .ref 57), (1, .ref x1), (2, .int x2)] [.int x2, .ref x1] h [] (by decide +kernel) rfl trivial ?_
  refine rv hG z_L_secondOf 83 1 8 x1 [.int x2] [] (by decide +kernel) mk_L_secondOf lk_7_83 (rcv_L g1) rfl ⟨rfl, Nat.le_of_ble_eq_true rfl⟩ (c_L_secondOf (d := d + 2) h x1 x2 (ok_bind hO)) ?_
  rintro _ _ ⟨r3, rfl, rfl, hO⟩
  refine rb hG 6 11 15 [.istore 4, .aload 1, .iload 2] [] [] [(4, .int r3), (3, .int r2), (0, .ref 57), (1, .ref x1), (2, .int x2)] [.int x2, .ref x1] h [] (by decide +kernel) rfl trivial ?_
  refine rv hG z_L_kindOf 86 1 15 x1 [.int x2] [] (by decide +kernel) mk_L_kindOf lk_7_86 (rcv_L g1) rfl ⟨rfl, Nat.le_of_ble_eq_true rfl⟩ (c_L_kindOf (d := d + 2) h x1 x2 (ok_bind hO)) ?_
  rintro _ _ ⟨r4, rfl, rfl, hO⟩
  refine rw9 hG (82) (0) (5) #[(38), (46), (54), (60), (66), (74)] 38 18 [56, 64, 72, 78, 84, 92] 100 (by decide +kernel) (by decide +kernel) ?_
  refine sw_c (0 : Int32) (by decide) (fun c5 => ?_) (fun c5 => ?_)
  · have hO := ok_pos c5 hO
    refine rb hG 6 56 60 [.aload 0, .iload 3, .iload 4] [] [] [(4, .int r3), (3, .int r2), (0, .ref 57), (1, .ref x1), (2, .int x2)] [.int r3, .int r2, .ref 57] h [] (by decide +kernel) rfl trivial ?_
    refine rv hG z_S_sitDown 89 2 60 57 [.int r2, .int r3] [] (by decide +kernel) mk_S_sitDown lk_7_89 rcv_57 rfl ⟨rfl, Nat.le_of_ble_eq_true rfl⟩ (c_S_sitDown (d := d) h r2 r3 (ok_bind hO)) ?_
    rintro _ h7 ⟨r6, rfl, hO⟩
    obtain ⟨g8, hO⟩ := ok_if hO
    exact eZ hG 63 (by decide +kernel) rfl g8 ⟨r6, rfl, ok_some (Q := P) hO⟩
  have hO := ok_neg c5 hO
  refine sw_c (1 : Int32) (by decide) (fun c9 => ?_) (fun c9 => ?_)
  · have hO := ok_pos c9 hO
    refine rb hG 6 64 68 [.aload 0, .iload 3, .iload 4] [] [] [(4, .int r3), (3, .int r2), (0, .ref 57), (1, .ref x1), (2, .int x2)] [.int r3, .int r2, .ref 57] h [] (by decide +kernel) rfl trivial ?_
    refine rv hG z_S_speak 92 2 68 57 [.int r2, .int r3] [] (by decide +kernel) mk_S_speak lk_7_92 rcv_57 rfl ⟨rfl, Nat.le_of_ble_eq_true rfl⟩ (c_S_speak (d := d + 1) h r2 r3 (ok_bind hO)) ?_
    rintro _ h11 ⟨r10, rfl, hO⟩
    obtain ⟨g12, hO⟩ := ok_if hO
    exact eZ hG 71 (by decide +kernel) rfl g12 ⟨r10, rfl, ok_some (Q := P) hO⟩
  have hO := ok_neg c9 hO
  refine sw_c (2 : Int32) (by decide) (fun c13 => ?_) (fun c13 => ?_)
  · have hO := ok_pos c13 hO
    refine rb hG 4 72 73 [.aload 0] [] [] [(4, .int r3), (3, .int r2), (0, .ref 57), (1, .ref x1), (2, .int x2)] [.ref 57] h [] (by decide +kernel) rfl trivial ?_
    refine rv hG z_S_endNight 95 0 73 57 [] [] (by decide +kernel) mk_S_endNight lk_7_95 rcv_57 rfl ⟨rfl, Nat.le_of_ble_eq_true rfl⟩ (c_S_endNight (d := d + 1) h (ok_bind hO)) ?_
    rintro _ h14 ⟨rfl, hO⟩
    refine rb hG 4 76 77 [.ldc_w 0] [1] [] [(4, .int r3), (3, .int r2), (0, .ref 57), (1, .ref x1), (2, .int x2)] [.int (1 : Int32)] h14 [] (by decide +kernel) rfl trivial ?_
    exact eZ hG 77 (by decide +kernel) rfl (Or.inr rfl) ⟨(1 : Int32), rfl, ok_some (Q := P) hO⟩
  have hO := ok_neg c13 hO
  refine sw_c (3 : Int32) (by decide) (fun c15 => ?_) (fun c15 => ?_)
  · have hO := ok_pos c15 hO
    refine rb hG 5 78 80 [.aload 0, .iload 3] [] [] [(4, .int r3), (3, .int r2), (0, .ref 57), (1, .ref x1), (2, .int x2)] [.int r2, .ref 57] h [] (by decide +kernel) rfl trivial ?_
    refine rv hG z_S_scrubAt 98 1 80 57 [.int r2] [] (by decide +kernel) mk_S_scrubAt lk_7_98 rcv_57 rfl ⟨rfl, Nat.le_of_ble_eq_true rfl⟩ (c_S_scrubAt (d := d + 1) h r2 (ok_bind hO)) ?_
    rintro _ h17 ⟨r16, rfl, hO⟩
    obtain ⟨g18, hO⟩ := ok_if hO
    exact eZ hG 83 (by decide +kernel) rfl g18 ⟨r16, rfl, ok_some (Q := P) hO⟩
  have hO := ok_neg c15 hO
  refine sw_c (4 : Int32) (by decide) (fun c19 => ?_) (fun c19 => ?_)
  · have hO := ok_pos c19 hO
    refine rb hG 6 84 88 [.aload 0, .iload 3, .iload 4] [] [] [(4, .int r3), (3, .int r2), (0, .ref 57), (1, .ref x1), (2, .int x2)] [.int r3, .int r2, .ref 57] h [] (by decide +kernel) rfl trivial ?_
    refine rv hG z_S_joinTo 101 2 88 57 [.int r2, .int r3] [] (by decide +kernel) mk_S_joinTo lk_7_101 rcv_57 rfl ⟨rfl, Nat.le_of_ble_eq_true rfl⟩ (c_S_joinTo (d := d + 1) h r2 r3 (ok_bind hO)) ?_
    rintro _ h21 ⟨r20, rfl, hO⟩
    obtain ⟨g22, hO⟩ := ok_if hO
    exact eZ hG 91 (by decide +kernel) rfl g22 ⟨r20, rfl, ok_some (Q := P) hO⟩
  have hO := ok_neg c19 hO
  refine sw_c (5 : Int32) (by decide) (fun c23 => ?_) (fun c23 => ?_)
  · have hO := ok_pos c23 hO
    refine rb hG 6 92 96 [.aload 0, .iload 3, .iload 4] [] [] [(4, .int r3), (3, .int r2), (0, .ref 57), (1, .ref x1), (2, .int x2)] [.int r3, .int r2, .ref 57] h [] (by decide +kernel) rfl trivial ?_
    refine rv hG z_S_splitTo 104 2 96 57 [.int r2, .int r3] [] (by decide +kernel) mk_S_splitTo lk_7_104 rcv_57 rfl ⟨rfl, Nat.le_of_ble_eq_true rfl⟩ (c_S_splitTo (d := d + 1) h r2 r3 (ok_bind hO)) ?_
    rintro _ h25 ⟨r24, rfl, hO⟩
    obtain ⟨g26, hO⟩ := ok_if hO
    exact eZ hG 99 (by decide +kernel) rfl g26 ⟨r24, rfl, ok_some (Q := P) hO⟩
  have hO := ok_neg c23 hO
  show G 100 _ _ _
  refine rb hG 4 100 101 [.ldc_w 0] [0] [] [(4, .int r3), (3, .int r2), (0, .ref 57), (1, .ref x1), (2, .int x2)] [.int (0 : Int32)] h [] (by decide +kernel) rfl trivial ?_
  exact eZ hG 101 (by decide +kernel) rfl (Or.inl rfl) ⟨(0 : Int32), rfl, ok_some (Q := P) hO⟩
