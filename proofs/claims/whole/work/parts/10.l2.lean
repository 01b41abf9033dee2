/-! GrainInn.Tape.takeOne(I)V -/
noncomputable def T_takeOne_j51 (x0 : Nat) (h : Hp) : Option Hp := some h
noncomputable def T_takeOne_b3 (x0 : Nat) (x1 : Int32) (x2 : Int32) (h : Hp) : Option ((Int32 × Hp) ⊕ Hp) := if x2 < 0 then (((T_takeOne_j51 x0 h).map Sum.inr)) else (if 20 ≤ kd (x0 + 1) ∧ kd (x0 + 1) < 27 then (if (Int32.ofNat (ln (x0 + 1))) ≤ (h.1 x0 1) then (((T_takeOne_j51 x0 h).map Sum.inr)) else (if kd (x0 + 1) = 20 ∧ inb (h.1 x0 1) (ln (x0 + 1)) then (bnd (wr h (x0 + 1) (Int32.toNatClampNeg (h.1 x0 1)) ((us x1 x2) &&& (255 : Int32))) fun h5 => bnd (wr h5 x0 1 ((h5.1 x0 1) + (1 : Int32))) fun h6 => bnd ((x2 + (-8 : Int32))) fun y7 => some (.inl (y7, h6))) else none)) else none)
noncomputable def T_takeOne_l3 (x0 : Nat) (x1 : Int32) (x2 : Int32) (h : Hp) : Option Hp := lp (fun s : (Int32 × Hp) => T_takeOne_b3 x0 x1 s.1 s.2) (x2, h)
theorem T_takeOne_l3_eq (x0 : Nat) (x1 : Int32) (x2 : Int32) (h : Hp) : T_takeOne_l3 x0 x1 x2 h = (T_takeOne_b3 x0 x1 x2 h).bind (Sum.elim (fun q : (Int32 × Hp) => T_takeOne_l3 x0 x1 q.1 q.2) some) := lp_eq _ _
noncomputable def T_takeOne (h : Hp) (x0 : Nat) (x1 : Int32) : Option Hp := if kd x0 = 8 then ((T_takeOne_l3 x0 x1 (24 : Int32) h)) else none
set_option maxRecDepth 100000 in
set_option maxHeartbeats 4000000 in
theorem c_T_takeOne {E : En} {d : Nat} (h : Hp) (x0 : Nat) (x1 : Int32) {P : Hp → Prop} (hO : Okk (T_takeOne h x0 x1) P) : Cn E (d + 1) z_T_takeOne [.ref x0, .int x1] h (RV P) := by
  refine cn_of (on := 8) (d := d + 0) ⟨rfl, by decide +kernel, Nat.le_of_ble_eq_true rfl⟩ (fun G hG => ?_)
  unfold T_takeOne at hO
  show G 0 [(0, .ref x0), (1, .int x1)] [] h
  obtain ⟨g0, hO⟩ := ok_if hO
  have j51 : ∀ (h : Hp), Okk (T_takeOne_j51 x0 h) P → G 51 [] [] h := by
    intro h hO
    unfold T_takeOne_j51 at hO
    exact eV hG 51 (by decide +kernel) rfl ⟨rfl, ok_some (Q := P) hO⟩
  have l3 : ∀ (x2 : Int32) (h : Hp), Okk (T_takeOne_l3 x0 x1 x2 h) P → G 3 [(0, .ref x0), (1, .int x1), (2, .int x2)] [] h := by
    intro x2 h hO
    obtain ⟨H3, eH3⟩ : ∃ q : (Int32 × Hp) → Prop, q = fun s => G 3 [(0, .ref x0), (1, .int x1), (2, .int (s.1))] [] (s.2) := ⟨_, rfl⟩
    have w9 : H3 (x2, h) := by
      refine lp_wp (f := fun s : (Int32 × Hp) => T_takeOne_b3 x0 x1 s.1 s.2) (H := H3) (Q := P) ?_ (x2, h) hO
      rintro ⟨x2, h⟩ hO
      rw [eH3]
      show G 3 [(0, .ref x0), (1, .int x1), (2, .int x2)] [] h
      have k3 : ∀ s : (Int32 × Hp), H3 s → G 3 [(0, .ref x0), (1, .int x1), (2, .int (s.1))] [] (s.2) := fun s q => by rw [eH3] at q; exact q
      replace hO : Okk (T_takeOne_b3 x0 x1 x2 h) (Sum.elim H3 P) := hO
      clear eH3
      unfold T_takeOne_b3 at hO
      refine rb hG 4 3 4 [.iload 2] [] [] [(0, .ref x0), (1, .int x1), (2, .int x2)] [.int x2] h [] (by decide +kernel) rfl trivial ?_
      refine ri hG .lt (47) 51 4 (by decide +kernel) (by decide) (fun c1 => ?_) (fun c1 => ?_)
      · have hO := ok_pos c1 hO
        refine rs hG [] [] rfl ?_
        exact j51 h (ok_inr hO)
      · have hO := ok_neg c1 hO
        obtain ⟨g2, hO⟩ := ok_if hO
        refine rb hG 8 7 16 [.aload 0, .getfield 801, .aload 0, .invokeinterface 800 1, .arraylength] [] [] [(0, .ref x0), (1, .int x1), (2, .int x2)] [.int (Int32.ofNat (ln (x0 + 1))), .int (h.1 x0 1)] h [kd x0 = 8, kd x0 = 8, 20 ≤ kd (x0 + 1) ∧ kd (x0 + 1) < 27] (by decide +kernel) rfl ⟨g0, g0, g2⟩ ?_
        refine rj hG .ge (35) 51 16 (by decide +kernel) (by decide) (fun c3 => ?_) (fun c3 => ?_)
        · have hO := ok_pos c3 hO
          refine rs hG [] [] rfl ?_
          exact j51 h (ok_inr hO)
        · have hO := ok_neg c3 hO
          obtain ⟨g4, hO⟩ := ok_if hO
          refine rbx hG 13 19 35 [.aload 0, .invokeinterface 800 1, .aload 0, .getfield 801, .iload 1, .iload 2, .iushr, .ldc_w 0, .iand, .iastore] [255] [] (wr h (x0 + 1) (Int32.toNatClampNeg (h.1 x0 1)) ((us x1 x2) &&& (255 : Int32))) (fun h5 => [(0, .ref x0), (1, .int x1), (2, .int x2)]) (fun h5 => []) (fun h5 => h5) [kd x0 = 8, kd x0 = 8, kd (x0 + 1) = 20 ∧ inb (h.1 x0 1) (ln (x0 + 1))] (by decide +kernel) rfl ⟨g0, g0, g4⟩ hO (fun h5 hO => ?_)
          refine rbx hG 9 35 45 [.aload 0, .dup, .getfield 801, .ldc_w 0, .iadd, .putfield 801] [1] [] (wr h5 x0 1 ((h5.1 x0 1) + (1 : Int32))) (fun h6 => [(0, .ref x0), (1, .int x1), (2, .int x2)]) (fun h6 => []) (fun h6 => h6) [kd x0 = 8, kd x0 = 8] (by decide +kernel) rfl ⟨g0, g0⟩ hO (fun h6 hO => ?_)
          refine rbx hG 4 45 48 [.iinc 2 0] [-8] [] ((x2 + (-8 : Int32))) (fun y7 => [(2, .int y7), (0, .ref x0), (1, .int x1)]) (fun y7 => []) (fun y7 => h6) [] (by decide +kernel) rfl trivial hO (fun y7 hO => ?_)
          refine rb hG 4 48 3 [] [] [] [(2, .int y7), (0, .ref x0), (1, .int x1)] [] h6 [] (by decide +kernel) rfl trivial ?_
          refine rs hG [(0, .ref x0), (1, .int x1), (2, .int y7)] [1, 2, 0] rfl ?_
          exact k3 (y7, h6) (ok_some (Q := (Sum.elim H3 P)) hO)
    rw [eH3] at w9
    exact w9
  refine rb hG 5 0 3 [.ldc_w 0, .istore 2] [24] [] [(2, .int (24 : Int32)), (0, .ref x0), (1, .int x1)] [] h [] (by decide +kernel) rfl trivial ?_
  refine rs hG [(0, .ref x0), (1, .int x1), (2, .int (24 : Int32))] [1, 2, 0] rfl ?_
  exact l3 (24 : Int32) h hO
/-! GrainInn.Tape.takeFive(IIIII)I -/
noncomputable def T_takeFive (h : Hp) (x0 : Nat) (x1 : Int32) (x2 : Int32) (x3 : Int32) (x4 : Int32) (x5 : Int32) : Option (Int32 × Hp) := if kd x0 = 8 then (if 20 ≤ kd (x0 + 1) ∧ kd (x0 + 1) < 27 then (if (h.1 x0 1) ≤ ((Int32.ofNat (ln (x0 + 1))) - (20 : Int32)) then ((T_takeOne h x0 x1).bind fun h3 => (T_takeOne h3 x0 x2).bind fun h4 => (T_takeOne h4 x0 x3).bind fun h5 => (T_takeOne h5 x0 x4).bind fun h6 => (T_takeOne h6 x0 x5).bind fun h7 => some ((h7.1 x0 1), h7)) else (some ((-1 : Int32), h))) else none) else none
set_option maxRecDepth 100000 in
set_option maxHeartbeats 4000000 in
theorem c_T_takeFive {E : En} {d : Nat} (h : Hp) (x0 : Nat) (x1 : Int32) (x2 : Int32) (x3 : Int32) (x4 : Int32) (x5 : Int32) {P : (Int32 × Hp) → Prop} (hO : Okk (T_takeFive h x0 x1 x2 x3 x4 x5) P) : Cn E (d + 2) z_T_takeFive [.ref x0, .int x1, .int x2, .int x3, .int x4, .int x5] h (RI P) := by
  refine cn_of (on := 8) (d := d + 1) ⟨rfl, by decide +kernel, Nat.le_of_ble_eq_true rfl⟩ (fun G hG => ?_)
  unfold T_takeFive at hO
  show G 0 [(0, .ref x0), (1, .int x1), (2, .int x2), (3, .int x3), (4, .int x4), (5, .int x5)] [] h
  obtain ⟨g0, hO⟩ := ok_if hO
  obtain ⟨g1, hO⟩ := ok_if hO
  refine rb hG 10 0 12 [.aload 0, .getfield 801, .aload 0, .invokeinterface 800 1, .arraylength, .ldc_w 0, .isub] [20] [] [(0, .ref x0), (1, .int x1), (2, .int x2), (3, .int x3), (4, .int x4), (5, .int x5)] [.int ((Int32.ofNat (ln (x0 + 1))) - (20 : Int32)), .int (h.1 x0 1)] h [kd x0 = 8, kd x0 = 8, 20 ≤ kd (x0 + 1) ∧ kd (x0 + 1) < 27] (by decide +kernel) rfl ⟨g0, g0, g1⟩ ?_
  refine rj hG .le (5) 17 12 (by decide +kernel) (by decide) (fun c2 => ?_) (fun c2 => ?_)
  · have hO := ok_pos c2 hO
    refine rb hG 5 17 19 [.aload 0, .iload 1] [] [] [(0, .ref x0), (1, .int x1), (2, .int x2), (3, .int x3), (4, .int x4), (5, .int x5)] [.int x1, .ref x0] h [] (by decide +kernel) rfl trivial ?_
    refine rv hG z_T_takeOne 19 1 19 x0 [.int x1] [] (by decide +kernel) mk_T_takeOne lk_8_19 (rcv_T g0) rfl ⟨rfl, Nat.le_of_ble_eq_true rfl⟩ (c_T_takeOne (d := d) h x0 x1 (ok_bind hO)) ?_
    rintro _ h3 ⟨rfl, hO⟩
    refine rb hG 5 22 24 [.aload 0, .iload 2] [] [] [(0, .ref x0), (1, .int x1), (2, .int x2), (3, .int x3), (4, .int x4), (5, .int x5)] [.int x2, .ref x0] h3 [] (by decide +kernel) rfl trivial ?_
    refine rv hG z_T_takeOne 19 1 24 x0 [.int x2] [] (by decide +kernel) mk_T_takeOne lk_8_19 (rcv_T g0) rfl ⟨rfl, Nat.le_of_ble_eq_true rfl⟩ (c_T_takeOne (d := d) h3 x0 x2 (ok_bind hO)) ?_
    rintro _ h4 ⟨rfl, hO⟩
    refine rb hG 5 27 29 [.aload 0, .iload 3] [] [] [(0, .ref x0), (1, .int x1), (2, .int x2), (3, .int x3), (4, .int x4), (5, .int x5)] [.int x3, .ref x0] h4 [] (by decide +kernel) rfl trivial ?_
    refine rv hG z_T_takeOne 19 1 29 x0 [.int x3] [] (by decide +kernel) mk_T_takeOne lk_8_19 (rcv_T g0) rfl ⟨rfl, Nat.le_of_ble_eq_true rfl⟩ (c_T_takeOne (d := d) h4 x0 x3 (ok_bind hO)) ?_
    rintro _ h5 ⟨rfl, hO⟩
    refine rb hG 5 32 35 [.aload 0, .iload 4] [] [] [(0, .ref x0), (1, .int x1), (2, .int x2), (3, .int x3), (4, .int x4), (5, .int x5)] [.int x4, .ref x0] h5 [] (by decide +kernel) rfl trivial ?_
    refine rv hG z_T_takeOne 19 1 35 x0 [.int x4] [] (by decide +kernel) mk_T_takeOne lk_8_19 (rcv_T g0) rfl ⟨rfl, Nat.le_of_ble_eq_true rfl⟩ (c_T_takeOne (d := d) h5 x0 x4 (ok_bind hO)) ?_
    rintro _ h6 ⟨rfl, hO⟩
    refine rb hG 5 38 41 [.aload 0, .iload 5] [] [] [(0, .ref x0), (1, .int x1), (2, .int x2), (3, .int x3), (4, .int x4), (5, .int x5)] [.int x5, .ref x0] h6 [] (by decide +kernel) rfl trivial ?_
    refine rv hG z_T_takeOne 19 1 41 x0 [.int x5] [] (by decide +kernel) mk_T_takeOne lk_8_19 (rcv_T g0) rfl ⟨rfl, Nat.le_of_ble_eq_true rfl⟩ (c_T_takeOne (d := d) h6 x0 x5 (ok_bind hO)) ?_
    rintro _ h7 ⟨rfl, hO⟩
    refine rb hG 5 44 48 [.aload 0, .getfield 801] [] [] [(0, .ref x0), (1, .int x1), (2, .int x2), (3, .int x3), (4, .int x4), (5, .int x5)] [.int (h7.1 x0 1)] h7 [kd x0 = 8] (by decide +kernel) rfl g0 ?_
    exact eI hG 48 (by decide +kernel) rfl ⟨(h7.1 x0 1), rfl, ok_some (Q := P) hO⟩
  · have hO := ok_neg c2 hO
    refine rb hG 4 15 16 [.ldc_w 0] [-1] [] [(0, .ref x0), (1, .int x1), (2, .int x2), (3, .int x3), (4, .int x4), (5, .int x5)] [.int (-1 : Int32)] h [] (by decide +kernel) rfl trivial ?_
    exact eI hG 16 (by decide +kernel) rfl ⟨(-1 : Int32), rfl, ok_some (Q := P) hO⟩
/-! GrainInn.feed(IIIII)I -/
noncomputable def K_feed (h : Hp) (x1 : Int32) (x2 : Int32) (x3 : Int32) (x4 : Int32) (x5 : Int32) : Option (Int32 × Hp) := (T_takeFive h 3 x1 x2 x3 x4 x5).bind fun (r1, h2) => some (r1, h2)
set_option maxRecDepth 100000 in
set_option maxHeartbeats 4000000 in
theorem c_K_feed {E : En} {d : Nat} (h : Hp) (x1 : Int32) (x2 : Int32) (x3 : Int32) (x4 : Int32) (x5 : Int32) {P : (Int32 × Hp) → Prop} (hO : Okk (K_feed h x1 x2 x3 x4 x5) P) : Cn E (d + 3) z_K_feed [.ref 1, .int x1, .int x2, .int x3, .int x4, .int x5] h (RI P) := by
  refine cn_of (on := 11) (d := d + 2) ⟨rfl, by decide +kernel, Nat.le_of_ble_eq_true rfl⟩ (fun G hG => ?_)
  unfold K_feed at hO
  show G 0 [(0, .ref 1), (1, .int x1), (2, .int x2), (3, .int x3), (4, .int x4), (5, .int x5)] [] h
  refine rb hG 11 0 14 [.aload 0, .invokeinterface 1100 1, .invokeinterface 900 1, .iload 1, .iload 2, .iload 3, .iload 4, .iload 5] [] [] [(0, .ref 1), (1, .int x1), (2, .int x2), (3, .int x3), (4, .int x4), (5, .int x5)] [.int x5, .int x4, .int x3, .int x2, .int x1, .ref 3] h [kd 1 = 11, kd 2 = 9] (by decide +kernel) rfl ⟨kd_1, kd_2⟩ ?_
  refine rv hG z_T_takeFive 72 5 14 3 [.int x1, .int x2, .int x3, .int x4, .int x5] [] (by decide +kernel) mk_T_takeFive lk_11_72 rcv_3 rfl ⟨rfl, Nat.le_of_ble_eq_true rfl⟩ (c_T_takeFive (d := d) h 3 x1 x2 x3 x4 x5 (ok_bind hO)) ?_
  rintro _ h2 ⟨r1, rfl, hO⟩
  exact eI hG 17 (by decide +kernel) rfl ⟨r1, rfl, ok_some (Q := P) hO⟩
/-! GrainInnModel.four(I)V -/
noncomputable def M_four_j38 (h : Hp) : Option Hp := some h
noncomputable def M_four_b3 (x1 : Int32) (x2 : Int32) (h : Hp) : Option ((Int32 × Hp) ⊕ Hp) := if x2 < 0 then (((M_four_j38 h).map Sum.inr)) else (if inb (h.1 253 (Int32.toNatClampNeg (0 : Int32))) (ln 252) then (bnd (wr h 252 (Int32.toNatClampNeg (h.1 253 (Int32.toNatClampNeg (0 : Int32)))) (Int8.toInt32 (Int32.toInt8 (Int8.toInt32 (Int32.toInt8 (sr x1 x2)))))) fun h3 => bnd (wr h3 253 (Int32.toNatClampNeg (0 : Int32)) ((h3.1 253 (Int32.toNatClampNeg (0 : Int32))) + (1 : Int32))) fun h4 => bnd ((x2 + (-8 : Int32))) fun y5 => some (.inl (y5, h4))) else none)
noncomputable def M_four_l3 (x1 : Int32) (x2 : Int32) (h : Hp) : Option Hp := lp (fun s : (Int32 × Hp) => M_four_b3 x1 s.1 s.2) (x2, h)
theorem M_four_l3_eq (x1 : Int32) (x2 : Int32) (h : Hp) : M_four_l3 x1 x2 h = (M_four_b3 x1 x2 h).bind (Sum.elim (fun q : (Int32 × Hp) => M_four_l3 x1 q.1 q.2) some) := lp_eq _ _
noncomputable def M_four (h : Hp) (x1 : Int32) : Option Hp := (M_four_l3 x1 (24 : Int32) h)
set_option maxRecDepth 100000 in
set_option maxHeartbeats 4000000 in
theorem c_M_four {E : En} {d : Nat} (h : Hp) (x1 : Int32) {P : Hp → Prop} (hO : Okk (M_four h x1) P) : Cn E (d + 1) z_M_four [.ref 251, .int x1] h (RV P) := by
  refine cn_of (on := 12) (d := d + 0) ⟨rfl, by decide +kernel, Nat.le_of_ble_eq_true rfl⟩ (fun G hG => ?_)
  unfold M_four at hO
  show G 0 [(0, .ref 251), (1, .int x1)] [] h
  have j38 : ∀ (h : Hp), Okk (M_four_j38 h) P → G 38 [] [] h := by
    intro h hO
    unfold M_four_j38 at hO
    exact eV hG 38 (by decide +kernel) rfl ⟨rfl, ok_some (Q := P) hO⟩
  have l3 : ∀ (x2 : Int32) (h : Hp), Okk (M_four_l3 x1 x2 h) P → G 3 [(0, .ref 251), (1, .int x1), (2, .int x2)] [] h := by
    intro x2 h hO
    obtain ⟨H3, eH3⟩ : ∃ q : (Int32 × Hp) → Prop, q = fun s => G 3 [(0, .ref 251), (1, .int x1), (2, .int (s.1))] [] (s.2) := ⟨_, rfl⟩
    have w9 : H3 (x2, h) := by
      refine lp_wp (f := fun s : (Int32 × Hp) => M_four_b3 x1 s.1 s.2) (H := H3) (Q := P) ?_ (x2, h) hO
      rintro ⟨x2, h⟩ hO
      rw [eH3]
      show G 3 [(0, .ref 251), (1, .int x1), (2, .int x2)] [] h
      have k3 : ∀ s : (Int32 × Hp), H3 s → G 3 [(0, .ref 251), (1, .int x1), (2, .int (s.1))] [] (s.2) := fun s q => by rw [eH3] at q; exact q
      replace hO : Okk (M_four_b3 x1 x2 h) (Sum.elim H3 P) := hO
      clear eH3
      unfold M_four_b3 at hO
      refine rb hG 4 3 4 [.iload 2] [] [] [(0, .ref 251), (1, .int x1), (2, .int x2)] [.int x2] h [] (by decide +kernel) rfl trivial ?_
      refine ri hG .lt (34) 38 4 (by decide +kernel) (by decide) (fun c1 => ?_) (fun c1 => ?_)
      · have hO := ok_pos c1 hO
        refine rs hG [] [] rfl ?_
        exact j38 h (ok_inr hO)
      · have hO := ok_neg c1 hO
        obtain ⟨g2, hO⟩ := ok_if hO
        refine rbx hG 14 7 22 [.aload 0, .invokeinterface 1201 1, .aload 0, .invokeinterface 1202 2, .ldc_w 0, .iaload, .iload 1, .iload 2, .ishr, .i2b, .bastore] [0] [] (wr h 252 (Int32.toNatClampNeg (h.1 253 (Int32.toNatClampNeg (0 : Int32)))) (Int8.toInt32 (Int32.toInt8 (Int8.toInt32 (Int32.toInt8 (sr x1 x2)))))) (fun h3 => [(0, .ref 251), (1, .int x1), (2, .int x2)]) (fun h3 => []) (fun h3 => h3) [kd 251 = 12, kd 251 = 12, kd 253 = 20 ∧ inb (0 : Int32) (ln 253), kd 252 = 21 ∧ inb (h.1 253 (Int32.toNatClampNeg (0 : Int32))) (ln 252)] (by decide +kernel) rfl ⟨kd_251, kd_251, ⟨kd_253, (by decide +kernel)⟩, ⟨kd_252, g2⟩⟩ hO (fun h3 hO => ?_)
        refine rbx hG 11 22 32 [.aload 0, .invokeinterface 1202 2, .ldc_w 0, .dup2, .iaload, .ldc_w 1, .iadd, .iastore] [0, 1] [] (wr h3 253 (Int32.toNatClampNeg (0 : Int32)) ((h3.1 253 (Int32.toNatClampNeg (0 : Int32))) + (1 : Int32))) (fun h4 => [(0, .ref 251), (1, .int x1), (2, .int x2)]) (fun h4 => []) (fun h4 => h4) [kd 251 = 12, kd 253 = 20 ∧ inb (0 : Int32) (ln 253), kd 253 = 20 ∧ inb (0 : Int32) (ln 253)] (by decide +kernel) rfl ⟨kd_251, ⟨kd_253, (by decide +kernel)⟩, ⟨kd_253, (by decide +kernel)⟩⟩ hO (fun h4 hO => ?_)
        refine rbx hG 4 32 35 [.iinc 2 0] [-8] [] ((x2 + (-8 : Int32))) (fun y5 => [(2, .int y5), (0, .ref 251), (1, .int x1)]) (fun y5 => []) (fun y5 => h4) [] (by decide +kernel) rfl trivial hO (fun y5 hO => ?_)
        refine rb hG 4 35 3 [] [] [] [(2, .int y5), (0, .ref 251), (1, .int x1)] [] h4 [] (by decide +kernel) rfl trivial ?_
        refine rs hG [(0, .ref 251), (1, .int x1), (2, .int y5)] [1, 2, 0] rfl ?_
        exact k3 (y5, h4) (ok_some (Q := (Sum.elim H3 P)) hO)
    rw [eH3] at w9
    exact w9
  refine rb hG 5 0 3 [.ldc_w 0, .istore 2] [24] [] [(2, .int (24 : Int32)), (0, .ref 251), (1, .int x1)] [] h [] (by decide +kernel) rfl trivial ?_
  refine rs hG [(0, .ref 251), (1, .int x1), (2, .int (24 : Int32))] [1, 2, 0] rfl ?_
  exact l3 (24 : Int32) h hO
/-! GrainInnModel.feed(IIIII)I -/
noncomputable def M_feed (h : Hp) (x1 : Int32) (x2 : Int32) (x3 : Int32) (x4 : Int32) (x5 : Int32) : Option (Int32 × Hp) := bnd (wr h 251 0 (0 : Int32)) fun h1 => if ((h1.1 253 (Int32.toNatClampNeg (0 : Int32))) + (20 : Int32)) ≤ (600 : Int32) then ((M_four h1 x1).bind fun h3 => (M_four h3 x2).bind fun h4 => (M_four h4 x3).bind fun h5 => (M_four h5 x4).bind fun h6 => (M_four h6 x5).bind fun h7 => some ((h7.1 253 (Int32.toNatClampNeg (0 : Int32))), h7)) else (some ((-1 : Int32), h1))
set_option maxRecDepth 100000 in
set_option maxHeartbeats 4000000 in
theorem c_M_feed {E : En} {d : Nat} (h : Hp) (x1 : Int32) (x2 : Int32) (x3 : Int32) (x4 : Int32) (x5 : Int32) {P : (Int32 × Hp) → Prop} (hO : Okk (M_feed h x1 x2 x3 x4 x5) P) : Cn E (d + 2) z_M_feed [.ref 251, .int x1, .int x2, .int x3, .int x4, .int x5] h (RI P) := by
  refine cn_of (on := 12) (d := d + 1) ⟨rfl, by decide +kernel, Nat.le_of_ble_eq_true rfl⟩ (fun G hG => ?_)
  unfold M_feed at hO
  show G 0 [(0, .ref 251), (1, .int x1), (2, .int x2), (3, .int x3), (4, .int x4), (5, .int x5)] [] h
  refine rbx hG 6 0 5 [.aload 0, .ldc_w 0, .putfield 1200] [0] [] (wr h 251 0 (0 : Int32)) (fun h1 => [(0, .ref 251), (1, .int x1), (2, .int x2), (3, .int x3), (4, .int x4), (5, .int x5)]) (fun h1 => []) (fun h1 => h1) [kd 251 = 12] (by decide +kernel) rfl kd_251 hO (fun h1 hO => ?_)
  refine rb hG 10 5 17 [.aload 0, .invokeinterface 1202 2, .ldc_w 0, .iaload, .ldc_w 1, .iadd, .ldc_w 2] [0, 20, 600] [] [(0, .ref 251), (1, .int x1), (2, .int x2), (3, .int x3), (4, .int x4), (5, .int x5)] [.int (600 : Int32), .int ((h1.1 253 (Int32.toNatClampNeg (0 : Int32))) + (20 : Int32))] h1 [kd 251 = 12, kd 253 = 20 ∧ inb (0 : Int32) (ln 253)] (by decide +kernel) rfl ⟨kd_251, ⟨kd_253, (by decide +kernel)⟩⟩ ?_
  refine rj hG .le (5) 22 17 (by decide +kernel) (by decide) (fun c2 => ?_) (fun c2 => ?_)
  · have hO := ok_pos c2 hO
    refine rb hG 5 22 24 [.aload 0, .iload 1] [] [] [(0, .ref 251), (1, .int x1), (2, .int x2), (3, .int x3), (4, .int x4), (5, .int x5)] [.int x1, .ref 251] h1 [] (by decide +kernel) rfl trivial ?_
    refine rv hG z_M_four 115 1 24 251 [.int x1] [] (by decide +kernel) mk_M_four lk_12_115 rcv_251 rfl ⟨rfl, Nat.le_of_ble_eq_true rfl⟩ (c_M_four (d := d) h1 x1 (ok_bind hO)) ?_
    rintro _ h3 ⟨rfl, hO⟩
    refine rb hG 5 27 29 [.aload 0, .iload 2] [] [] [(0, .ref 251), (1, .int x1), (2, .int x2), (3, .int x3), (4, .int x4), (5, .int x5)] [.int x2, .ref 251] h3 [] (by decide +kernel) rfl trivial ?_
    refine rv hG z_M_four 115 1 29 251 [.int x2] [] (by decide +kernel) mk_M_four lk_12_115 rcv_251 rfl ⟨rfl, Nat.le_of_ble_eq_true rfl⟩ (c_M_four (d := d) h3 x2 (ok_bind hO)) ?_
    rintro _ h4 ⟨rfl, hO⟩
    refine rb hG 5 32 34 [.aload 0, .iload 3] [] [] [(0, .ref 251), (1, .int x1), (2, .int x2), (3, .int x3), (4, .int x4), (5, .int x5)] [.int x3, .ref 251] h4 [] (by decide +kernel) rfl trivial ?_
    refine rv hG z_M_four 115 1 34 251 [.int x3] [] (by decide +kernel) mk_M_four lk_12_115 rcv_251 rfl ⟨rfl, Nat.le_of_ble_eq_true rfl⟩ (c_M_four (d := d) h4 x3 (ok_bind hO)) ?_
    rintro _ h5 ⟨rfl, hO⟩
    refine rb hG 5 37 40 [.aload 0, .iload 4] [] [] [(0, .ref 251), (1, .int x1), (2, .int x2), (3, .int x3), (4, .int x4), (5, .int x5)] [.int x4, .ref 251] h5 [] (by decide +kernel) rfl trivial ?_
    refine rv hG z_M_four 115 1 40 251 [.int x4] [] (by decide +kernel) mk_M_four lk_12_115 rcv_251 rfl ⟨rfl, Nat.le_of_ble_eq_true rfl⟩ (c_M_four (d := d) h5 x4 (ok_bind hO)) ?_
    rintro _ h6 ⟨rfl, hO⟩
    refine rb hG 5 43 46 [.aload 0, .iload 5] [] [] [(0, .ref 251), (1, .int x1), (2, .int x2), (3, .int x3), (4, .int x4), (5, .int x5)] [.int x5, .ref 251] h6 [] (by decide +kernel) rfl trivial ?_
    refine rv hG z_M_four 115 1 46 251 [.int x5] [] (by decide +kernel) mk_M_four lk_12_115 rcv_251 rfl ⟨rfl, Nat.le_of_ble_eq_true rfl⟩ (c_M_four (d := d) h6 x5 (ok_bind hO)) ?_
    rintro _ h7 ⟨rfl, hO⟩
    refine rb hG 7 49 55 [.aload 0, .invokeinterface 1202 2, .ldc_w 0, .iaload] [0] [] [(0, .ref 251), (1, .int x1), (2, .int x2), (3, .int x3), (4, .int x4), (5, .int x5)] [.int (h7.1 253 (Int32.toNatClampNeg (0 : Int32)))] h7 [kd 251 = 12, kd 253 = 20 ∧ inb (0 : Int32) (ln 253)] (by decide +kernel) rfl ⟨kd_251, ⟨kd_253, (by decide +kernel)⟩⟩ ?_
    exact eI hG 55 (by decide +kernel) rfl ⟨(h7.1 253 (Int32.toNatClampNeg (0 : Int32))), rfl, ok_some (Q := P) hO⟩
  · have hO := ok_neg c2 hO
    refine rb hG 4 20 21 [.ldc_w 0] [-1] [] [(0, .ref 251), (1, .int x1), (2, .int x2), (3, .int x3), (4, .int x4), (5, .int x5)] [.int (-1 : Int32)] h1 [] (by decide +kernel) rfl trivial ?_
    exact eI hG 21 (by decide +kernel) rfl ⟨(-1 : Int32), rfl, ok_some (Q := P) hO⟩
/-! GrainInn.Tape.cutTo(I)I -/
noncomputable def T_cutTo_j12 (x0 : Nat) (h : Hp) : Option (Int32 × Hp) := some ((-1 : Int32), h)
noncomputable def T_cutTo (h : Hp) (x0 : Nat) (x1 : Int32) : Option (Int32 × Hp) := if kd x0 = 8 then (if x1 < 0 then ((T_cutTo_j12 x0 h)) else (if x1 ≤ (h.1 x0 1) then (bnd (wr h x0 1 x1) fun h3 => some (x1, h3)) else ((T_cutTo_j12 x0 h)))) else none
set_option maxRecDepth 100000 in
set_option maxHeartbeats 4000000 in
theorem c_T_cutTo {E : En} {d : Nat} (h : Hp) (x0 : Nat) (x1 : Int32) {P : (Int32 × Hp) → Prop} (hO : Okk (T_cutTo h x0 x1) P) : Cn E (d + 1) z_T_cutTo [.ref x0, .int x1] h (RI P) := by
  refine cn_of (on := 8) (d := d + 0) ⟨rfl, by decide +kernel, Nat.le_of_ble_eq_true rfl⟩ (fun G hG => ?_)
  unfold T_cutTo at hO
  show G 0 [(0, .ref x0), (1, .int x1)] [] h
  obtain ⟨g0, hO⟩ := ok_if hO
  have j12 : ∀ (h : Hp), Okk (T_cutTo_j12 x0 h) P → G 12 [] [] h := by
    intro h hO
    unfold T_cutTo_j12 at hO
    refine rb hG 4 12 13 [.ldc_w 0] [-1] [] [] [.int (-1 : Int32)] h [] (by decide +kernel) rfl trivial ?_
    exact eI hG 13 (by decide +kernel) rfl ⟨(-1 : Int32), rfl, ok_some (Q := P) hO⟩
  refine rb hG 4 0 1 [.iload 1] [] [] [(0, .ref x0), (1, .int x1)] [.int x1] h [] (by decide +kernel) rfl trivial ?_
  refine ri hG .lt (11) 12 1 (by decide +kernel) (by decide) (fun c1 => ?_) (fun c1 => ?_)
  · have hO := ok_pos c1 hO
    refine rs hG [] [] rfl ?_
    exact j12 h hO
  · have hO := ok_neg c1 hO
    refine rb hG 6 4 9 [.iload 1, .aload 0, .getfield 801] [] [] [(0, .ref x0), (1, .int x1)] [.int (h.1 x0 1), .int x1] h [kd x0 = 8] (by decide +kernel) rfl g0 ?_
    refine rj hG .le (5) 14 9 (by decide +kernel) (by decide) (fun c2 => ?_) (fun c2 => ?_)
    · have hO := ok_pos c2 hO
      refine rbx hG 6 14 19 [.aload 0, .iload 1, .putfield 801] [] [] (wr h x0 1 x1) (fun h3 => [(0, .ref x0), (1, .int x1)]) (fun h3 => []) (fun h3 => h3) [kd x0 = 8] (by decide +kernel) rfl g0 hO (fun h3 hO => ?_)
      refine rb hG 4 19 20 [.iload 1] [] [] [(0, .ref x0), (1, .int x1)] [.int x1] h3 [] (by decide +kernel) rfl trivial ?_
      exact eI hG 20 (by decide +kernel) rfl ⟨x1, rfl, ok_some (Q := P) hO⟩
    · have hO := ok_neg c2 hO
      refine rs hG [] [] rfl ?_
      exact j12 h hO
/-! GrainInn.end(I)I -/
noncomputable def K_end (h : Hp) (x1 : Int32) : Option (Int32 × Hp) := (T_cutTo h 3 x1).bind fun (r1, h2) => some (r1, h2)
set_option maxRecDepth 100000 in
set_option maxHeartbeats 4000000 in
theorem c_K_end {E : En} {d : Nat} (h : Hp) (x1 : Int32) {P : (Int32 × Hp) → Prop} (hO : Okk (K_end h x1) P) : Cn E (d + 2) z_K_end [.ref 1, .int x1] h (RI P) := by
  refine cn_of (on := 11) (d := d + 1) ⟨rfl, by decide +kernel, Nat.le_of_ble_eq_true rfl⟩ (fun G hG => ?_)
  unfold K_end at hO
  show G 0 [(0, .ref 1), (1, .int x1)] [] h
  refine rb hG 7 0 8 [.aload 0, .invokeinterface 1100 1, .invokeinterface 900 1, .iload 1] [] [] [(0, .ref 1), (1, .int x1)] [.int x1, .ref 3] h [kd 1 = 11, kd 2 = 9] (by decide +kernel) rfl ⟨kd_1, kd_2⟩ ?_
  refine rv hG z_T_cutTo 78 1 8 3 [.int x1] [] (by decide +kernel) mk_T_cutTo lk_11_78 rcv_3 rfl ⟨rfl, Nat.le_of_ble_eq_true rfl⟩ (c_T_cutTo (d := d) h 3 x1 (ok_bind hO)) ?_
  rintro _ h2 ⟨r1, rfl, hO⟩
  exact eI hG 11 (by decide +kernel) rfl ⟨r1, rfl, ok_some (Q := P) hO⟩
/-! GrainInnModel.in(III)Z -/
noncomputable def M_in_j15 (s0 : Int32) : Option Int32 := if s0 = 0 ∨ s0 = 1 then (some s0) else none
noncomputable def M_in_j14  : Option Int32 := (M_in_j15 (0 : Int32))
noncomputable def M_in (x0 : Int32) (x1 : Int32) (x2 : Int32) : Option Int32 := if x0 < x1 then ((M_in_j14 )) else (if x2 < x0 then ((M_in_j14 )) else ((M_in_j15 (1 : Int32))))
set_option maxRecDepth 100000 in
set_option maxHeartbeats 4000000 in
theorem c_M_in {E : En} {d : Nat} (h : Hp) (x0 : Int32) (x1 : Int32) (x2 : Int32) {P : Int32 → Prop} (hO : Okk (M_in x0 x1 x2) P) : Cn E (d + 1) z_M_in [.int x0, .int x1, .int x2] h (RIp h P) := by
  refine cn_of (on := 12) (d := d + 0) ⟨rfl, by decide +kernel, Nat.le_of_ble_eq_true rfl⟩ (fun G hG => ?_)
  unfold M_in at hO
  show G 0 [(0, .int x0), (1, .int x1), (2, .int x2)] [] h
  have j15 : ∀ (s0 : Int32), Okk (M_in_j15 s0) P → G 15 [] [.int s0] h := by
    intro s0 hO
    unfold M_in_j15 at hO
    obtain ⟨g1, hO⟩ := ok_if hO
    exact eZ hG 15 (by decide +kernel) rfl g1 ⟨s0, rfl, rfl, ok_some (Q := P) hO⟩
  have j14 : Okk (M_in_j14 ) P → G 14 [] [] h := by
    intro hO
    unfold M_in_j14 at hO
    refine rb hG 4 14 15 [.ldc_w 0] [0] [] [] [.int (0 : Int32)] h [] (by decide +kernel) rfl trivial ?_
    exact j15 (0 : Int32) hO
  refine rb hG 5 0 2 [.iload 0, .iload 1] [] [] [(0, .int x0), (1, .int x1), (2, .int x2)] [.int x1, .int x0] h [] (by decide +kernel) rfl trivial ?_
  refine rj hG .lt (12) 14 2 (by decide +kernel) (by decide) (fun c2 => ?_) (fun c2 => ?_)
  · have hO := ok_pos c2 hO
    refine rs hG [] [] rfl ?_
    exact j14 hO
  · have hO := ok_neg c2 hO
    refine rb hG 5 5 7 [.iload 0, .iload 2] [] [] [(0, .int x0), (1, .int x1), (2, .int x2)] [.int x2, .int x0] h [] (by decide +kernel) rfl trivial ?_
    refine rj hG .gt (7) 14 7 (by decide +kernel) (by decide) (fun c3 => ?_) (fun c3 => ?_)
    · have hO := ok_pos c3 hO
      refine rs hG [] [] rfl ?_
      exact j14 hO
    · have hO := ok_neg c3 hO
      refine rb hG 5 10 15 [.ldc_w 0] [1] [] [(0, .int x0), (1, .int x1), (2, .int x2)] [.int (1 : Int32)] h [] (by decide +kernel) rfl trivial ?_
      refine rs hG [] [] rfl ?_
      exact j15 (1 : Int32) hO
/-! GrainInnModel.end(I)I -/
noncomputable def M_end (h : Hp) (x1 : Int32) : Option (Int32 × Hp) := bnd (wr h 251 0 (0 : Int32)) fun h1 => (M_in x1 (0 : Int32) (h1.1 253 (Int32.toNatClampNeg (0 : Int32)))).bind fun r2 => if r2 = 0 then (some ((-1 : Int32), h1)) else (bnd (wr h1 253 (Int32.toNatClampNeg (0 : Int32)) x1) fun h4 => some (x1, h4))
set_option maxRecDepth 100000 in
set_option maxHeartbeats 4000000 in
theorem c_M_end {E : En} {d : Nat} (h : Hp) (x1 : Int32) {P : (Int32 × Hp) → Prop} (hO : Okk (M_end h x1) P) : Cn E (d + 2) z_M_end [.ref 251, .int x1] h (RI P) := by
  refine cn_of (on := 12) (d := d + 1) ⟨rfl, by decide +kernel, Nat.le_of_ble_eq_true rfl⟩ (fun G hG => ?_)
  unfold M_end at hO
  show G 0 [(0, .ref 251), (1, .int x1)] [] h
  refine rbx hG 6 0 5 [.aload 0, .ldc_w 0, .putfield 1200] [0] [] (wr h 251 0 (0 : Int32)) (fun h1 => [(0, .ref 251), (1, .int x1)]) (fun h1 => []) (fun h1 => h1) [kd 251 = 12] (by decide +kernel) rfl kd_251 hO (fun h1 hO => ?_)
  refine rb hG 9 5 13 [.iload 1, .ldc_w 0, .aload 0, .invokeinterface 1202 2, .ldc_w 0, .iaload] [0] [] [(0, .ref 251), (1, .int x1)] [.int (h1.1 253 (Int32.toNatClampNeg (0 : Int32))), .int (0 : Int32), .int x1] h1 [kd 251 = 12, kd 253 = 20 ∧ inb (0 : Int32) (ln 253)] (by decide +kernel) rfl ⟨kd_251, ⟨kd_253, (by decide +kernel)⟩⟩ ?_
  refine rt hG z_M_in 111 3 13 [.int x1, .int (0 : Int32), .int (h1.1 253 (Int32.toNatClampNeg (0 : Int32)))] [] (by decide +kernel) mk_M_in lk_12_111 rfl ⟨rfl, Nat.le_of_ble_eq_true rfl⟩ (c_M_in (d := d) h1 x1 (0 : Int32) (h1.1 253 (Int32.toNatClampNeg (0 : Int32))) (ok_bind hO)) ?_
  rintro _ _ ⟨r2, rfl, rfl, hO⟩
  refine riN hG (5) 21 16 (by decide +kernel) (by decide) (fun c3 => ?_) (fun c3 => ?_)
  · have hO := ok_pos c3 hO
    refine rb hG 4 19 20 [.ldc_w 0] [-1] [] [(0, .ref 251), (1, .int x1)] [.int (-1 : Int32)] h1 [] (by decide +kernel) rfl trivial ?_
    exact eI hG 20 (by decide +kernel) rfl ⟨(-1 : Int32), rfl, ok_some (Q := P) hO⟩
  · have hO := ok_neg c3 hO
    refine rbx hG 8 21 28 [.aload 0, .invokeinterface 1202 2, .ldc_w 0, .iload 1, .iastore] [0] [] (wr h1 253 (Int32.toNatClampNeg (0 : Int32)) x1) (fun h4 => [(0, .ref 251), (1, .int x1)]) (fun h4 => []) (fun h4 => h4) [kd 251 = 12, kd 253 = 20 ∧ inb (0 : Int32) (ln 253)] (by decide +kernel) rfl ⟨kd_251, ⟨kd_253, (by decide +kernel)⟩⟩ hO (fun h4 hO => ?_)
    refine rb hG 4 28 29 [.iload 1] [] [] [(0, .ref 251), (1, .int x1)] [.int x1] h4 [] (by decide +kernel) rfl trivial ?_
    exact eI hG 29 (by decide +kernel) rfl ⟨x1, rfl, ok_some (Q := P) hO⟩
/-! GrainInn.isOf(III)Z -/
noncomputable def K_isOf_j17 (s0 : Int32) : Option Int32 := if s0 = 0 ∨ s0 = 1 then (some s0) else none
noncomputable def K_isOf_j16  : Option Int32 := (K_isOf_j17 (0 : Int32))
noncomputable def K_isOf (x0 : Int32) (x1 : Int32) (x2 : Int32) : Option Int32 := if x0 < x1 then ((K_isOf_j16 )) else (if x2 ≤ (x0 - x1) then ((K_isOf_j16 )) else ((K_isOf_j17 (1 : Int32))))
set_option maxRecDepth 100000 in
set_option maxHeartbeats 4000000 in
theorem c_K_isOf {E : En} {d : Nat} (h : Hp) (x0 : Int32) (x1 : Int32) (x2 : Int32) {P : Int32 → Prop} (hO : Okk (K_isOf x0 x1 x2) P) : Cn E (d + 1) z_K_isOf [.int x0, .int x1, .int x2] h (RIp h P) := by
  refine cn_of (on := 11) (d := d + 0) ⟨rfl, by decide +kernel, Nat.le_of_ble_eq_true rfl⟩ (fun G hG => ?_)
  unfold K_isOf at hO
  show G 0 [(0, .int x0), (1, .int x1), (2, .int x2)] [] h
  have j17 : ∀ (s0 : Int32), Okk (K_isOf_j17 s0) P → G 17 [] [.int s0] h := by
    intro s0 hO
    unfold K_isOf_j17 at hO
    obtain ⟨g1, hO⟩ := ok_if hO
    exact eZ hG 17 (by decide +kernel) rfl g1 ⟨s0, rfl, rfl, ok_some (Q := P) hO⟩
  have j16 : Okk (K_isOf_j16 ) P → G 16 [] [] h := by
    intro hO
    unfold K_isOf_j16 at hO
    refine rb hG 4 16 17 [.ldc_w 0] [0] [] [] [.int (0 : Int32)] h [] (by decide +kernel) rfl trivial ?_
    exact j17 (0 : Int32) hO
  refine rb hG 5 0 2 [.iload 0, .iload 1] [] [] [(0, .int x0), (1, .int x1), (2, .int x2)] [.int x1, .int x0] h [] (by decide +kernel) rfl trivial ?_
  refine rj hG .lt (14) 16 2 (by decide +kernel) (by decide) (fun c2 => ?_) (fun c2 => ?_)
  · have hO := ok_pos c2 hO
    refine rs hG [] [] rfl ?_
    exact j16 hO
  · have hO := ok_neg c2 hO
    refine rb hG 7 5 9 [.iload 0, .iload 1, .isub, .iload 2] [] [] [(0, .int x0), (1, .int x1), (2, .int x2)] [.int x2, .int (x0 - x1)] h [] (by decide +kernel) rfl trivial ?_
    refine rj hG .ge (7) 16 9 (by decide +kernel) (by decide) (fun c3 => ?_) (fun c3 => ?_)
    · have hO := ok_pos c3 hO
      refine rs hG [] [] rfl ?_
      exact j16 hO
    · have hO := ok_neg c3 hO
      refine rb hG 5 12 17 [.ldc_w 0] [1] [] [(0, .int x0), (1, .int x1), (2, .int x2)] [.int (1 : Int32)] h [] (by decide +kernel) rfl trivial ?_
      refine rs hG [] [] rfl ?_
      exact j17 (1 : Int32) hO
/-! GrainInn.Told.countOf(I)I -/
noncomputable def D_countOf_j19 (x0 : Nat) (s0 : Int32) (h : Hp) : Option Int32 := some s0
noncomputable def D_countOf (h : Hp) (x0 : Nat) (x1 : Int32) : Option Int32 := if kd x0 = 9 then ((K_isOf x1 (0 : Int32) (4 : Int32)).bind fun r1 => if r1 = 0 then ((D_countOf_j19 x0 (0 : Int32) h)) else (if kd (x0 + 5) = 20 ∧ inb x1 (ln (x0 + 5)) then ((D_countOf_j19 x0 (h.1 (x0 + 5) (Int32.toNatClampNeg x1)) h)) else none)) else none
set_option maxRecDepth 100000 in
set_option maxHeartbeats 4000000 in
theorem c_D_countOf {E : En} {d : Nat} (h : Hp) (x0 : Nat) (x1 : Int32) {P : Int32 → Prop} (hO : Okk (D_countOf h x0 x1) P) : Cn E (d + 2) z_D_countOf [.ref x0, .int x1] h (RIp h P) := by
  refine cn_of (on := 9) (d := d + 1) ⟨rfl, by decide +kernel, Nat.le_of_ble_eq_true rfl⟩ (fun G hG => ?_)
  unfold D_countOf at hO
  show G 0 [(0, .ref x0), (1, .int x1)] [] h
  obtain ⟨g0, hO⟩ := ok_if hO
  have j19 : ∀ (s0 : Int32), Okk (D_countOf_j19 x0 s0 h) P → G 19 [] [.int s0] h := by
    intro s0 hO
    unfold D_countOf_j19 at hO
    exact eI hG 19 (by decide +kernel) rfl ⟨s0, rfl, rfl, ok_some (Q := P) hO⟩
  refine rb hG 6 0 3 [.iload 1, .ldc_w 0, .ldc_w 1] [0, 4] [] [(0, .ref x0), (1, .int x1)] [.int (4 : Int32), .int (0 : Int32), .int x1] h [] (by decide +kernel) rfl trivial ?_
  refine rt hG z_K_isOf 65 3 3 [.int x1, .int (0 : Int32), .int (4 : Int32)] [] (by decide +kernel) mk_K_isOf lk_9_65 rfl ⟨rfl, Nat.le_of_ble_eq_true rfl⟩ (c_K_isOf (d := d) h x1 (0 : Int32) (4 : Int32) (ok_bind hO)) ?_
  rintro _ _ ⟨r1, rfl, rfl, hO⟩
  refine ri hG .eq (12) 18 6 (by decide +kernel) (by decide) (fun c2 => ?_) (fun c2 => ?_)
  · have hO := ok_pos c2 hO
    refine rb hG 4 18 19 [.ldc_w 0] [0] [] [(0, .ref x0), (1, .int x1)] [.int (0 : Int32)] h [] (by decide +kernel) rfl trivial ?_
    refine rs hG [] [] rfl ?_
    exact j19 (0 : Int32) hO
  · have hO := ok_neg c2 hO
    obtain ⟨g3, hO⟩ := ok_if hO
    refine rb hG 8 9 19 [.aload 0, .invokeinterface 903 5, .iload 1, .iaload] [] [] [(0, .ref x0), (1, .int x1)] [.int (h.1 (x0 + 5) (Int32.toNatClampNeg x1))] h [kd x0 = 9, kd (x0 + 5) = 20 ∧ inb x1 (ln (x0 + 5))] (by decide +kernel) rfl ⟨g0, g3⟩ ?_
    refine rs hG [] [] rfl ?_
    exact j19 (h.1 (x0 + 5) (Int32.toNatClampNeg x1)) hO
/-! GrainInn.Told.has(II)Z -/
noncomputable def D_has_j23 (x0 : Nat) (s0 : Int32) (h : Hp) : Option Int32 := if s0 = 0 ∨ s0 = 1 then (some s0) else none
noncomputable def D_has_j22 (x0 : Nat) (h : Hp) : Option Int32 := (D_has_j23 x0 (0 : Int32) h)
noncomputable def D_has (h : Hp) (x0 : Nat) (x1 : Int32) (x2 : Int32) : Option Int32 := if kd x0 = 9 then (if x2 < 0 then ((D_has_j22 x0 h)) else (if (2 : Int32) ≤ x2 then ((D_has_j22 x0 h)) else ((D_countOf h x0 x1).bind fun r4 => if r4 ≤ x2 then ((D_has_j22 x0 h)) else ((D_has_j23 x0 (1 : Int32) h))))) else none
set_option maxRecDepth 100000 in
set_option maxHeartbeats 4000000 in
theorem c_D_has {E : En} {d : Nat} (h : Hp) (x0 : Nat) (x1 : Int32) (x2 : Int32) {P : Int32 → Prop} (hO : Okk (D_has h x0 x1 x2) P) : Cn E (d + 3) z_D_has [.ref x0, .int x1, .int x2] h (RIp h P) := by
  refine cn_of (on := 9) (d := d + 2) ⟨rfl, by decide +kernel, Nat.le_of_ble_eq_true rfl⟩ (fun G hG => ?_)
  unfold D_has at hO
  show G 0 [(0, .ref x0), (1, .int x1), (2, .int x2)] [] h
  obtain ⟨g0, hO⟩ := ok_if hO
  have j23 : ∀ (s0 : Int32), Okk (D_has_j23 x0 s0 h) P → G 23 [] [.int s0] h := by
    intro s0 hO
    unfold D_has_j23 at hO
    obtain ⟨g1, hO⟩ := ok_if hO
    exact eZ hG 23 (by decide +kernel) rfl g1 ⟨s0, rfl, rfl, ok_some (Q := P) hO⟩
  have j22 : Okk (D_has_j22 x0 h) P → G 22 [] [] h := by
    intro hO
    unfold D_has_j22 at hO
    refine rb hG 4 22 23 [.ldc_w 0] [0] [] [] [.int (0 : Int32)] h [] (by decide +kernel) rfl trivial ?_
    exact j23 (0 : Int32) hO
  refine rb hG 4 0 1 [.iload 2] [] [] [(0, .ref x0), (1, .int x1), (2, .int x2)] [.int x2] h [] (by decide +kernel) rfl trivial ?_
  refine ri hG .lt (21) 22 1 (by decide +kernel) (by decide) (fun c2 => ?_) (fun c2 => ?_)
  · have hO := ok_pos c2 hO
    refine rs hG [] [] rfl ?_
    exact j22 hO
  · have hO := ok_neg c2 hO
    refine rb hG 5 4 6 [.iload 2, .ldc_w 0] [2] [] [(0, .ref x0), (1, .int x1), (2, .int x2)] [.int (2 : Int32), .int x2] h [] (by decide +kernel) rfl trivial ?_
    refine rj hG .ge (16) 22 6 (by decide +kernel) (by decide) (fun c3 => ?_) (fun c3 => ?_)
    · have hO := ok_pos c3 hO
      refine rs hG [] [] rfl ?_
      exact j22 hO
    · have hO := ok_neg c3 hO
      refine rb hG 6 9 12 [.iload 2, .aload 0, .iload 1] [] [] [(0, .ref x0), (1, .int x1), (2, .int x2)] [.int x1, .ref x0, .int x2] h [] (by decide +kernel) rfl trivial ?_
      refine rv hG z_D_countOf 69 1 12 x0 [.int x1] [.int x2] (by decide +kernel) mk_D_countOf lk_9_69 (rcv_D g0) rfl ⟨rfl, Nat.le_of_ble_eq_true rfl⟩ (c_D_countOf (d := d) h x0 x1 (ok_bind hO)) ?_
      rintro _ _ ⟨r4, rfl, rfl, hO⟩
      refine rj hG .ge (7) 22 15 (by decide +kernel) (by decide) (fun c5 => ?_) (fun c5 => ?_)
      · have hO := ok_pos c5 hO
        refine rs hG [] [] rfl ?_
        exact j22 hO
      · have hO := ok_neg c5 hO
        refine rb hG 5 18 23 [.ldc_w 0] [1] [] [(0, .ref x0), (1, .int x1), (2, .int x2)] [.int (1 : Int32)] h [] (by decide +kernel) rfl trivial ?_
        refine rs hG [] [] rfl ?_
        exact j23 (1 : Int32) hO
/-! GrainInn.Told.hasPlace(II)Z -/
noncomputable def D_hasPlace_j28 (x0 : Nat) (s0 : Int32) (h : Hp) : Option Int32 := if s0 = 0 ∨ s0 = 1 then (some s0) else none
noncomputable def D_hasPlace_j27 (x0 : Nat) (h : Hp) : Option Int32 := (D_hasPlace_j28 x0 (0 : Int32) h)
noncomputable def D_hasPlace (h : Hp) (x0 : Nat) (x1 : Int32) (x2 : Int32) : Option Int32 := if kd x0 = 9 then (if x2 = (-1 : Int32) then ((K_isOf x1 (0 : Int32) (4 : Int32)).bind fun r3 => if r3 = 0 then ((D_hasPlace_j27 x0 h)) else ((D_countOf h x0 x1).bind fun r5 => if (2 : Int32) ≤ r5 then ((D_hasPlace_j27 x0 h)) else ((D_hasPlace_j28 x0 (1 : Int32) h)))) else ((D_has h x0 x1 x2).bind fun r7 => if r7 = 0 ∨ r7 = 1 then (some r7) else none)) else none
set_option maxRecDepth 100000 in
set_option maxHeartbeats 4000000 in
theorem c_D_hasPlace {E : En} {d : Nat} (h : Hp) (x0 : Nat) (x1 : Int32) (x2 : Int32) {P : Int32 → Prop} (hO : Okk (D_hasPlace h x0 x1 x2) P) : Cn E (d + 4) z_D_hasPlace [.ref x0, .int x1, .int x2] h (RIp h P) := by
  refine cn_of (on := 9) (d := d + 3) ⟨rfl, by decide +kernel, Nat.le_of_ble_eq_true rfl⟩ (fun G hG => ?_)
  unfold D_hasPlace at hO
  show G 0 [(0, .ref x0), (1, .int x1), (2, .int x2)] [] h
  obtain ⟨g0, hO⟩ := ok_if hO
  have j28 : ∀ (s0 : Int32), Okk (D_hasPlace_j28 x0 s0 h) P → G 28 [] [.int s0] h := by
    intro s0 hO
    unfold D_hasPlace_j28 at hO
    obtain ⟨g1, hO⟩ := ok_if hO
    exact eZ hG 28 (by decide +kernel) rfl g1 ⟨s0, rfl, rfl, ok_some (Q := P) hO⟩
  have j27 : Okk (D_hasPlace_j27 x0 h) P → G 27 [] [] h := by
    intro hO
    unfold D_hasPlace_j27 at hO
    refine rb hG 4 27 28 [.ldc_w 0] [0] [] [] [.int (0 : Int32)] h [] (by decide +kernel) rfl trivial ?_
    exact j28 (0 : Int32) hO
  refine rb hG 5 0 2 [.iload 2, .ldc_w 0] [-1] [] [(0, .ref x0), (1, .int x1), (2, .int x2)] [.int (-1 : Int32), .int x2] h [] (by decide +kernel) rfl trivial ?_
  refine rjN hG (27) 29 2 (by decide +kernel) (by decide) (fun c2 => ?_) (fun c2 => ?_)
  · have hO := ok_pos c2 hO
    refine rb hG 6 5 8 [.iload 1, .ldc_w 0, .ldc_w 1] [0, 4] [] [(0, .ref x0), (1, .int x1), (2, .int x2)] [.int (4 : Int32), .int (0 : Int32), .int x1] h [] (by decide +kernel) rfl trivial ?_
    refine rt hG z_K_isOf 65 3 8 [.int x1, .int (0 : Int32), .int (4 : Int32)] [] (by decide +kernel) mk_K_isOf lk_9_65 rfl ⟨rfl, Nat.le_of_ble_eq_true rfl⟩ (c_K_isOf (d := d + 2) h x1 (0 : Int32) (4 : Int32) (ok_bind hO)) ?_
    rintro _ _ ⟨r3, rfl, rfl, hO⟩
    refine ri hG .eq (16) 27 11 (by decide +kernel) (by decide) (fun c4 => ?_) (fun c4 => ?_)
    · have hO := ok_pos c4 hO
      refine rs hG [] [] rfl ?_
      exact j27 hO
    · have hO := ok_neg c4 hO
      refine rb hG 5 14 16 [.aload 0, .iload 1] [] [] [(0, .ref x0), (1, .int x1), (2, .int x2)] [.int x1, .ref x0] h [] (by decide +kernel) rfl trivial ?_
      refine rv hG z_D_countOf 69 1 16 x0 [.int x1] [] (by decide +kernel) mk_D_countOf lk_9_69 (rcv_D g0) rfl ⟨rfl, Nat.le_of_ble_eq_true rfl⟩ (c_D_countOf (d := d + 1) h x0 x1 (ok_bind hO)) ?_
      rintro _ _ ⟨r5, rfl, rfl, hO⟩
      refine rb hG 4 19 20 [.ldc_w 0] [2] [] [(0, .ref x0), (1, .int x1), (2, .int x2)] [.int (2 : Int32), .int r5] h [] (by decide +kernel) rfl trivial ?_
      refine rj hG .ge (7) 27 20 (by decide +kernel) (by decide) (fun c6 => ?_) (fun c6 => ?_)
      · have hO := ok_pos c6 hO
        refine rs hG [] [] rfl ?_
        exact j27 hO
      · have hO := ok_neg c6 hO
        refine rb hG 5 23 28 [.ldc_w 0] [1] [] [(0, .ref x0), (1, .int x1), (2, .int x2)] [.int (1 : Int32)] h [] (by decide +kernel) rfl trivial ?_
        refine rs hG [] [] rfl ?_
        exact j28 (1 : Int32) hO
  · have hO := ok_neg c2 hO
    refine rb hG 6 29 32 [.aload 0, .iload 1, .iload 2] [] [] [(0, .ref x0), (1, .int x1), (2, .int x2)] [.int x2, .int x1, .ref x0] h [] (by decide +kernel) rfl trivial ?_
    refine rv hG z_D_has 72 2 32 x0 [.int x1, .int x2] [] (by decide +kernel) mk_D_has lk_9_72 (rcv_D g0) rfl ⟨rfl, Nat.le_of_ble_eq_true rfl⟩ (c_D_has (d := d) h x0 x1 x2 (ok_bind hO)) ?_
    rintro _ _ ⟨r7, rfl, rfl, hO⟩
    obtain ⟨g8, hO⟩ := ok_if hO
    exact eZ hG 35 (by decide +kernel) rfl g8 ⟨r7, rfl, rfl, ok_some (Q := P) hO⟩
/-! java/util/Arrays.fill([II)V -/
noncomputable def J_fill_j20 (x0 : Nat) (h : Hp) : Option Hp := some h
noncomputable def J_fill_b5 (x0 : Nat) (x1 : Int32) (x2 : Int32) (x3 : Int32) (h : Hp) : Option ((Int32 × Hp) ⊕ Hp) := if x3 ≤ x2 then (((J_fill_j20 x0 h).map Sum.inr)) else (if kd x0 = 20 ∧ inb x2 (ln x0) then (bnd (wr h x0 (Int32.toNatClampNeg x2) x1) fun h3 => bnd ((x2 + (1 : Int32))) fun y4 => some (.inl (y4, h3))) else none)
noncomputable def J_fill_l5 (x0 : Nat) (x1 : Int32) (x2 : Int32) (x3 : Int32) (h : Hp) : Option Hp := lp (fun s : (Int32 × Hp) => J_fill_b5 x0 x1 s.1 x3 s.2) (x2, h)
theorem J_fill_l5_eq (x0 : Nat) (x1 : Int32) (x2 : Int32) (x3 : Int32) (h : Hp) : J_fill_l5 x0 x1 x2 x3 h = (J_fill_b5 x0 x1 x2 x3 h).bind (Sum.elim (fun q : (Int32 × Hp) => J_fill_l5 x0 x1 q.1 x3 q.2) some) := lp_eq _ _
noncomputable def J_fill (h : Hp) (x0 : Nat) (x1 : Int32) : Option Hp := if 20 ≤ kd x0 ∧ kd x0 < 27 then (bnd ((Int32.ofNat (ln x0))) fun y6 => (J_fill_l5 x0 x1 (0 : Int32) y6 h)) else none
set_option maxRecDepth 100000 in
set_option maxHeartbeats 4000000 in
theorem c_J_fill {E : En} {d : Nat} (h : Hp) (x0 : Nat) (x1 : Int32) {P : Hp → Prop} (hO : Okk (J_fill h x0 x1) P) : Cn E (d + 1) z_J_fill [.ref x0, .int x1] h (RV P) := by
  refine cn_of (on := 15) (d := d + 0) ⟨rfl, by decide +kernel, Nat.le_of_ble_eq_true rfl⟩ (fun G hG => ?_)
  unfold J_fill at hO
  show G 0 [(0, .ref x0), (1, .int x1)] [] h
  have j20 : ∀ (h : Hp), Okk (J_fill_j20 x0 h) P → G 20 [] [] h := by
    intro h hO
    unfold J_fill_j20 at hO
    exact eV hG 20 (by decide +kernel) rfl ⟨rfl, ok_some (Q := P) hO⟩
  have l5 : ∀ (x2 : Int32) (x3 : Int32) (h : Hp), Okk (J_fill_l5 x0 x1 x2 x3 h) P → G 5 [(0, .ref x0), (1, .int x1), (2, .int x2), (3, .int x3)] [] h := by
    intro x2 x3 h hO
    obtain ⟨H5, eH5⟩ : ∃ q : (Int32 × Hp) → Prop, q = fun s => G 5 [(0, .ref x0), (1, .int x1), (2, .int (s.1)), (3, .int x3)] [] (s.2) := ⟨_, rfl⟩
    have w9 : H5 (x2, h) := by
      refine lp_wp (f := fun s : (Int32 × Hp) => J_fill_b5 x0 x1 s.1 x3 s.2) (H := H5) (Q := P) ?_ (x2, h) hO
      rintro ⟨x2, h⟩ hO
      rw [eH5]
      show G 5 [(0, .ref x0), (1, .int x1), (2, .int x2), (3, .int x3)] [] h
      have k5 : ∀ s : (Int32 × Hp), H5 s → G 5 [(0, .ref x0), (1, .int x1), (2, .int (s.1)), (3, .int x3)] [] (s.2) := fun s q => by rw [eH5] at q; exact q
      replace hO : Okk (J_fill_b5 x0 x1 x2 x3 h) (Sum.elim H5 P) := hO
      clear eH5
      unfold J_fill_b5 at hO
      refine rb hG 5 5 7 [.iload 2, .iload 3] [] [] [(0, .ref x0), (1, .int x1), (2, .int x2), (3, .int x3)] [.int x3, .int x2] h [] (by decide +kernel) rfl trivial ?_
      refine rj hG .ge (13) 20 7 (by decide +kernel) (by decide) (fun c1 => ?_) (fun c1 => ?_)
      · have hO := ok_pos c1 hO
        refine rs hG [] [] rfl ?_
        exact j20 h (ok_inr hO)
      · have hO := ok_neg c1 hO
        obtain ⟨g2, hO⟩ := ok_if hO
        refine rbx hG 7 10 14 [.aload 0, .iload 2, .iload 1, .iastore] [] [] (wr h x0 (Int32.toNatClampNeg x2) x1) (fun h3 => [(0, .ref x0), (1, .int x1), (2, .int x2), (3, .int x3)]) (fun h3 => []) (fun h3 => h3) [kd x0 = 20 ∧ inb x2 (ln x0)] (by decide +kernel) rfl g2 hO (fun h3 hO => ?_)
        refine rbx hG 4 14 17 [.iinc 2 0] [1] [] ((x2 + (1 : Int32))) (fun y4 => [(2, .int y4), (0, .ref x0), (1, .int x1), (3, .int x3)]) (fun y4 => []) (fun y4 => h3) [] (by decide +kernel) rfl trivial hO (fun y4 hO => ?_)
        refine rb hG 4 17 5 [] [] [] [(2, .int y4), (0, .ref x0), (1, .int x1), (3, .int x3)] [] h3 [] (by decide +kernel) rfl trivial ?_
        refine rs hG [(0, .ref x0), (1, .int x1), (2, .int y4), (3, .int x3)] [1, 2, 0, 3] rfl ?_
        exact k5 (y4, h3) (ok_some (Q := (Sum.elim H5 P)) hO)
    rw [eH5] at w9
    exact w9
  obtain ⟨g5, hO⟩ := ok_if hO
  refine rbx hG 8 0 5 [.ldc_w 0, .istore 2, .aload 0, .arraylength, .istore 3] [0] [] ((Int32.ofNat (ln x0))) (fun y6 => [(3, .int y6), (2, .int (0 : Int32)), (0, .ref x0), (1, .int x1)]) (fun y6 => []) (fun y6 => h) [20 ≤ kd x0 ∧ kd x0 < 27] (by decide +kernel) rfl g5 hO (fun y6 hO => ?_)
  refine rs hG [(0, .ref x0), (1, .int x1), (2, .int (0 : Int32)), (3, .int y6)] [2, 3, 1, 0] rfl ?_
  exact l5 (0 : Int32) y6 h hO
/-! GrainInn.House.clear()V -/
noncomputable def H_clear (h : Hp) (x0 : Nat) : Option Hp := if kd x0 = 1 then (bnd (wr h x0 5 (0 : Int32)) fun h1 => bnd (wr h1 x0 6 (4 : Int32)) fun h2 => (J_fill h2 (x0 + 4) (0 : Int32)).bind fun h3 => (J_fill h3 (x0 + 5) (0 : Int32)).bind fun h4 => some h4) else none
set_option maxRecDepth 100000 in
set_option maxHeartbeats 4000000 in
theorem c_H_clear {E : En} {d : Nat} (h : Hp) (x0 : Nat) {P : Hp → Prop} (hO : Okk (H_clear h x0) P) : Cn E (d + 2) z_H_clear [.ref x0] h (RV P) := by
  refine cn_of (on := 1) (d := d + 1) ⟨rfl, by decide +kernel, Nat.le_of_ble_eq_true rfl⟩ (fun G hG => ?_)
  unfold H_clear at hO
  show G 0 [(0, .ref x0)] [] h
  obtain ⟨g0, hO⟩ := ok_if hO
  refine rbx hG 6 0 5 [.aload 0, .ldc_w 0, .putfield 105] [0] [] (wr h x0 5 (0 : Int32)) (fun h1 => [(0, .ref x0)]) (fun h1 => []) (fun h1 => h1) [kd x0 = 1] (by decide +kernel) rfl g0 hO (fun h1 hO => ?_)
  refine rbx hG 6 5 10 [.aload 0, .ldc_w 0, .putfield 106] [4] [] (wr h1 x0 6 (4 : Int32)) (fun h2 => [(0, .ref x0)]) (fun h2 => []) (fun h2 => h2) [kd x0 = 1] (by decide +kernel) rfl g0 hO (fun h2 hO => ?_)
  refine rb hG 6 10 15 [.aload 0, .invokeinterface 103 4, .ldc_w 0] [0] [] [(0, .ref x0)] [.int (0 : Int32), .ref (x0 + 4)] h2 [kd x0 = 1] (by decide +kernel) rfl g0 ?_
  refine rt hG z_J_fill 34 2 15 [.ref (x0 + 4), .int (0 : Int32)] [] (by decide +kernel) mk_J_fill lk_1_34 rfl ⟨rfl, Nat.le_of_ble_eq_true rfl⟩ (c_J_fill (d := d) h2 (x0 + 4) (0 : Int32) (ok_bind hO)) ?_
  rintro _ h3 ⟨rfl, hO⟩
  refine rb hG 6 18 23 [.aload 0, .invokeinterface 104 5, .ldc_w 0] [0] [] [(0, .ref x0)] [.int (0 : Int32), .ref (x0 + 5)] h3 [kd x0 = 1] (by decide +kernel) rfl g0 ?_
  refine rt hG z_J_fill 34 2 23 [.ref (x0 + 5), .int (0 : Int32)] [] (by decide +kernel) mk_J_fill lk_1_34 rfl ⟨rfl, Nat.le_of_ble_eq_true rfl⟩ (c_J_fill (d := d) h3 (x0 + 5) (0 : Int32) (ok_bind hO)) ?_
  rintro _ h4 ⟨rfl, hO⟩
  exact eV hG 26 (by decide +kernel) rfl ⟨rfl, ok_some (Q := P) hO⟩
/-! GrainInn.Lines.clear()V -/
noncomputable def L_clear (h : Hp) (x0 : Nat) : Option Hp := if kd x0 = 2 then (bnd (wr h x0 3 (0 : Int32)) fun h1 => some h1) else none
set_option maxRecDepth 100000 in
set_option maxHeartbeats 4000000 in
theorem c_L_clear {E : En} {d : Nat} (h : Hp) (x0 : Nat) {P : Hp → Prop} (hO : Okk (L_clear h x0) P) : Cn E (d + 1) z_L_clear [.ref x0] h (RV P) := by
  refine cn_of (on := 2) (d := d + 0) ⟨rfl, by decide +kernel, Nat.le_of_ble_eq_true rfl⟩ (fun G hG => ?_)
  unfold L_clear at hO
  show G 0 [(0, .ref x0)] [] h
  obtain ⟨g0, hO⟩ := ok_if hO
  refine rbx hG 6 0 5 [.aload 0, .ldc_w 0, .putfield 203] [0] [] (wr h x0 3 (0 : Int32)) (fun h1 => [(0, .ref x0)]) (fun h1 => []) (fun h1 => h1) [kd x0 = 2] (by decide +kernel) rfl g0 hO (fun h1 hO => ?_)
  exact eV hG 5 (by decide +kernel) rfl ⟨rfl, ok_some (Q := P) hO⟩
/-! GrainInn.Tape.byteAt(I)I -/
noncomputable def T_byteAt_j31 (x0 : Nat) (s0 : Int32) (h : Hp) : Option Int32 := some s0
noncomputable def T_byteAt_j30 (x0 : Nat) (h : Hp) : Option Int32 := (T_byteAt_j31 x0 (-1 : Int32) h)
noncomputable def T_byteAt (h : Hp) (x0 : Nat) (x1 : Int32) : Option Int32 := if kd x0 = 8 then (if x1 < 0 then ((T_byteAt_j30 x0 h)) else (if (h.1 x0 1) ≤ x1 then ((T_byteAt_j30 x0 h)) else (if 20 ≤ kd (x0 + 1) ∧ kd (x0 + 1) < 27 then (if (Int32.ofNat (ln (x0 + 1))) ≤ x1 then ((T_byteAt_j30 x0 h)) else (if kd (x0 + 1) = 20 ∧ inb x1 (ln (x0 + 1)) then ((T_byteAt_j31 x0 (h.1 (x0 + 1) (Int32.toNatClampNeg x1)) h)) else none)) else none))) else none
set_option maxRecDepth 100000 in
set_option maxHeartbeats 4000000 in
theorem c_T_byteAt {E : En} {d : Nat} (h : Hp) (x0 : Nat) (x1 : Int32) {P : Int32 → Prop} (hO : Okk (T_byteAt h x0 x1) P) : Cn E (d + 1) z_T_byteAt [.ref x0, .int x1] h (RIp h P) := by
  refine cn_of (on := 8) (d := d + 0) ⟨rfl, by decide +kernel, Nat.le_of_ble_eq_true rfl⟩ (fun G hG => ?_)
  unfold T_byteAt at hO
  show G 0 [(0, .ref x0), (1, .int x1)] [] h
  obtain ⟨g0, hO⟩ := ok_if hO
  have j31 : ∀ (s0 : Int32), Okk (T_byteAt_j31 x0 s0 h) P → G 31 [] [.int s0] h := by
    intro s0 hO
    unfold T_byteAt_j31 at hO
    exact eI hG 31 (by decide +kernel) rfl ⟨s0, rfl, rfl, ok_some (Q := P) hO⟩
  have j30 : Okk (T_byteAt_j30 x0 h) P → G 30 [] [] h := by
    intro hO
    unfold T_byteAt_j30 at hO
    refine rb hG 4 30 31 [.ldc_w 0] [-1] [] [] [.int (-1 : Int32)] h [] (by decide +kernel) rfl trivial ?_
    exact j31 (-1 : Int32) hO
  refine rb hG 4 0 1 [.iload 1] [] [] [(0, .ref x0), (1, .int x1)] [.int x1] h [] (by decide +kernel) rfl trivial ?_
  refine ri hG .lt (29) 30 1 (by decide +kernel) (by decide) (fun c1 => ?_) (fun c1 => ?_)
  · have hO := ok_pos c1 hO
    refine rs hG [] [] rfl ?_
    exact j30 hO
  · have hO := ok_neg c1 hO
    refine rb hG 6 4 9 [.iload 1, .aload 0, .getfield 801] [] [] [(0, .ref x0), (1, .int x1)] [.int (h.1 x0 1), .int x1] h [kd x0 = 8] (by decide +kernel) rfl g0 ?_
    refine rj hG .ge (21) 30 9 (by decide +kernel) (by decide) (fun c2 => ?_) (fun c2 => ?_)
    · have hO := ok_pos c2 hO
      refine rs hG [] [] rfl ?_
      exact j30 hO
    · have hO := ok_neg c2 hO
      obtain ⟨g3, hO⟩ := ok_if hO
      refine rb hG 7 12 18 [.iload 1, .aload 0, .invokeinterface 800 1, .arraylength] [] [] [(0, .ref x0), (1, .int x1)] [.int (Int32.ofNat (ln (x0 + 1))), .int x1] h [kd x0 = 8, 20 ≤ kd (x0 + 1) ∧ kd (x0 + 1) < 27] (by decide +kernel) rfl ⟨g0, g3⟩ ?_
      refine rj hG .ge (12) 30 18 (by decide +kernel) (by decide) (fun c4 => ?_) (fun c4 => ?_)
      · have hO := ok_pos c4 hO
        refine rs hG [] [] rfl ?_
        exact j30 hO
      · have hO := ok_neg c4 hO
        obtain ⟨g5, hO⟩ := ok_if hO
        refine rb hG 8 21 31 [.aload 0, .invokeinterface 800 1, .iload 1, .iaload] [] [] [(0, .ref x0), (1, .int x1)] [.int (h.1 (x0 + 1) (Int32.toNatClampNeg x1))] h [kd x0 = 8, kd (x0 + 1) = 20 ∧ inb x1 (ln (x0 + 1))] (by decide +kernel) rfl ⟨g0, g5⟩ ?_
        refine rs hG [] [] rfl ?_
        exact j31 (h.1 (x0 + 1) (Int32.toNatClampNeg x1)) hO
/-! GrainInn.Reader.isBlank(I)Z -/
noncomputable def R_isBlank_j17 (s0 : Int32) : Option Int32 := if s0 = 0 ∨ s0 = 1 then (some s0) else none
noncomputable def R_isBlank_j12  : Option Int32 := (R_isBlank_j17 (1 : Int32))
noncomputable def R_isBlank (x0 : Int32) : Option Int32 := if x0 = (10 : Int32) then ((R_isBlank_j12 )) else (if x0 = (32 : Int32) then ((R_isBlank_j12 )) else ((R_isBlank_j17 (0 : Int32))))
set_option maxRecDepth 100000 in
set_option maxHeartbeats 4000000 in
theorem c_R_isBlank {E : En} {d : Nat} (h : Hp) (x0 : Int32) {P : Int32 → Prop} (hO : Okk (R_isBlank x0) P) : Cn E (d + 1) z_R_isBlank [.int x0] h (RIp h P) := by
  refine cn_of (on := 4) (d := d + 0) ⟨rfl, by decide +kernel, Nat.le_of_ble_eq_true rfl⟩ (fun G hG => ?_)
  unfold R_isBlank at hO
  show G 0 [(0, .int x0)] [] h
  have j17 : ∀ (s0 : Int32), Okk (R_isBlank_j17 s0) P → G 17 [] [.int s0] h := by
    intro s0 hO
    unfold R_isBlank_j17 at hO
    obtain ⟨g1, hO⟩ := ok_if hO
    exact eZ hG 17 (by decide +kernel) rfl g1 ⟨s0, rfl, rfl, ok_some (Q := P) hO⟩
  have j12 : Okk (R_isBlank_j12 ) P → G 12 [] [] h := by
    intro hO
    unfold R_isBlank_j12 at hO
    refine rb hG 5 12 17 [.ldc_w 0] [1] [] [] [.int (1 : Int32)] h [] (by decide +kernel) rfl trivial ?_
    exact j17 (1 : Int32) hO
  refine rb hG 5 0 3 [.iload 0, .ldc_w 0] [10] [] [(0, .int x0)] [.int (10 : Int32), .int x0] h [] (by decide +kernel) rfl trivial ?_
  refine rj hG .eq (9) 12 3 (by decide +kernel) (by decide) (fun c2 => ?_) (fun c2 => ?_)
  · have hO := ok_pos c2 hO
    refine rs hG [] [] rfl ?_
    exact j12 hO
  · have hO := ok_neg c2 hO
    refine rb hG 5 6 9 [.iload 0, .ldc_w 0] [32] [] [(0, .int x0)] [.int (32 : Int32), .int x0] h [] (by decide +kernel) rfl trivial ?_
    refine rjN hG (7) 16 9 (by decide +kernel) (by decide) (fun c3 => ?_) (fun c3 => ?_)
    · have hO := ok_pos c3 hO
      refine rs hG [] [] rfl ?_
      exact j12 hO
    · have hO := ok_neg c3 hO
      refine rb hG 4 16 17 [.ldc_w 0] [0] [] [(0, .int x0)] [.int (0 : Int32)] h [] (by decide +kernel) rfl trivial ?_
      refine rs hG [] [] rfl ?_
      exact j17 (0 : Int32) hO
/-! GrainInn.Reader.isLetter(I)Z -/
noncomputable def R_isLetter_j17 (s0 : Int32) : Option Int32 := if s0 = 0 ∨ s0 = 1 then (some s0) else none
noncomputable def R_isLetter_j16  : Option Int32 := (R_isLetter_j17 (0 : Int32))
noncomputable def R_isLetter (x0 : Int32) : Option Int32 := if x0 < (97 : Int32) then ((R_isLetter_j16 )) else (if (122 : Int32) < x0 then ((R_isLetter_j16 )) else ((R_isLetter_j17 (1 : Int32))))
set_option maxRecDepth 100000 in
set_option maxHeartbeats 4000000 in
theorem c_R_isLetter {E : En} {d : Nat} (h : Hp) (x0 : Int32) {P : Int32 → Prop} (hO : Okk (R_isLetter x0) P) : Cn E (d + 1) z_R_isLetter [.int x0] h (RIp h P) := by
  refine cn_of (on := 4) (d := d + 0) ⟨rfl, by decide +kernel, Nat.le_of_ble_eq_true rfl⟩ (fun G hG => ?_)
  unfold R_isLetter at hO
  show G 0 [(0, .int x0)] [] h
  have j17 : ∀ (s0 : Int32), Okk (R_isLetter_j17 s0) P → G 17 [] [.int s0] h := by
    intro s0 hO
    unfold R_isLetter_j17 at hO
    obtain ⟨g1, hO⟩ := ok_if hO
    exact eZ hG 17 (by decide +kernel) rfl g1 ⟨s0, rfl, rfl, ok_some (Q := P) hO⟩
  have j16 : Okk (R_isLetter_j16 ) P → G 16 [] [] h := by
    intro hO
    unfold R_isLetter_j16 at hO
    refine rb hG 4 16 17 [.ldc_w 0] [0] [] [] [.int (0 : Int32)] h [] (by decide +kernel) rfl trivial ?_
    exact j17 (0 : Int32) hO
  refine rb hG 5 0 3 [.iload 0, .ldc_w 0] [97] [] [(0, .int x0)] [.int (97 : Int32), .int x0] h [] (by decide +kernel) rfl trivial ?_
  refine rj hG .lt (13) 16 3 (by decide +kernel) (by decide) (fun c2 => ?_) (fun c2 => ?_)
  · have hO := ok_pos c2 hO
    refine rs hG [] [] rfl ?_
    exact j16 hO
  · have hO := ok_neg c2 hO
    refine rb hG 5 6 9 [.iload 0, .ldc_w 0] [122] [] [(0, .int x0)] [.int (122 : Int32), .int x0] h [] (by decide +kernel) rfl trivial ?_
    refine rj hG .gt (7) 16 9 (by decide +kernel) (by decide) (fun c3 => ?_) (fun c3 => ?_)
    · have hO := ok_pos c3 hO
      refine rs hG [] [] rfl ?_
      exact j16 hO
    · have hO := ok_neg c3 hO
      refine rb hG 5 12 17 [.ldc_w 0] [1] [] [(0, .int x0)] [.int (1 : Int32)] h [] (by decide +kernel) rfl trivial ?_
      refine rs hG [] [] rfl ?_
      exact j17 (1 : Int32) hO
/-! GrainInn.Reader.isDigit(I)Z -/
noncomputable def R_isDigit_j17 (s0 : Int32) : Option Int32 := if s0 = 0 ∨ s0 = 1 then (some s0) else none
noncomputable def R_isDigit_j16  : Option Int32 := (R_isDigit_j17 (0 : Int32))
noncomputable def R_isDigit (x0 : Int32) : Option Int32 := if x0 < (48 : Int32) then ((R_isDigit_j16 )) else (if (57 : Int32) < x0 then ((R_isDigit_j16 )) else ((R_isDigit_j17 (1 : Int32))))
set_option maxRecDepth 100000 in
set_option maxHeartbeats 4000000 in
theorem c_R_isDigit {E : En} {d : Nat} (h : Hp) (x0 : Int32) {P : Int32 → Prop} (hO : Okk (R_isDigit x0) P) : Cn E (d + 1) z_R_isDigit [.int x0] h (RIp h P) := by
  refine cn_of (on := 4) (d := d + 0) ⟨rfl, by decide +kernel, Nat.le_of_ble_eq_true rfl⟩ (fun G hG => ?_)
  unfold R_isDigit at hO
  show G 0 [(0, .int x0)] [] h
  have j17 : ∀ (s0 : Int32), Okk (R_isDigit_j17 s0) P → G 17 [] [.int s0] h := by
    intro s0 hO
    unfold R_isDigit_j17 at hO
    obtain ⟨g1, hO⟩ := ok_if hO
    exact eZ hG 17 (by decide +kernel) rfl g1 ⟨s0, rfl, rfl, ok_some (Q := P) hO⟩
  have j16 : Okk (R_isDigit_j16 ) P → G 16 [] [] h := by
    intro hO
    unfold R_isDigit_j16 at hO
    refine rb hG 4 16 17 [.ldc_w 0] [0] [] [] [.int (0 : Int32)] h [] (by decide +kernel) rfl trivial ?_
    exact j17 (0 : Int32) hO
  refine rb hG 5 0 3 [.iload 0, .ldc_w 0] [48] [] [(0, .int x0)] [.int (48 : Int32), .int x0] h [] (by decide +kernel) rfl trivial ?_
  refine rj hG .lt (13) 16 3 (by decide +kernel) (by decide) (fun c2 => ?_) (fun c2 => ?_)
  · have hO := ok_pos c2 hO
    refine rs hG [] [] rfl ?_
    exact j16 hO
  · have hO := ok_neg c2 hO
    refine rb hG 5 6 9 [.iload 0, .ldc_w 0] [57] [] [(0, .int x0)] [.int (57 : Int32), .int x0] h [] (by decide +kernel) rfl trivial ?_
    refine rj hG .gt (7) 16 9 (by decide +kernel) (by decide) (fun c3 => ?_) (fun c3 => ?_)
    · have hO := ok_pos c3 hO
      refine rs hG [] [] rfl ?_
      exact j16 hO
    · have hO := ok_neg c3 hO
      refine rb hG 5 12 17 [.ldc_w 0] [1] [] [(0, .int x0)] [.int (1 : Int32)] h [] (by decide +kernel) rfl trivial ?_
      refine rs hG [] [] rfl ?_
      exact j17 (1 : Int32) hO
/-! GrainInn.Reader.step()V -/
noncomputable def R_step_j251 (h : Hp) : Option Hp := some h
noncomputable def R_step_j238 (s1 : Int32) (h : Hp) : Option Hp := bnd (wr h 46 5 s1) fun h1 => bnd (wr h1 46 7 ((h1.1 46 7) + (1 : Int32))) fun h2 => (R_step_j251 h2)
noncomputable def R_step_j220 (s1 : Int32) (h : Hp) : Option Hp := bnd (wr h 46 5 s1) fun h3 => (R_step_j251 h3)
noncomputable def R_step_j201 (h : Hp) : Option Hp := if (2 : Int32) < ((h.1 46 7) - (h.1 46 6)) then ((R_step_j220 (4 : Int32) h)) else ((R_step_j220 (2 : Int32) h))
noncomputable def R_step_b157 (h : Hp) : Option ((Hp) ⊕ Hp) := if (h.1 3 1) ≤ (h.1 46 7) then (((R_step_j201 h).map Sum.inr)) else ((T_byteAt h 3 (h.1 46 7)).bind fun r6 => (R_isDigit r6).bind fun r7 => if r7 = 0 then (((R_step_j201 h).map Sum.inr)) else (bnd (wr h 46 7 ((h.1 46 7) + (1 : Int32))) fun h9 => some (.inl h9)))
noncomputable def R_step_l157 (h : Hp) : Option Hp := lp (fun s : (Hp) => R_step_b157 s) (h)
theorem R_step_l157_eq (h : Hp) : R_step_l157 h = (R_step_b157 h).bind (Sum.elim (fun q : (Hp) => R_step_l157 q) some) := lp_eq _ _
noncomputable def R_step_b106 (h : Hp) : Option ((Hp) ⊕ Hp) := if (h.1 3 1) ≤ (h.1 46 7) then (((R_step_j251 h).map Sum.inr)) else ((T_byteAt h 3 (h.1 46 7)).bind fun r11 => (R_isLetter r11).bind fun r12 => if r12 = 0 then (((R_step_j251 h).map Sum.inr)) else (bnd (wr h 46 7 ((h.1 46 7) + (1 : Int32))) fun h14 => some (.inl h14)))
noncomputable def R_step_l106 (h : Hp) : Option Hp := lp (fun s : (Hp) => R_step_b106 s) (h)
theorem R_step_l106_eq (h : Hp) : R_step_l106 h = (R_step_b106 h).bind (Sum.elim (fun q : (Hp) => R_step_l106 q) some) := lp_eq _ _
noncomputable def R_step_j52 (h : Hp) : Option Hp := (T_byteAt h 3 (h.1 46 6)).bind fun r15 => bnd (wr h 46 7 (h.1 46 6)) fun h16 => if (h16.1 46 6) < (h16.1 3 1) then ((R_isLetter r15).bind fun r18 => if r18 = 0 then ((R_isDigit r15).bind fun r20 => if r20 = 0 then (if r15 = (59 : Int32) then ((R_step_j238 (3 : Int32) h16)) else ((R_step_j238 (4 : Int32) h16))) else ((R_step_l157 h16))) else (bnd (wr h16 46 5 (1 : Int32)) fun h23 => (R_step_l106 h23))) else (bnd (wr h16 46 5 (0 : Int32)) fun h24 => (R_step_j251 h24))
noncomputable def R_step_b8 (h : Hp) : Option ((Hp) ⊕ Hp) := if (h.1 3 1) ≤ (h.1 46 6) then (((R_step_j52 h).map Sum.inr)) else ((T_byteAt h 3 (h.1 46 6)).bind fun r26 => (R_isBlank r26).bind fun r27 => if r27 = 0 then (((R_step_j52 h).map Sum.inr)) else (bnd (wr h 46 6 ((h.1 46 6) + (1 : Int32))) fun h29 => some (.inl h29)))
noncomputable def R_step_l8 (h : Hp) : Option Hp := lp (fun s : (Hp) => R_step_b8 s) (h)
theorem R_step_l8_eq (h : Hp) : R_step_l8 h = (R_step_b8 h).bind (Sum.elim (fun q : (Hp) => R_step_l8 q) some) := lp_eq _ _
noncomputable def R_step (h : Hp) : Option Hp := bnd (wr h 46 6 (h.1 46 7)) fun h30 => (R_step_l8 h30)
set_option maxRecDepth 100000 in
set_option maxHeartbeats 4000000 in
theorem c_R_step {E : En} {d : Nat} (h : Hp) {P : Hp → Prop} (hO : Okk (R_step h) P) : Cn E (d + 2) z_R_step [.ref 46] h (RV P) := by
  refine cn_of (on := 4) (d := d + 1) ⟨rfl, by decide +kernel, Nat.le_of_ble_eq_true rfl⟩ (fun G hG => ?_)
  unfold R_step at hO
  show G 0 [(0, .ref 46)] [] h
  have j251 : ∀ (h : Hp), Okk (R_step_j251 h) P → G 251 [] [] h := by
    intro h hO
    unfold R_step_j251 at hO
    exact eV hG 251 (by decide +kernel) rfl ⟨rfl, ok_some (Q := P) hO⟩
  have j238 : ∀ (s1 : Int32) (h : Hp), Okk (R_step_j238 s1 h) P → G 238 [(0, .ref 46)] [.int s1, .ref 46] h := by
    intro s1 h hO
    unfold R_step_j238 at hO
    refine rbx hG 4 238 241 [.putfield 405] [] [] (wr h 46 5 s1) (fun h1 => [(0, .ref 46)]) (fun h1 => []) (fun h1 => h1) [kd 46 = 4] (by decide +kernel) rfl kd_46 hO (fun h1 hO => ?_)
    refine rbx hG 9 241 251 [.aload 0, .dup, .getfield 407, .ldc_w 0, .iadd, .putfield 407] [1] [] (wr h1 46 7 ((h1.1 46 7) + (1 : Int32))) (fun h2 => [(0, .ref 46)]) (fun h2 => []) (fun h2 => h2) [kd 46 = 4, kd 46 = 4] (by decide +kernel) rfl ⟨kd_46, kd_46⟩ hO (fun h2 hO => ?_)
    refine rs hG [] [] rfl ?_
    exact j251 h2 hO
  have j220 : ∀ (s1 : Int32) (h : Hp), Okk (R_step_j220 s1 h) P → G 220 [] [.int s1, .ref 46] h := by
    intro s1 h hO
    unfold R_step_j220 at hO
    refine rbx hG 4 220 223 [.putfield 405] [] [] (wr h 46 5 s1) (fun h3 => []) (fun h3 => []) (fun h3 => h3) [kd 46 = 4] (by decide +kernel) rfl kd_46 hO (fun h3 hO => ?_)
    refine rb hG 4 223 251 [] [] [] [] [] h3 [] (by decide +kernel) rfl trivial ?_
    exact j251 h3 hO
  have j201 : ∀ (h : Hp), Okk (R_step_j201 h) P → G 201 [(0, .ref 46)] [] h := by
    intro h hO
    unfold R_step_j201 at hO
    refine rb hG 10 201 212 [.aload 0, .aload 0, .getfield 407, .aload 0, .getfield 406, .isub, .ldc_w 0] [2] [] [(0, .ref 46)] [.int (2 : Int32), .int ((h.1 46 7) - (h.1 46 6)), .ref 46] h [kd 46 = 4, kd 46 = 4] (by decide +kernel) rfl ⟨kd_46, kd_46⟩ ?_
    refine rj hG .gt (7) 219 212 (by decide +kernel) (by decide) (fun c4 => ?_) (fun c4 => ?_)
    · have hO := ok_pos c4 hO
      refine rb hG 4 219 220 [.ldc_w 0] [4] [] [(0, .ref 46)] [.int (4 : Int32), .ref 46] h [] (by decide +kernel) rfl trivial ?_
      refine rs hG [] [] rfl ?_
      exact j220 (4 : Int32) h hO
    · have hO := ok_neg c4 hO
      refine rb hG 5 215 220 [.ldc_w 0] [2] [] [(0, .ref 46)] [.int (2 : Int32), .ref 46] h [] (by decide +kernel) rfl trivial ?_
      refine rs hG [] [] rfl ?_
      exact j220 (2 : Int32) h hO
  have l157 : ∀ (h : Hp), Okk (R_step_l157 h) P → G 157 [(0, .ref 46)] [] h := by
    intro h hO
    obtain ⟨H157, eH157⟩ : ∃ q : (Hp) → Prop, q = fun s => G 157 [(0, .ref 46)] [] (s) := ⟨_, rfl⟩
    have w9 : H157 (h) := by
      refine lp_wp (f := fun s : (Hp) => R_step_b157 s) (H := H157) (Q := P) ?_ (h) hO
      intro h hO
      rw [eH157]
      show G 157 [(0, .ref 46)] [] h
      have k157 : ∀ s : (Hp), H157 s → G 157 [(0, .ref 46)] [] (s) := fun s q => by rw [eH157] at q; exact q
      replace hO : Okk (R_step_b157 h) (Sum.elim H157 P) := hO
      clear eH157
      unfold R_step_b157 at hO
      refine rb hG 8 157 168 [.aload 0, .getfield 407, .aload 0, .invokeinterface 402 1003, .getfield 801] [] [] [(0, .ref 46)] [.int (h.1 3 1), .int (h.1 46 7)] h [kd 46 = 4, kd 46 = 4, kd 3 = 8] (by decide +kernel) rfl ⟨kd_46, kd_46, kd_3⟩ ?_
      refine rj hG .ge (33) 201 168 (by decide +kernel) (by decide) (fun c5 => ?_) (fun c5 => ?_)
      · have hO := ok_pos c5 hO
        exact j201 h (ok_inr hO)
      · have hO := ok_neg c5 hO
        refine rb hG 7 171 179 [.aload 0, .invokeinterface 402 1003, .aload 0, .getfield 407] [] [] [(0, .ref 46)] [.int (h.1 46 7), .ref 3] h [kd 46 = 4, kd 46 = 4] (by decide +kernel) rfl ⟨kd_46, kd_46⟩ ?_
        refine rv hG z_T_byteAt 73 1 179 3 [.int (h.1 46 7)] [] (by decide +kernel) mk_T_byteAt lk_4_73 rcv_3 rfl ⟨rfl, Nat.le_of_ble_eq_true rfl⟩ (c_T_byteAt (d := d) h 3 (h.1 46 7) (ok_bind hO)) ?_
        rintro _ _ ⟨r6, rfl, rfl, hO⟩
        refine rt hG z_R_isDigit 83 1 182 [.int r6] [] (by decide +kernel) mk_R_isDigit lk_4_83 rfl ⟨rfl, Nat.le_of_ble_eq_true rfl⟩ (c_R_isDigit (d := d) h r6 (ok_bind hO)) ?_
        rintro _ _ ⟨r7, rfl, rfl, hO⟩
        refine ri hG .eq (16) 201 185 (by decide +kernel) (by decide) (fun c8 => ?_) (fun c8 => ?_)
        · have hO := ok_pos c8 hO
          exact j201 h (ok_inr hO)
        · have hO := ok_neg c8 hO
          refine rbx hG 9 188 198 [.aload 0, .dup, .getfield 407, .ldc_w 0, .iadd, .putfield 407] [1] [] (wr h 46 7 ((h.1 46 7) + (1 : Int32))) (fun h9 => [(0, .ref 46)]) (fun h9 => []) (fun h9 => h9) [kd 46 = 4, kd 46 = 4] (by decide +kernel) rfl ⟨kd_46, kd_46⟩ hO (fun h9 hO => ?_)
          refine rb hG 4 198 157 [] [] [] [(0, .ref 46)] [] h9 [] (by decide +kernel) rfl trivial ?_
          exact k157 h9 (ok_some (Q := (Sum.elim H157 P)) hO)
    rw [eH157] at w9
    exact w9
  have l106 : ∀ (h : Hp), Okk (R_step_l106 h) P → G 106 [(0, .ref 46)] [] h := by
    intro h hO
    obtain ⟨H106, eH106⟩ : ∃ q : (Hp) → Prop, q = fun s => G 106 [(0, .ref 46)] [] (s) := ⟨_, rfl⟩
    have w9 : H106 (h) := by
      refine lp_wp (f := fun s : (Hp) => R_step_b106 s) (H := H106) (Q := P) ?_ (h) hO
      intro h hO
      rw [eH106]
      show G 106 [(0, .ref 46)] [] h
      have k106 : ∀ s : (Hp), H106 s → G 106 [(0, .ref 46)] [] (s) := fun s q => by rw [eH106] at q; exact q
      replace hO : Okk (R_step_b106 h) (Sum.elim H106 P) := hO
      clear eH106
      unfold R_step_b106 at hO
      refine rb hG 8 106 117 [.aload 0, .getfield 407, .aload 0, .invokeinterface 402 1003, .getfield 801] [] [] [(0, .ref 46)] [.int (h.1 3 1), .int (h.1 46 7)] h [kd 46 = 4, kd 46 = 4, kd 3 = 8] (by decide +kernel) rfl ⟨kd_46, kd_46, kd_3⟩ ?_
      refine rj hG .ge (134) 251 117 (by decide +kernel) (by decide) (fun c10 => ?_) (fun c10 => ?_)
      · have hO := ok_pos c10 hO
        refine rs hG [] [] rfl ?_
        exact j251 h (ok_inr hO)
      · have hO := ok_neg c10 hO
        refine rb hG 7 120 128 [.aload 0, .invokeinterface 402 1003, .aload 0, .getfield 407] [] [] [(0, .ref 46)] [.int (h.1 46 7), .ref 3] h [kd 46 = 4, kd 46 = 4] (by decide +kernel) rfl ⟨kd_46, kd_46⟩ ?_
        refine rv hG z_T_byteAt 73 1 128 3 [.int (h.1 46 7)] [] (by decide +kernel) mk_T_byteAt lk_4_73 rcv_3 rfl ⟨rfl, Nat.le_of_ble_eq_true rfl⟩ (c_T_byteAt (d := d) h 3 (h.1 46 7) (ok_bind hO)) ?_
        rintro _ _ ⟨r11, rfl, rfl, hO⟩
        refine rt hG z_R_isLetter 80 1 131 [.int r11] [] (by decide +kernel) mk_R_isLetter lk_4_80 rfl ⟨rfl, Nat.le_of_ble_eq_true rfl⟩ (c_R_isLetter (d := d) h r11 (ok_bind hO)) ?_
        rintro _ _ ⟨r12, rfl, rfl, hO⟩
        refine ri hG .eq (117) 251 134 (by decide +kernel) (by decide) (fun c13 => ?_) (fun c13 => ?_)
        · have hO := ok_pos c13 hO
          refine rs hG [] [] rfl ?_
          exact j251 h (ok_inr hO)
        · have hO := ok_neg c13 hO
          refine rbx hG 9 137 147 [.aload 0, .dup, .getfield 407, .ldc_w 0, .iadd, .putfield 407] [1] [] (wr h 46 7 ((h.1 46 7) + (1 : Int32))) (fun h14 => [(0, .ref 46)]) (fun h14 => []) (fun h14 => h14) [kd 46 = 4, kd 46 = 4] (by decide +kernel) rfl ⟨kd_46, kd_46⟩ hO (fun h14 hO => ?_)
          refine rb hG 4 147 106 [] [] [] [(0, .ref 46)] [] h14 [] (by decide +kernel) rfl trivial ?_
          exact k106 h14 (ok_some (Q := (Sum.elim H106 P)) hO)
    rw [eH106] at w9
    exact w9
  have j52 : ∀ (h : Hp), Okk (R_step_j52 h) P → G 52 [(0, .ref 46)] [] h := by
    intro h hO
    unfold R_step_j52 at hO
    refine rb hG 7 52 60 [.aload 0, .invokeinterface 402 1003, .aload 0, .getfield 406] [] [] [(0, .ref 46)] [.int (h.1 46 6), .ref 3] h [kd 46 = 4, kd 46 = 4] (by decide +kernel) rfl ⟨kd_46, kd_46⟩ ?_
    refine rv hG z_T_byteAt 73 1 60 3 [.int (h.1 46 6)] [] (by decide +kernel) mk_T_byteAt lk_4_73 rcv_3 rfl ⟨rfl, Nat.le_of_ble_eq_true rfl⟩ (c_T_byteAt (d := d) h 3 (h.1 46 6) (ok_bind hO)) ?_
    rintro _ _ ⟨r15, rfl, rfl, hO⟩
    refine rbx hG 8 63 72 [.istore 1, .aload 0, .aload 0, .getfield 406, .putfield 407] [] [] (wr h 46 7 (h.1 46 6)) (fun h16 => [(1, .int r15), (0, .ref 46)]) (fun h16 => []) (fun h16 => h16) [kd 46 = 4, kd 46 = 4] (by decide +kernel) rfl ⟨kd_46, kd_46⟩ hO (fun h16 hO => ?_)
    refine rb hG 8 72 83 [.aload 0, .getfield 406, .aload 0, .invokeinterface 402 1003, .getfield 801] [] [] [(1, .int r15), (0, .ref 46)] [.int (h16.1 3 1), .int (h16.1 46 6)] h16 [kd 46 = 4, kd 46 = 4, kd 3 = 8] (by decide +kernel) rfl ⟨kd_46, kd_46, kd_3⟩ ?_
    refine rj hG .lt (11) 94 83 (by decide +kernel) (by decide) (fun c17 => ?_) (fun c17 => ?_)
    · have hO := ok_pos c17 hO
      refine rb hG 4 94 95 [.iload 1] [] [] [(1, .int r15), (0, .ref 46)] [.int r15] h16 [] (by decide +kernel) rfl trivial ?_
      refine rt hG z_R_isLetter 80 1 95 [.int r15] [] (by decide +kernel) mk_R_isLetter lk_4_80 rfl ⟨rfl, Nat.le_of_ble_eq_true rfl⟩ (c_R_isLetter (d := d) h16 r15 (ok_bind hO)) ?_
      rintro _ _ ⟨r18, rfl, rfl, hO⟩
      refine ri hG .eq (52) 150 98 (by decide +kernel) (by decide) (fun c19 => ?_) (fun c19 => ?_)
      · have hO := ok_pos c19 hO
        refine rb hG 4 150 151 [.iload 1] [] [] [(1, .int r15), (0, .ref 46)] [.int r15] h16 [] (by decide +kernel) rfl trivial ?_
        refine rt hG z_R_isDigit 83 1 151 [.int r15] [] (by decide +kernel) mk_R_isDigit lk_4_83 rfl ⟨rfl, Nat.le_of_ble_eq_true rfl⟩ (c_R_isDigit (d := d) h16 r15 (ok_bind hO)) ?_
        rintro _ _ ⟨r20, rfl, rfl, hO⟩
        refine ri hG .eq (72) 226 154 (by decide +kernel) (by decide) (fun c21 => ?_) (fun c21 => ?_)
        · have hO := ok_pos c21 hO
          refine rb hG 6 226 230 [.aload 0, .iload 1, .ldc_w 0] [59] [] [(1, .int r15), (0, .ref 46)] [.int (59 : Int32), .int r15, .ref 46] h16 [] (by decide +kernel) rfl trivial ?_
          refine rjN hG (7) 237 230 (by decide +kernel) (by decide) (fun c22 => ?_) (fun c22 => ?_)
          · have hO := ok_pos c22 hO
            refine rb hG 5 233 238 [.ldc_w 0] [3] [] [(1, .int r15), (0, .ref 46)] [.int (3 : Int32), .ref 46] h16 [] (by decide +kernel) rfl trivial ?_
            refine rs hG [(0, .ref 46)] [1] rfl ?_
            exact j238 (3 : Int32) h16 hO
          · have hO := ok_neg c22 hO
            refine rb hG 4 237 238 [.ldc_w 0] [4] [] [(1, .int r15), (0, .ref 46)] [.int (4 : Int32), .ref 46] h16 [] (by decide +kernel) rfl trivial ?_
            refine rs hG [(0, .ref 46)] [1] rfl ?_
            exact j238 (4 : Int32) h16 hO
        · have hO := ok_neg c21 hO
          refine rs hG [(0, .ref 46)] [1] rfl ?_
          exact l157 h16 hO
      · have hO := ok_neg c19 hO
        refine rbx hG 6 101 106 [.aload 0, .ldc_w 0, .putfield 405] [1] [] (wr h16 46 5 (1 : Int32)) (fun h23 => [(1, .int r15), (0, .ref 46)]) (fun h23 => []) (fun h23 => h23) [kd 46 = 4] (by decide +kernel) rfl kd_46 hO (fun h23 hO => ?_)
        refine rs hG [(0, .ref 46)] [1] rfl ?_
        exact l106 h23 hO
    · have hO := ok_neg c17 hO
      refine rbx hG 6 86 91 [.aload 0, .ldc_w 0, .putfield 405] [0] [] (wr h16 46 5 (0 : Int32)) (fun h24 => [(1, .int r15), (0, .ref 46)]) (fun h24 => []) (fun h24 => h24) [kd 46 = 4] (by decide +kernel) rfl kd_46 hO (fun h24 hO => ?_)
      refine rb hG 4 91 251 [] [] [] [(1, .int r15), (0, .ref 46)] [] h24 [] (by decide +kernel) rfl trivial ?_
      refine rs hG [] [] rfl ?_
      exact j251 h24 hO
  have l8 : ∀ (h : Hp), Okk (R_step_l8 h) P → G 8 [(0, .ref 46)] [] h := by
    intro h hO
    obtain ⟨H8, eH8⟩ : ∃ q : (Hp) → Prop, q = fun s => G 8 [(0, .ref 46)] [] (s) := ⟨_, rfl⟩
    have w9 : H8 (h) := by
      refine lp_wp (f := fun s : (Hp) => R_step_b8 s) (H := H8) (Q := P) ?_ (h) hO
      intro h hO
      rw [eH8]
      show G 8 [(0, .ref 46)] [] h
      have k8 : ∀ s : (Hp), H8 s → G 8 [(0, .ref 46)] [] (s) := fun s q => by rw [eH8] at q; exact q
      replace hO : Okk (R_step_b8 h) (Sum.elim H8 P) := hO
      clear eH8
      unfold R_step_b8 at hO
      refine rb hG 8 8 19 [.aload 0, .getfield 406, .aload 0, .invokeinterface 402 1003, .getfield 801] [] [] [(0, .ref 46)] [.int (h.1 3 1), .int (h.1 46 6)] h [kd 46 = 4, kd 46 = 4, kd 3 = 8] (by decide +kernel) rfl ⟨kd_46, kd_46, kd_3⟩ ?_
      refine rj hG .ge (33) 52 19 (by decide +kernel) (by decide) (fun c25 => ?_) (fun c25 => ?_)
      · have hO := ok_pos c25 hO
        exact j52 h (ok_inr hO)
      · have hO := ok_neg c25 hO
        refine rb hG 7 22 30 [.aload 0, .invokeinterface 402 1003, .aload 0, .getfield 406] [] [] [(0, .ref 46)] [.int (h.1 46 6), .ref 3] h [kd 46 = 4, kd 46 = 4] (by decide +kernel) rfl ⟨kd_46, kd_46⟩ ?_
        refine rv hG z_T_byteAt 73 1 30 3 [.int (h.1 46 6)] [] (by decide +kernel) mk_T_byteAt lk_4_73 rcv_3 rfl ⟨rfl, Nat.le_of_ble_eq_true rfl⟩ (c_T_byteAt (d := d) h 3 (h.1 46 6) (ok_bind hO)) ?_
        rintro _ _ ⟨r26, rfl, rfl, hO⟩
        refine rt hG z_R_isBlank 77 1 33 [.int r26] [] (by decide +kernel) mk_R_isBlank lk_4_77 rfl ⟨rfl, Nat.le_of_ble_eq_true rfl⟩ (c_R_isBlank (d := d) h r26 (ok_bind hO)) ?_
        rintro _ _ ⟨r27, rfl, rfl, hO⟩
        refine ri hG .eq (16) 52 36 (by decide +kernel) (by decide) (fun c28 => ?_) (fun c28 => ?_)
        · have hO := ok_pos c28 hO
          exact j52 h (ok_inr hO)
        · have hO := ok_neg c28 hO
          refine rbx hG 9 39 49 [.aload 0, .dup, .getfield 406, .ldc_w 0, .iadd, .putfield 406] [1] [] (wr h 46 6 ((h.1 46 6) + (1 : Int32))) (fun h29 => [(0, .ref 46)]) (fun h29 => []) (fun h29 => h29) [kd 46 = 4, kd 46 = 4] (by decide +kernel) rfl ⟨kd_46, kd_46⟩ hO (fun h29 hO => ?_)
          refine rb hG 4 49 8 [] [] [] [(0, .ref 46)] [] h29 [] (by decide +kernel) rfl trivial ?_
          exact k8 h29 (ok_some (Q := (Sum.elim H8 P)) hO)
    rw [eH8] at w9
    exact w9
  refine rbx hG 7 0 8 [.aload 0, .aload 0, .getfield 407, .putfield 406] [] [] (wr h 46 6 (h.1 46 7)) (fun h30 => [(0, .ref 46)]) (fun h30 => []) (fun h30 => h30) [kd 46 = 4, kd 46 = 4] (by decide +kernel) rfl ⟨kd_46, kd_46⟩ hO (fun h30 hO => ?_)
  exact l8 h30 hO
/-! GrainInn.Reader.spells(Ljava/lang/String;)Z -/
noncomputable def R_spells_j57 (x1 : Nat) (h : Hp) : Option Int32 := some (1 : Int32)
noncomputable def R_spells_j49 (x1 : Nat) (h : Hp) : Option Int32 := some (0 : Int32)
noncomputable def R_spells_b20 (x1 : Nat) (x2 : Int32) (h : Hp) : Option ((Int32) ⊕ Int32) := if 400 ≤ x1 ∧ x1 < 416 then ((str_len x1).bind fun r2 => if r2 ≤ x2 then (((R_spells_j57 x1 h).map Sum.inr)) else ((T_byteAt h 3 ((h.1 46 6) + x2)).bind fun r4 => if 400 ≤ x1 ∧ x1 < 416 then ((str_at x1 x2).bind fun r6 => if r4 = r6 then (bnd ((x2 + (1 : Int32))) fun y8 => some (.inl y8)) else (((R_spells_j49 x1 h).map Sum.inr))) else none)) else none
noncomputable def R_spells_l20 (x1 : Nat) (x2 : Int32) (h : Hp) : Option Int32 := lp (fun s : (Int32) => R_spells_b20 x1 s h) (x2)
theorem R_spells_l20_eq (x1 : Nat) (x2 : Int32) (h : Hp) : R_spells_l20 x1 x2 h = (R_spells_b20 x1 x2 h).bind (Sum.elim (fun q : (Int32) => R_spells_l20 x1 q h) some) := lp_eq _ _
noncomputable def R_spells (h : Hp) (x1 : Nat) : Option Int32 := if 400 ≤ x1 ∧ x1 < 416 then ((str_len x1).bind fun r10 => if ((h.1 46 7) - (h.1 46 6)) = r10 then ((R_spells_l20 x1 (0 : Int32) h)) else (some (0 : Int32))) else none
set_option maxRecDepth 100000 in
set_option maxHeartbeats 4000000 in
theorem c_R_spells {E : En} {d : Nat} (h : Hp) (x1 : Nat) {P : Int32 → Prop} (hO : Okk (R_spells h x1) P) : Cn E (d + 4) z_R_spells [.ref 46, .ref x1] h (RIp h P) := by
  refine cn_of (on := 4) (d := d + 3) ⟨rfl, by decide +kernel, Nat.le_of_ble_eq_true rfl⟩ (fun G hG => ?_)
  unfold R_spells at hO
  show G 0 [(0, .ref 46), (1, .ref x1)] [] h
  have j57 : Okk (R_spells_j57 x1 h) P → G 57 [] [] h := by
    intro hO
    unfold R_spells_j57 at hO
    refine rb hG 4 57 58 [.ldc_w 0] [1] [] [] [.int (1 : Int32)] h [] (by decide +kernel) rfl trivial ?_
    exact eZ hG 58 (by decide +kernel) rfl (Or.inr rfl) ⟨(1 : Int32), rfl, rfl, ok_some (Q := P) hO⟩
  have j49 : Okk (R_spells_j49 x1 h) P → G 49 [] [] h := by
    intro hO
    unfold R_spells_j49 at hO
    refine rb hG 4 49 50 [.ldc_w 0] [0] [] [] [.int (0 : Int32)] h [] (by decide +kernel) rfl trivial ?_
    exact eZ hG 50 (by decide +kernel) rfl (Or.inl rfl) ⟨(0 : Int32), rfl, rfl, ok_some (Q := P) hO⟩
  have l20 : ∀ (x2 : Int32), Okk (R_spells_l20 x1 x2 h) P → G 20 [(0, .ref 46), (1, .ref x1), (2, .int x2)] [] h := by
    intro x2 hO
    obtain ⟨H20, eH20⟩ : ∃ q : (Int32) → Prop, q = fun s => G 20 [(0, .ref 46), (1, .ref x1), (2, .int (s))] [] (h) := ⟨_, rfl⟩
    have w9 : H20 (x2) := by
      refine lp_wp (f := fun s : (Int32) => R_spells_b20 x1 s h) (H := H20) (Q := P) ?_ (x2) hO
      intro x2 hO
      rw [eH20]
      show G 20 [(0, .ref 46), (1, .ref x1), (2, .int x2)] [] h
      have k20 : ∀ s : (Int32), H20 s → G 20 [(0, .ref 46), (1, .ref x1), (2, .int (s))] [] (h) := fun s q => by rw [eH20] at q; exact q
      replace hO : Okk (R_spells_b20 x1 x2 h) (Sum.elim H20 P) := hO
      clear eH20
      unfold R_spells_b20 at hO
      obtain ⟨g1, hO⟩ := ok_if hO
      refine rb hG 5 20 22 [.iload 2, .aload 1] [] [] [(0, .ref 46), (1, .ref x1), (2, .int x2)] [.ref x1, .int x2] h [] (by decide +kernel) rfl trivial ?_
      refine rv hG z_J_length 154 0 22 x1 [] [.int x2] (by decide +kernel) mk_J_length lk_4_154 (Or.inr ⟨g1.1, g1.2, rfl⟩) rfl ⟨rfl, Nat.le_of_ble_eq_true rfl⟩ (c_J_length (d := d + 2) h x1 (ok_bind hO)) ?_
      rintro _ _ ⟨r2, rfl, rfl, hO⟩
      refine rj hG .ge (32) 57 25 (by decide +kernel) (by decide) (fun c3 => ?_) (fun c3 => ?_)
      · have hO := ok_pos c3 hO
        refine rs hG [] [] rfl ?_
        exact j57 (ok_inr hO)
      · have hO := ok_neg c3 hO
        refine rb hG 9 28 38 [.aload 0, .invokeinterface 402 1003, .aload 0, .getfield 406, .iload 2, .iadd] [] [] [(0, .ref 46), (1, .ref x1), (2, .int x2)] [.int ((h.1 46 6) + x2), .ref 3] h [kd 46 = 4, kd 46 = 4] (by decide +kernel) rfl ⟨kd_46, kd_46⟩ ?_
        refine rv hG z_T_byteAt 73 1 38 3 [.int ((h.1 46 6) + x2)] [] (by decide +kernel) mk_T_byteAt lk_4_73 rcv_3 rfl ⟨rfl, Nat.le_of_ble_eq_true rfl⟩ (c_T_byteAt (d := d + 2) h 3 ((h.1 46 6) + x2) (ok_bind hO)) ?_
        rintro _ _ ⟨r4, rfl, rfl, hO⟩
        obtain ⟨g5, hO⟩ := ok_if hO
        refine rb hG 5 41 43 [.aload 1, .iload 2] [] [] [(0, .ref 46), (1, .ref x1), (2, .int x2)] [.int x2, .ref x1, .int r4] h [] (by decide +kernel) rfl trivial ?_
        refine rv hG z_J_charAt 159 1 43 x1 [.int x2] [.int r4] (by decide +kernel) mk_J_charAt lk_4_159 (Or.inr ⟨g5.1, g5.2, rfl⟩) rfl ⟨rfl, Nat.le_of_ble_eq_true rfl⟩ (c_J_charAt (d := d) h x1 x2 (ok_bind hO)) ?_
        rintro _ _ ⟨r6, rfl, rfl, hO⟩
        refine rj hG .eq (5) 51 46 (by decide +kernel) (by decide) (fun c7 => ?_) (fun c7 => ?_)
        · have hO := ok_pos c7 hO
          refine rbx hG 4 51 54 [.iinc 2 0] [1] [] ((x2 + (1 : Int32))) (fun y8 => [(2, .int y8), (0, .ref 46), (1, .ref x1)]) (fun y8 => []) (fun y8 => h) [] (by decide +kernel) rfl trivial hO (fun y8 hO => ?_)
          refine rb hG 4 54 20 [] [] [] [(2, .int y8), (0, .ref 46), (1, .ref x1)] [] h [] (by decide +kernel) rfl trivial ?_
          refine rs hG [(0, .ref 46), (1, .ref x1), (2, .int y8)] [1, 2, 0] rfl ?_
          exact k20 y8 (ok_some (Q := (Sum.elim H20 P)) hO)
        · have hO := ok_neg c7 hO
          refine rs hG [] [] rfl ?_
          exact j49 (ok_inr hO)
    rw [eH20] at w9
    exact w9
  obtain ⟨g9, hO⟩ := ok_if hO
  refine rb hG 9 0 10 [.aload 0, .getfield 407, .aload 0, .getfield 406, .isub, .aload 1] [] [] [(0, .ref 46), (1, .ref x1)] [.ref x1, .int ((h.1 46 7) - (h.1 46 6))] h [kd 46 = 4, kd 46 = 4] (by decide +kernel) rfl ⟨kd_46, kd_46⟩ ?_
  refine rv hG z_J_length 154 0 10 x1 [] [.int ((h.1 46 7) - (h.1 46 6))] (by decide +kernel) mk_J_length lk_4_154 (Or.inr ⟨g9.1, g9.2, rfl⟩) rfl ⟨rfl, Nat.le_of_ble_eq_true rfl⟩ (c_J_length (d := d + 2) h x1 (ok_bind hO)) ?_
  rintro _ _ ⟨r10, rfl, rfl, hO⟩
  refine rj hG .eq (5) 18 13 (by decide +kernel) (by decide) (fun c11 => ?_) (fun c11 => ?_)
  · have hO := ok_pos c11 hO
    refine rb hG 5 18 20 [.ldc_w 0, .istore 2] [0] [] [(2, .int (0 : Int32)), (0, .ref 46), (1, .ref x1)] [] h [] (by decide +kernel) rfl trivial ?_
    refine rs hG [(0, .ref 46), (1, .ref x1), (2, .int (0 : Int32))] [1, 2, 0] rfl ?_
    exact l20 (0 : Int32) hO
  · have hO := ok_neg c11 hO
    refine rb hG 4 16 17 [.ldc_w 0] [0] [] [(0, .ref 46), (1, .ref x1)] [.int (0 : Int32)] h [] (by decide +kernel) rfl trivial ?_
    exact eZ hG 17 (by decide +kernel) rfl (Or.inl rfl) ⟨(0 : Int32), rfl, rfl, ok_some (Q := P) hO⟩
/-! GrainInn.Reader.keyword(I)I -/
noncomputable def R_keyword_j81 (s0 : Int32) (h : Hp) : Option Int32 := some s0
noncomputable def R_keyword_j161 (s0 : Int32) (h : Hp) : Option Int32 := some s0
noncomputable def R_keyword_j215 (s0 : Int32) (h : Hp) : Option Int32 := some s0
noncomputable def R_keyword_j243 (s0 : Int32) (h : Hp) : Option Int32 := some s0
noncomputable def R_keyword (h : Hp) (x1 : Int32) : Option Int32 := if x1 = (0 : Int32) then ((R_spells h 400).bind fun r2 => if r2 = 0 then ((R_spells h 401).bind fun r4 => if r4 = 0 then ((R_spells h 402).bind fun r6 => if r6 = 0 then ((R_spells h 403).bind fun r8 => if r8 = 0 then ((R_keyword_j81 (-1 : Int32) h)) else ((R_keyword_j81 (3 : Int32) h))) else ((R_keyword_j81 (2 : Int32) h))) else ((R_keyword_j81 (1 : Int32) h))) else ((R_keyword_j81 (0 : Int32) h))) else (if x1 = (1 : Int32) then ((R_spells h 404).bind fun r11 => if r11 = 0 then ((R_spells h 405).bind fun r13 => if r13 = 0 then ((R_spells h 406).bind fun r15 => if r15 = 0 then ((R_spells h 407).bind fun r17 => if r17 = 0 then ((R_spells h 408).bind fun r19 => if r19 = 0 then ((R_spells h 409).bind fun r21 => if r21 = 0 then ((R_keyword_j161 (-1 : Int32) h)) else ((R_keyword_j161 (5 : Int32) h))) else ((R_keyword_j161 (4 : Int32) h))) else ((R_keyword_j161 (3 : Int32) h))) else ((R_keyword_j161 (2 : Int32) h))) else ((R_keyword_j161 (1 : Int32) h))) else ((R_keyword_j161 (0 : Int32) h))) else (if x1 = (2 : Int32) then ((R_spells h 410).bind fun r24 => if r24 = 0 then ((R_spells h 411).bind fun r26 => if r26 = 0 then ((R_spells h 412).bind fun r28 => if r28 = 0 then ((R_spells h 413).bind fun r30 => if r30 = 0 then ((R_keyword_j215 (-1 : Int32) h)) else ((R_keyword_j215 (3 : Int32) h))) else ((R_keyword_j215 (2 : Int32) h))) else ((R_keyword_j215 (1 : Int32) h))) else ((R_keyword_j215 (0 : Int32) h))) else ((R_spells h 414).bind fun r32 => if r32 = 0 then ((R_spells h 415).bind fun r34 => if r34 = 0 then ((R_keyword_j243 (-1 : Int32) h)) else ((R_keyword_j243 (1 : Int32) h))) else ((R_keyword_j243 (0 : Int32) h)))))
set_option maxRecDepth 100000 in
set_option maxHeartbeats 4000000 in
theorem c_R_keyword {E : En} {d : Nat} (h : Hp) (x1 : Int32) {P : Int32 → Prop} (hO : Okk (R_keyword h x1) P) : Cn E (d + 5) z_R_keyword [.ref 46, .int x1] h (RIp h P) := by
  refine cn_of (on := 4) (d := d + 4) ⟨rfl, by decide +kernel, Nat.le_of_ble_eq_true rfl⟩ (fun G hG => ?_)
  unfold R_keyword at hO
  show G 0 [(0, .ref 46), (1, .int x1)] [] h
  have j81 : ∀ (s0 : Int32), Okk (R_keyword_j81 s0 h) P → G 81 [] [.int s0] h := by
    intro s0 hO
    unfold R_keyword_j81 at hO
    exact eI hG 81 (by decide +kernel) rfl ⟨s0, rfl, rfl, ok_some (Q := P) hO⟩
  have j161 : ∀ (s0 : Int32), Okk (R_keyword_j161 s0 h) P → G 161 [] [.int s0] h := by
    intro s0 hO
    unfold R_keyword_j161 at hO
    exact eI hG 161 (by decide +kernel) rfl ⟨s0, rfl, rfl, ok_some (Q := P) hO⟩
  have j215 : ∀ (s0 : Int32), Okk (R_keyword_j215 s0 h) P → G 215 [] [.int s0] h := by
    intro s0 hO
    unfold R_keyword_j215 at hO
    exact eI hG 215 (by decide +kernel) rfl ⟨s0, rfl, rfl, ok_some (Q := P) hO⟩
  have j243 : ∀ (s0 : Int32), Okk (R_keyword_j243 s0 h) P → G 243 [] [.int s0] h := by
    intro s0 hO
    unfold R_keyword_j243 at hO
    exact eI hG 243 (by decide +kernel) rfl ⟨s0, rfl, rfl, ok_some (Q := P) hO⟩
  refine rb hG 4 0 1 [.iload 1] [] [] [(0, .ref 46), (1, .int x1)] [.int x1] h [] (by decide +kernel) rfl trivial ?_
  refine rw9 hG (215) (0) (2) #[(27), (81), (161)] 27 1 [28, 82, 162] 216 (by decide +kernel) (by decide +kernel) ?_
  refine sw_c (0 : Int32) (by decide) (fun c1 => ?_) (fun c1 => ?_)
  · have hO := ok_pos c1 hO
    refine rb hG 5 28 31 [.aload 0, .ldc 0] [] [] [(0, .ref 46), (1, .int x1)] [.ref 400, .ref 46] h [] (by decide +kernel) rfl trivial ?_
    refine rv hG z_R_spells 120 1 31 46 [.ref 400] [] (by decide +kernel) mk_R_spells lk_4_120 rcv_46 rfl ⟨rfl, Nat.le_of_ble_eq_true rfl⟩ (c_R_spells (d := d) h 400 (ok_bind hO)) ?_
    rintro _ _ ⟨r2, rfl, rfl, hO⟩
    refine ri hG .eq (7) 41 34 (by decide +kernel) (by decide) (fun c3 => ?_) (fun c3 => ?_)
    · have hO := ok_pos c3 hO
      refine rb hG 5 41 44 [.aload 0, .ldc 1] [] [] [(0, .ref 46), (1, .int x1)] [.ref 401, .ref 46] h [] (by decide +kernel) rfl trivial ?_
      refine rv hG z_R_spells 120 1 44 46 [.ref 401] [] (by decide +kernel) mk_R_spells lk_4_120 rcv_46 rfl ⟨rfl, Nat.le_of_ble_eq_true rfl⟩ (c_R_spells (d := d) h 401 (ok_bind hO)) ?_
      rintro _ _ ⟨r4, rfl, rfl, hO⟩
      refine ri hG .eq (7) 54 47 (by decide +kernel) (by decide) (fun c5 => ?_) (fun c5 => ?_)
      · have hO := ok_pos c5 hO
        refine rb hG 5 54 57 [.aload 0, .ldc 2] [] [] [(0, .ref 46), (1, .int x1)] [.ref 402, .ref 46] h [] (by decide +kernel) rfl trivial ?_
        refine rv hG z_R_spells 120 1 57 46 [.ref 402] [] (by decide +kernel) mk_R_spells lk_4_120 rcv_46 rfl ⟨rfl, Nat.le_of_ble_eq_true rfl⟩ (c_R_spells (d := d) h 402 (ok_bind hO)) ?_
        rintro _ _ ⟨r6, rfl, rfl, hO⟩
        refine ri hG .eq (7) 67 60 (by decide +kernel) (by decide) (fun c7 => ?_) (fun c7 => ?_)
        · have hO := ok_pos c7 hO
          refine rb hG 5 67 70 [.aload 0, .ldc 3] [] [] [(0, .ref 46), (1, .int x1)] [.ref 403, .ref 46] h [] (by decide +kernel) rfl trivial ?_
          refine rv hG z_R_spells 120 1 70 46 [.ref 403] [] (by decide +kernel) mk_R_spells lk_4_120 rcv_46 rfl ⟨rfl, Nat.le_of_ble_eq_true rfl⟩ (c_R_spells (d := d) h 403 (ok_bind hO)) ?_
          rintro _ _ ⟨r8, rfl, rfl, hO⟩
          refine ri hG .eq (7) 80 73 (by decide +kernel) (by decide) (fun c9 => ?_) (fun c9 => ?_)
          · have hO := ok_pos c9 hO
            refine rb hG 4 80 81 [.ldc_w 0] [-1] [] [(0, .ref 46), (1, .int x1)] [.int (-1 : Int32)] h [] (by decide +kernel) rfl trivial ?_
            refine rs hG [] [] rfl ?_
            exact j81 (-1 : Int32) hO
          · have hO := ok_neg c9 hO
            refine rb hG 5 76 81 [.ldc_w 0] [3] [] [(0, .ref 46), (1, .int x1)] [.int (3 : Int32)] h [] (by decide +kernel) rfl trivial ?_
            refine rs hG [] [] rfl ?_
            exact j81 (3 : Int32) hO
        · have hO := ok_neg c7 hO
          refine rb hG 5 63 81 [.ldc_w 0] [2] [] [(0, .ref 46), (1, .int x1)] [.int (2 : Int32)] h [] (by decide +kernel) rfl trivial ?_
          refine rs hG [] [] rfl ?_
          exact j81 (2 : Int32) hO
      · have hO := ok_neg c5 hO
        refine rb hG 5 50 81 [.ldc_w 0] [1] [] [(0, .ref 46), (1, .int x1)] [.int (1 : Int32)] h [] (by decide +kernel) rfl trivial ?_
        refine rs hG [] [] rfl ?_
        exact j81 (1 : Int32) hO
    · have hO := ok_neg c3 hO
      refine rb hG 5 37 81 [.ldc_w 0] [0] [] [(0, .ref 46), (1, .int x1)] [.int (0 : Int32)] h [] (by decide +kernel) rfl trivial ?_
      refine rs hG [] [] rfl ?_
      exact j81 (0 : Int32) hO
  have hO := ok_neg c1 hO
  refine sw_c (1 : Int32) (by decide) (fun c10 => ?_) (fun c10 => ?_)
  · have hO := ok_pos c10 hO
    refine rb hG 5 82 85 [.aload 0, .ldc 4] [] [] [(0, .ref 46), (1, .int x1)] [.ref 404, .ref 46] h [] (by decide +kernel) rfl trivial ?_
    refine rv hG z_R_spells 120 1 85 46 [.ref 404] [] (by decide +kernel) mk_R_spells lk_4_120 rcv_46 rfl ⟨rfl, Nat.le_of_ble_eq_true rfl⟩ (c_R_spells (d := d) h 404 (ok_bind hO)) ?_
    rintro _ _ ⟨r11, rfl, rfl, hO⟩
    refine ri hG .eq (7) 95 88 (by decide +kernel) (by decide) (fun c12 => ?_) (fun c12 => ?_)
    · have hO := ok_pos c12 hO
      refine rb hG 5 95 98 [.aload 0, .ldc 5] [] [] [(0, .ref 46), (1, .int x1)] [.ref 405, .ref 46] h [] (by decide +kernel) rfl trivial ?_
      refine rv hG z_R_spells 120 1 98 46 [.ref 405] [] (by decide +kernel) mk_R_spells lk_4_120 rcv_46 rfl ⟨rfl, Nat.le_of_ble_eq_true rfl⟩ (c_R_spells (d := d) h 405 (ok_bind hO)) ?_
      rintro _ _ ⟨r13, rfl, rfl, hO⟩
      refine ri hG .eq (7) 108 101 (by decide +kernel) (by decide) (fun c14 => ?_) (fun c14 => ?_)
      · have hO := ok_pos c14 hO
        refine rb hG 5 108 111 [.aload 0, .ldc 6] [] [] [(0, .ref 46), (1, .int x1)] [.ref 406, .ref 46] h [] (by decide +kernel) rfl trivial ?_
        refine rv hG z_R_spells 120 1 111 46 [.ref 406] [] (by decide +kernel) mk_R_spells lk_4_120 rcv_46 rfl ⟨rfl, Nat.le_of_ble_eq_true rfl⟩ (c_R_spells (d := d) h 406 (ok_bind hO)) ?_
        rintro _ _ ⟨r15, rfl, rfl, hO⟩
        refine ri hG .eq (7) 121 114 (by decide +kernel) (by decide) (fun c16 => ?_) (fun c16 => ?_)
        · have hO := ok_pos c16 hO
          refine rb hG 5 121 124 [.aload 0, .ldc 7] [] [] [(0, .ref 46), (1, .int x1)] [.ref 407, .ref 46] h [] (by decide +kernel) rfl trivial ?_
          refine rv hG z_R_spells 120 1 124 46 [.ref 407] [] (by decide +kernel) mk_R_spells lk_4_120 rcv_46 rfl ⟨rfl, Nat.le_of_ble_eq_true rfl⟩ (c_R_spells (d := d) h 407 (ok_bind hO)) ?_
          rintro _ _ ⟨r17, rfl, rfl, hO⟩
          refine ri hG .eq (7) 134 127 (by decide +kernel) (by decide) (fun c18 => ?_) (fun c18 => ?_)
          · have hO := ok_pos c18 hO
            refine rb hG 5 134 137 [.aload 0, .ldc 8] [] [] [(0, .ref 46), (1, .int x1)] [.ref 408, .ref 46] h [] (by decide +kernel) rfl trivial ?_
            refine rv hG z_R_spells 120 1 137 46 [.ref 408] [] (by decide +kernel) mk_R_spells lk_4_120 rcv_46 rfl ⟨rfl, Nat.le_of_ble_eq_true rfl⟩ (c_R_spells (d := d) h 408 (ok_bind hO)) ?_
            rintro _ _ ⟨r19, rfl, rfl, hO⟩
            refine ri hG .eq (7) 147 140 (by decide +kernel) (by decide) (fun c20 => ?_) (fun c20 => ?_)
            · have hO := ok_pos c20 hO
              refine rb hG 5 147 150 [.aload 0, .ldc 9] [] [] [(0, .ref 46), (1, .int x1)] [.ref 409, .ref 46] h [] (by decide +kernel) rfl trivial ?_
              refine rv hG z_R_spells 120 1 150 46 [.ref 409] [] (by decide +kernel) mk_R_spells lk_4_120 rcv_46 rfl ⟨rfl, Nat.le_of_ble_eq_true rfl⟩ (c_R_spells (d := d) h 409 (ok_bind hO)) ?_
              rintro _ _ ⟨r21, rfl, rfl, hO⟩
              refine ri hG .eq (7) 160 153 (by decide +kernel) (by decide) (fun c22 => ?_) (fun c22 => ?_)
              · have hO := ok_pos c22 hO
                refine rb hG 4 160 161 [.ldc_w 0] [-1] [] [(0, .ref 46), (1, .int x1)] [.int (-1 : Int32)] h [] (by decide +kernel) rfl trivial ?_
                refine rs hG [] [] rfl ?_
                exact j161 (-1 : Int32) hO
              · have hO := ok_neg c22 hO
                refine rb hG 5 156 161 [.ldc_w 0] [5] [] [(0, .ref 46), (1, .int x1)] [.int (5 : Int32)] h [] (by decide +kernel) rfl trivial ?_
                refine rs hG [] [] rfl ?_
                exact j161 (5 : Int32) hO
            · have hO := ok_neg c20 hO
              refine rb hG 5 143 161 [.ldc_w 0] [4] [] [(0, .ref 46), (1, .int x1)] [.int (4 : Int32)] h [] (by decide +kernel) rfl trivial ?_
              refine rs hG [] [] rfl ?_
              exact j161 (4 : Int32) hO
          · have hO := ok_neg c18 hO
            refine rb hG 5 130 161 [.ldc_w 0] [3] [] [(0, .ref 46), (1, .int x1)] [.int (3 : Int32)] h [] (by decide +kernel) rfl trivial ?_
            refine rs hG [] [] rfl ?_
            exact j161 (3 : Int32) hO
        · have hO := ok_neg c16 hO
          refine rb hG 5 117 161 [.ldc_w 0] [2] [] [(0, .ref 46), (1, .int x1)] [.int (2 : Int32)] h [] (by decide +kernel) rfl trivial ?_
          refine rs hG [] [] rfl ?_
          exact j161 (2 : Int32) hO
      · have hO := ok_neg c14 hO
        refine rb hG 5 104 161 [.ldc_w 0] [1] [] [(0, .ref 46), (1, .int x1)] [.int (1 : Int32)] h [] (by decide +kernel) rfl trivial ?_
        refine rs hG [] [] rfl ?_
        exact j161 (1 : Int32) hO
    · have hO := ok_neg c12 hO
      refine rb hG 5 91 161 [.ldc_w 0] [0] [] [(0, .ref 46), (1, .int x1)] [.int (0 : Int32)] h [] (by decide +kernel) rfl trivial ?_
      refine rs hG [] [] rfl ?_
      exact j161 (0 : Int32) hO
  have hO := ok_neg c10 hO
  refine sw_c (2 : Int32) (by decide) (fun c23 => ?_) (fun c23 => ?_)
  · have hO := ok_pos c23 hO
    refine rb hG 5 162 165 [.aload 0, .ldc 10] [] [] [(0, .ref 46), (1, .int x1)] [.ref 410, .ref 46] h [] (by decide +kernel) rfl trivial ?_
    refine rv hG z_R_spells 120 1 165 46 [.ref 410] [] (by decide +kernel) mk_R_spells lk_4_120 rcv_46 rfl ⟨rfl, Nat.le_of_ble_eq_true rfl⟩ (c_R_spells (d := d) h 410 (ok_bind hO)) ?_
    rintro _ _ ⟨r24, rfl, rfl, hO⟩
    refine ri hG .eq (7) 175 168 (by decide +kernel) (by decide) (fun c25 => ?_) (fun c25 => ?_)
    · have hO := ok_pos c25 hO
      refine rb hG 5 175 178 [.aload 0, .ldc 11] [] [] [(0, .ref 46), (1, .int x1)] [.ref 411, .ref 46] h [] (by decide +kernel) rfl trivial ?_
      refine rv hG z_R_spells 120 1 178 46 [.ref 411] [] (by decide +kernel) mk_R_spells lk_4_120 rcv_46 rfl ⟨rfl, Nat.le_of_ble_eq_true rfl⟩ (c_R_spells (d := d) h 411 (ok_bind hO)) ?_
      rintro _ _ ⟨r26, rfl, rfl, hO⟩
      refine ri hG .eq (7) 188 181 (by decide +kernel) (by decide) (fun c27 => ?_) (fun c27 => ?_)
      · have hO := ok_pos c27 hO
        refine rb hG 5 188 191 [.aload 0, .ldc 12] [] [] [(0, .ref 46), (1, .int x1)] [.ref 412, .ref 46] h [] (by decide +kernel) rfl trivial ?_
        refine rv hG z_R_spells 120 1 191 46 [.ref 412] [] (by decide +kernel) mk_R_spells lk_4_120 rcv_46 rfl ⟨rfl, Nat.le_of_ble_eq_true rfl⟩ (c_R_spells (d := d) h 412 (ok_bind hO)) ?_
        rintro _ _ ⟨r28, rfl, rfl, hO⟩
        refine ri hG .eq (7) 201 194 (by decide +kernel) (by decide) (fun c29 => ?_) (fun c29 => ?_)
        · have hO := ok_pos c29 hO
          refine rb hG 5 201 204 [.aload 0, .ldc 13] [] [] [(0, .ref 46), (1, .int x1)] [.ref 413, .ref 46] h [] (by decide +kernel) rfl trivial ?_
          refine rv hG z_R_spells 120 1 204 46 [.ref 413] [] (by decide +kernel) mk_R_spells lk_4_120 rcv_46 rfl ⟨rfl, Nat.le_of_ble_eq_true rfl⟩ (c_R_spells (d := d) h 413 (ok_bind hO)) ?_
          rintro _ _ ⟨r30, rfl, rfl, hO⟩
          refine ri hG .eq (7) 214 207 (by decide +kernel) (by decide) (fun c31 => ?_) (fun c31 => ?_)
          · have hO := ok_pos c31 hO
            refine rb hG 4 214 215 [.ldc_w 0] [-1] [] [(0, .ref 46), (1, .int x1)] [.int (-1 : Int32)] h [] (by decide +kernel) rfl trivial ?_
            refine rs hG [] [] rfl ?_
            exact j215 (-1 : Int32) hO
          · have hO := ok_neg c31 hO
            refine rb hG 5 210 215 [.ldc_w 0] [3] [] [(0, .ref 46), (1, .int x1)] [.int (3 : Int32)] h [] (by decide +kernel) rfl trivial ?_
            refine rs hG [] [] rfl ?_
            exact j215 (3 : Int32) hO
        · have hO := ok_neg c29 hO
          refine rb hG 5 197 215 [.ldc_w 0] [2] [] [(0, .ref 46), (1, .int x1)] [.int (2 : Int32)] h [] (by decide +kernel) rfl trivial ?_
          refine rs hG [] [] rfl ?_
          exact j215 (2 : Int32) hO
      · have hO := ok_neg c27 hO
        refine rb hG 5 184 215 [.ldc_w 0] [1] [] [(0, .ref 46), (1, .int x1)] [.int (1 : Int32)] h [] (by decide +kernel) rfl trivial ?_
        refine rs hG [] [] rfl ?_
        exact j215 (1 : Int32) hO
    · have hO := ok_neg c25 hO
      refine rb hG 5 171 215 [.ldc_w 0] [0] [] [(0, .ref 46), (1, .int x1)] [.int (0 : Int32)] h [] (by decide +kernel) rfl trivial ?_
      refine rs hG [] [] rfl ?_
      exact j215 (0 : Int32) hO
  have hO := ok_neg c23 hO
  show G 216 _ _ _
  refine rb hG 5 216 219 [.aload 0, .ldc 14] [] [] [(0, .ref 46), (1, .int x1)] [.ref 414, .ref 46] h [] (by decide +kernel) rfl trivial ?_
  refine rv hG z_R_spells 120 1 219 46 [.ref 414] [] (by decide +kernel) mk_R_spells lk_4_120 rcv_46 rfl ⟨rfl, Nat.le_of_ble_eq_true rfl⟩ (c_R_spells (d := d) h 414 (ok_bind hO)) ?_
  rintro _ _ ⟨r32, rfl, rfl, hO⟩
  refine ri hG .eq (7) 229 222 (by decide +kernel) (by decide) (fun c33 => ?_) (fun c33 => ?_)
  · have hO := ok_pos c33 hO
    refine rb hG 5 229 232 [.aload 0, .ldc 15] [] [] [(0, .ref 46), (1, .int x1)] [.ref 415, .ref 46] h [] (by decide +kernel) rfl trivial ?_
    refine rv hG z_R_spells 120 1 232 46 [.ref 415] [] (by decide +kernel) mk_R_spells lk_4_120 rcv_46 rfl ⟨rfl, Nat.le_of_ble_eq_true rfl⟩ (c_R_spells (d := d) h 415 (ok_bind hO)) ?_
    rintro _ _ ⟨r34, rfl, rfl, hO⟩
    refine ri hG .eq (7) 242 235 (by decide +kernel) (by decide) (fun c35 => ?_) (fun c35 => ?_)
    · have hO := ok_pos c35 hO
      refine rb hG 4 242 243 [.ldc_w 0] [-1] [] [(0, .ref 46), (1, .int x1)] [.int (-1 : Int32)] h [] (by decide +kernel) rfl trivial ?_
      refine rs hG [] [] rfl ?_
      exact j243 (-1 : Int32) hO
    · have hO := ok_neg c35 hO
      refine rb hG 5 238 243 [.ldc_w 0] [1] [] [(0, .ref 46), (1, .int x1)] [.int (1 : Int32)] h [] (by decide +kernel) rfl trivial ?_
      refine rs hG [] [] rfl ?_
      exact j243 (1 : Int32) hO
  · have hO := ok_neg c33 hO
    refine rb hG 5 225 243 [.ldc_w 0] [0] [] [(0, .ref 46), (1, .int x1)] [.int (0 : Int32)] h [] (by decide +kernel) rfl trivial ?_
    refine rs hG [] [] rfl ?_
    exact j243 (0 : Int32) hO
/-! GrainInn.Reader.breakOff()V -/
noncomputable def R_breakOff_j21 (h : Hp) : Option Hp := some h
noncomputable def R_breakOff (h : Hp) : Option Hp := if (h.1 46 3) = (1 : Int32) then ((R_breakOff_j21 h)) else (bnd (wr h 46 3 (1 : Int32)) fun h2 => bnd (wr h2 46 4 (h2.1 46 6)) fun h3 => (R_breakOff_j21 h3))
set_option maxRecDepth 100000 in
set_option maxHeartbeats 4000000 in
theorem c_R_breakOff {E : En} {d : Nat} (h : Hp) {P : Hp → Prop} (hO : Okk (R_breakOff h) P) : Cn E (d + 1) z_R_breakOff [.ref 46] h (RV P) := by
  refine cn_of (on := 4) (d := d + 0) ⟨rfl, by decide +kernel, Nat.le_of_ble_eq_true rfl⟩ (fun G hG => ?_)
  unfold R_breakOff at hO
  show G 0 [(0, .ref 46)] [] h
  have j21 : ∀ (h : Hp), Okk (R_breakOff_j21 h) P → G 21 [] [] h := by
    intro h hO
    unfold R_breakOff_j21 at hO
    exact eV hG 21 (by decide +kernel) rfl ⟨rfl, ok_some (Q := P) hO⟩
  refine rb hG 6 0 5 [.aload 0, .getfield 403, .ldc_w 0] [1] [] [(0, .ref 46)] [.int (1 : Int32), .int (h.1 46 3)] h [kd 46 = 4] (by decide +kernel) rfl kd_46 ?_
  refine rj hG .eq (16) 21 5 (by decide +kernel) (by decide) (fun c1 => ?_) (fun c1 => ?_)
  · have hO := ok_pos c1 hO
    refine rs hG [] [] rfl ?_
    exact j21 h hO
  · have hO := ok_neg c1 hO
    refine rbx hG 6 8 13 [.aload 0, .ldc_w 0, .putfield 403] [1] [] (wr h 46 3 (1 : Int32)) (fun h2 => [(0, .ref 46)]) (fun h2 => []) (fun h2 => h2) [kd 46 = 4] (by decide +kernel) rfl kd_46 hO (fun h2 hO => ?_)
    refine rbx hG 7 13 21 [.aload 0, .aload 0, .getfield 406, .putfield 404] [] [] (wr h2 46 4 (h2.1 46 6)) (fun h3 => [(0, .ref 46)]) (fun h3 => []) (fun h3 => h3) [kd 46 = 4, kd 46 = 4] (by decide +kernel) rfl ⟨kd_46, kd_46⟩ hO (fun h3 hO => ?_)
    refine rs hG [] [] rfl ?_
    exact j21 h3 hO
/-! GrainInn.limitOf(I)I -/
noncomputable def K_limitOf (x0 : Int32) : Option Int32 := if x0 = (1 : Int32) then (some (40 : Int32)) else (if x0 = (2 : Int32) then (some (10 : Int32)) else (some (7 : Int32)))
set_option maxRecDepth 100000 in
set_option maxHeartbeats 4000000 in
theorem c_K_limitOf {E : En} {d : Nat} (h : Hp) (x0 : Int32) {P : Int32 → Prop} (hO : Okk (K_limitOf x0) P) : Cn E (d + 1) z_K_limitOf [.int x0] h (RIp h P) := by
  refine cn_of (on := 11) (d := d + 0) ⟨rfl, by decide +kernel, Nat.le_of_ble_eq_true rfl⟩ (fun G hG => ?_)
  unfold K_limitOf at hO
  show G 0 [(0, .int x0)] [] h
  refine rb hG 4 0 1 [.iload 0] [] [] [(0, .int x0)] [.int x0] h [] (by decide +kernel) rfl trivial ?_
  refine rlk9 hG (33) #[(1, 27), (2, 30)] 27 1 [(1, 28), (2, 31)] 34 (by decide +kernel) (by decide +kernel) ?_
  refine lk_c (1 : Int32) (by decide) (fun c1 => ?_) (fun c1 => ?_)
  · have hO := ok_pos c1 hO
    refine rb hG 4 28 30 [.ldc_w 0] [40] [] [(0, .int x0)] [.int (40 : Int32)] h [] (by decide +kernel) rfl trivial ?_
    exact eI hG 30 (by decide +kernel) rfl ⟨(40 : Int32), rfl, rfl, ok_some (Q := P) hO⟩
  have hO := ok_neg c1 hO
  refine lk_c (2 : Int32) (by decide) (fun c2 => ?_) (fun c2 => ?_)
  · have hO := ok_pos c2 hO
    refine rb hG 4 31 33 [.ldc_w 0] [10] [] [(0, .int x0)] [.int (10 : Int32)] h [] (by decide +kernel) rfl trivial ?_
    exact eI hG 33 (by decide +kernel) rfl ⟨(10 : Int32), rfl, rfl, ok_some (Q := P) hO⟩
  have hO := ok_neg c2 hO
  show G 34 _ _ _
  refine rb hG 4 34 36 [.ldc_w 0] [7] [] [(0, .int x0)] [.int (7 : Int32)] h [] (by decide +kernel) rfl trivial ?_
  exact eI hG 36 (by decide +kernel) rfl ⟨(7 : Int32), rfl, rfl, ok_some (Q := P) hO⟩
/-! GrainInn.Reader.note(II)V -/
noncomputable def R_note_j17 (h : Hp) : Option Hp := some h
noncomputable def R_note (h : Hp) (x1 : Int32) (x2 : Int32) : Option Hp := if (h.1 46 3) = 0 then (bnd (wr h 46 3 x1) fun h2 => bnd (wr h2 46 4 x2) fun h3 => (R_note_j17 h3)) else ((R_note_j17 h))
set_option maxRecDepth 100000 in
set_option maxHeartbeats 4000000 in
theorem c_R_note {E : En} {d : Nat} (h : Hp) (x1 : Int32) (x2 : Int32) {P : Hp → Prop} (hO : Okk (R_note h x1 x2) P) : Cn E (d + 1) z_R_note [.ref 46, .int x1, .int x2] h (RV P) := by
  refine cn_of (on := 4) (d := d + 0) ⟨rfl, by decide +kernel, Nat.le_of_ble_eq_true rfl⟩ (fun G hG => ?_)
  unfold R_note at hO
  show G 0 [(0, .ref 46), (1, .int x1), (2, .int x2)] [] h
  have j17 : ∀ (h : Hp), Okk (R_note_j17 h) P → G 17 [] [] h := by
    intro h hO
    unfold R_note_j17 at hO
    exact eV hG 17 (by decide +kernel) rfl ⟨rfl, ok_some (Q := P) hO⟩
  refine rb hG 5 0 4 [.aload 0, .getfield 403] [] [] [(0, .ref 46), (1, .int x1), (2, .int x2)] [.int (h.1 46 3)] h [kd 46 = 4] (by decide +kernel) rfl kd_46 ?_
  refine riN hG (13) 17 4 (by decide +kernel) (by decide) (fun c1 => ?_) (fun c1 => ?_)
  · have hO := ok_pos c1 hO
    refine rbx hG 6 7 12 [.aload 0, .iload 1, .putfield 403] [] [] (wr h 46 3 x1) (fun h2 => [(0, .ref 46), (1, .int x1), (2, .int x2)]) (fun h2 => []) (fun h2 => h2) [kd 46 = 4] (by decide +kernel) rfl kd_46 hO (fun h2 hO => ?_)
    refine rbx hG 6 12 17 [.aload 0, .iload 2, .putfield 404] [] [] (wr h2 46 4 x2) (fun h3 => [(0, .ref 46), (1, .int x1), (2, .int x2)]) (fun h3 => []) (fun h3 => h3) [kd 46 = 4] (by decide +kernel) rfl kd_46 hO (fun h3 hO => ?_)
    refine rs hG [] [] rfl ?_
    exact j17 h3 hO
  · have hO := ok_neg c1 hO
    refine rs hG [] [] rfl ?_
    exact j17 h hO
/-! GrainInn.isIn(II)Z -/
noncomputable def K_isIn_j23 (s0 : Int32) : Option Int32 := if s0 = 0 ∨ s0 = 1 then (some s0) else none
noncomputable def K_isIn_j22  : Option Int32 := (K_isIn_j23 (0 : Int32))
noncomputable def K_isIn (x0 : Int32) (x1 : Int32) : Option Int32 := if x1 < 0 then ((K_isIn_j22 )) else (if (31 : Int32) ≤ x1 then ((K_isIn_j22 )) else (if ((sr x0 x1) &&& (1 : Int32)) = 0 then ((K_isIn_j22 )) else ((K_isIn_j23 (1 : Int32)))))
set_option maxRecDepth 100000 in
set_option maxHeartbeats 4000000 in
theorem c_K_isIn {E : En} {d : Nat} (h : Hp) (x0 : Int32) (x1 : Int32) {P : Int32 → Prop} (hO : Okk (K_isIn x0 x1) P) : Cn E (d + 1) z_K_isIn [.int x0, .int x1] h (RIp h P) := by
  refine cn_of (on := 11) (d := d + 0) ⟨rfl, by decide +kernel, Nat.le_of_ble_eq_true rfl⟩ (fun G hG => ?_)
  unfold K_isIn at hO
  show G 0 [(0, .int x0), (1, .int x1)] [] h
  have j23 : ∀ (s0 : Int32), Okk (K_isIn_j23 s0) P → G 23 [] [.int s0] h := by
    intro s0 hO
    unfold K_isIn_j23 at hO
    obtain ⟨g1, hO⟩ := ok_if hO
    exact eZ hG 23 (by decide +kernel) rfl g1 ⟨s0, rfl, rfl, ok_some (Q := P) hO⟩
  have j22 : Okk (K_isIn_j22 ) P → G 22 [] [] h := by
    intro hO
    unfold K_isIn_j22 at hO
    refine rb hG 4 22 23 [.ldc_w 0] [0] [] [] [.int (0 : Int32)] h [] (by decide +kernel) rfl trivial ?_
    exact j23 (0 : Int32) hO
  refine rb hG 4 0 1 [.iload 1] [] [] [(0, .int x0), (1, .int x1)] [.int x1] h [] (by decide +kernel) rfl trivial ?_
  refine ri hG .lt (21) 22 1 (by decide +kernel) (by decide) (fun c2 => ?_) (fun c2 => ?_)
  · have hO := ok_pos c2 hO
    refine rs hG [] [] rfl ?_
    exact j22 hO
  · have hO := ok_neg c2 hO
    refine rb hG 5 4 7 [.iload 1, .ldc_w 0] [31] [] [(0, .int x0), (1, .int x1)] [.int (31 : Int32), .int x1] h [] (by decide +kernel) rfl trivial ?_
    refine rj hG .ge (15) 22 7 (by decide +kernel) (by decide) (fun c3 => ?_) (fun c3 => ?_)
    · have hO := ok_pos c3 hO
      refine rs hG [] [] rfl ?_
      exact j22 hO
    · have hO := ok_neg c3 hO
      refine rb hG 8 10 15 [.iload 0, .iload 1, .ishr, .ldc_w 0, .iand] [1] [] [(0, .int x0), (1, .int x1)] [.int ((sr x0 x1) &&& (1 : Int32))] h [] (by decide +kernel) rfl trivial ?_
      refine ri hG .eq (7) 22 15 (by decide +kernel) (by decide) (fun c4 => ?_) (fun c4 => ?_)
      · have hO := ok_pos c4 hO
        refine rs hG [] [] rfl ?_
        exact j22 hO
      · have hO := ok_neg c4 hO
        refine rb hG 5 18 23 [.ldc_w 0] [1] [] [(0, .int x0), (1, .int x1)] [.int (1 : Int32)] h [] (by decide +kernel) rfl trivial ?_
        refine rs hG [] [] rfl ?_
        exact j23 (1 : Int32) hO
/-! GrainInn.Reader.number(III)I -/
noncomputable def R_number_j16 (x1 : Int32) (h : Hp) : Option (Int32 × Hp) := (R_breakOff h).bind fun h1 => some (x1, h1)
noncomputable def R_number_j111 (x4 : Int32) (h : Hp) : Option (Int32 × Hp) := (R_step h).bind fun h2 => some (x4, h2)
noncomputable def R_number_j78 (x1 : Int32) (h : Hp) : Option (Int32 × Hp) := (R_note h (2 : Int32) (h.1 46 6)).bind fun h3 => (R_number_j111 x1 h3)
noncomputable def R_number_j66 (x1 : Int32) (x2 : Int32) (x3 : Int32) (x4 : Int32) (h : Hp) : Option (Int32 × Hp) := if x4 < x1 then ((R_number_j78 x1 h)) else (if x4 ≤ x2 then ((K_isIn x3 x4).bind fun r6 => if r6 = 0 then ((R_number_j111 x4 h)) else ((R_note h (2 : Int32) (h.1 46 6)).bind fun h8 => (R_number_j111 x4 h8))) else ((R_number_j78 x1 h)))
noncomputable def R_number_b31 (x1 : Int32) (x2 : Int32) (x3 : Int32) (x4 : Int32) (x5 : Int32) (h : Hp) : Option ((Int32 × Int32) ⊕ (Int32 × Hp)) := if (h.1 46 7) ≤ x5 then (((R_number_j66 x1 x2 x3 x4 h).map Sum.inr)) else ((T_byteAt h 3 x5).bind fun r10 => bnd (((((10 : Int32) * x4) + r10) - (48 : Int32))) fun y11 => bnd ((x5 + (1 : Int32))) fun y12 => some (.inl (y11, y12)))
noncomputable def R_number_l31 (x1 : Int32) (x2 : Int32) (x3 : Int32) (x4 : Int32) (x5 : Int32) (h : Hp) : Option (Int32 × Hp) := lp (fun s : (Int32 × Int32) => R_number_b31 x1 x2 x3 s.1 s.2 h) (x4, x5)
theorem R_number_l31_eq (x1 : Int32) (x2 : Int32) (x3 : Int32) (x4 : Int32) (x5 : Int32) (h : Hp) : R_number_l31 x1 x2 x3 x4 x5 h = (R_number_b31 x1 x2 x3 x4 x5 h).bind (Sum.elim (fun q : (Int32 × Int32) => R_number_l31 x1 x2 x3 q.1 q.2 h) some) := lp_eq _ _
noncomputable def R_number (h : Hp) (x1 : Int32) (x2 : Int32) (x3 : Int32) : Option (Int32 × Hp) := if (h.1 46 5) = (2 : Int32) then (if (h.1 46 3) = (1 : Int32) then ((R_number_j16 x1 h)) else (bnd ((h.1 46 6)) fun y15 => (R_number_l31 x1 x2 x3 (0 : Int32) y15 h))) else ((R_number_j16 x1 h))
set_option maxRecDepth 100000 in
set_option maxHeartbeats 4000000 in
theorem c_R_number {E : En} {d : Nat} (h : Hp) (x1 : Int32) (x2 : Int32) (x3 : Int32) {P : (Int32 × Hp) → Prop} (hO : Okk (R_number h x1 x2 x3) P) : Cn E (d + 3) z_R_number [.ref 46, .int x1, .int x2, .int x3] h (RI P) := by
  refine cn_of (on := 4) (d := d + 2) ⟨rfl, by decide +kernel, Nat.le_of_ble_eq_true rfl⟩ (fun G hG => ?_)
  unfold R_number at hO
  show G 0 [(0, .ref 46), (1, .int x1), (2, .int x2), (3, .int x3)] [] h
  have j16 : ∀ (h : Hp), Okk (R_number_j16 x1 h) P → G 16 [(0, .ref 46), (1, .int x1)] [] h := by
    intro h hO
    unfold R_number_j16 at hO
    refine rb hG 4 16 17 [.aload 0] [] [] [(0, .ref 46), (1, .int x1)] [.ref 46] h [] (by decide +kernel) rfl trivial ?_
    refine rv hG z_R_breakOff 89 0 17 46 [] [] (by decide +kernel) mk_R_breakOff lk_4_89 rcv_46 rfl ⟨rfl, Nat.le_of_ble_eq_true rfl⟩ (c_R_breakOff (d := d + 1) h (ok_bind hO)) ?_
    rintro _ h1 ⟨rfl, hO⟩
    refine rb hG 4 20 21 [.iload 1] [] [] [(0, .ref 46), (1, .int x1)] [.int x1] h1 [] (by decide +kernel) rfl trivial ?_
    exact eI hG 21 (by decide +kernel) rfl ⟨x1, rfl, ok_some (Q := P) hO⟩
  have j111 : ∀ (x4 : Int32) (h : Hp), Okk (R_number_j111 x4 h) P → G 111 [(0, .ref 46), (4, .int x4)] [] h := by
    intro x4 h hO
    unfold R_number_j111 at hO
    refine rb hG 4 111 112 [.aload 0] [] [] [(0, .ref 46), (4, .int x4)] [.ref 46] h [] (by decide +kernel) rfl trivial ?_
    refine rv hG z_R_step 54 0 112 46 [] [] (by decide +kernel) mk_R_step lk_4_54 rcv_46 rfl ⟨rfl, Nat.le_of_ble_eq_true rfl⟩ (c_R_step (d := d) h (ok_bind hO)) ?_
    rintro _ h2 ⟨rfl, hO⟩
    refine rb hG 4 115 117 [.iload 4] [] [] [(0, .ref 46), (4, .int x4)] [.int x4] h2 [] (by decide +kernel) rfl trivial ?_
    exact eI hG 117 (by decide +kernel) rfl ⟨x4, rfl, ok_some (Q := P) hO⟩
  have j78 : ∀ (h : Hp), Okk (R_number_j78 x1 h) P → G 78 [(0, .ref 46), (1, .int x1)] [] h := by
    intro h hO
    unfold R_number_j78 at hO
    refine rb hG 7 78 84 [.aload 0, .ldc_w 0, .aload 0, .getfield 406] [2] [] [(0, .ref 46), (1, .int x1)] [.int (h.1 46 6), .int (2 : Int32), .ref 46] h [kd 46 = 4] (by decide +kernel) rfl kd_46 ?_
    refine rv hG z_R_note 69 2 84 46 [.int (2 : Int32), .int (h.1 46 6)] [] (by decide +kernel) mk_R_note lk_4_69 rcv_46 rfl ⟨rfl, Nat.le_of_ble_eq_true rfl⟩ (c_R_note (d := d + 1) h (2 : Int32) (h.1 46 6) (ok_bind hO)) ?_
    rintro _ h3 ⟨rfl, hO⟩
    refine rb hG 6 87 111 [.iload 1, .istore 4] [] [] [(4, .int x1), (0, .ref 46), (1, .int x1)] [] h3 [] (by decide +kernel) rfl trivial ?_
    refine rs hG [(0, .ref 46), (4, .int x1)] [1, 0] rfl ?_
    exact j111 x1 h3 hO
  have j66 : ∀ (x4 : Int32) (h : Hp), Okk (R_number_j66 x1 x2 x3 x4 h) P → G 66 [(0, .ref 46), (1, .int x1), (2, .int x2), (3, .int x3), (4, .int x4)] [] h := by
    intro x4 h hO
    unfold R_number_j66 at hO
    refine rb hG 5 66 69 [.iload 4, .iload 1] [] [] [(0, .ref 46), (1, .int x1), (2, .int x2), (3, .int x3), (4, .int x4)] [.int x1, .int x4] h [] (by decide +kernel) rfl trivial ?_
    refine rj hG .lt (9) 78 69 (by decide +kernel) (by decide) (fun c4 => ?_) (fun c4 => ?_)
    · have hO := ok_pos c4 hO
      refine rs hG [(0, .ref 46), (1, .int x1)] [0, 1] rfl ?_
      exact j78 h hO
    · have hO := ok_neg c4 hO
      refine rb hG 5 72 75 [.iload 4, .iload 2] [] [] [(0, .ref 46), (1, .int x1), (2, .int x2), (3, .int x3), (4, .int x4)] [.int x2, .int x4] h [] (by decide +kernel) rfl trivial ?_
      refine rj hG .le (18) 93 75 (by decide +kernel) (by decide) (fun c5 => ?_) (fun c5 => ?_)
      · have hO := ok_pos c5 hO
        refine rb hG 5 93 96 [.iload 3, .iload 4] [] [] [(0, .ref 46), (1, .int x1), (2, .int x2), (3, .int x3), (4, .int x4)] [.int x4, .int x3] h [] (by decide +kernel) rfl trivial ?_
        refine rt hG z_K_isIn 171 2 96 [.int x3, .int x4] [] (by decide +kernel) mk_K_isIn lk_4_171 rfl ⟨rfl, Nat.le_of_ble_eq_true rfl⟩ (c_K_isIn (d := d + 1) h x3 x4 (ok_bind hO)) ?_
        rintro _ _ ⟨r6, rfl, rfl, hO⟩
        refine ri hG .eq (12) 111 99 (by decide +kernel) (by decide) (fun c7 => ?_) (fun c7 => ?_)
        · have hO := ok_pos c7 hO
          refine rs hG [(0, .ref 46), (4, .int x4)] [0, 4] rfl ?_
          exact j111 x4 h hO
        · have hO := ok_neg c7 hO
          refine rb hG 7 102 108 [.aload 0, .ldc_w 0, .aload 0, .getfield 406] [2] [] [(0, .ref 46), (1, .int x1), (2, .int x2), (3, .int x3), (4, .int x4)] [.int (h.1 46 6), .int (2 : Int32), .ref 46] h [kd 46 = 4] (by decide +kernel) rfl kd_46 ?_
          refine rv hG z_R_note 69 2 108 46 [.int (2 : Int32), .int (h.1 46 6)] [] (by decide +kernel) mk_R_note lk_4_69 rcv_46 rfl ⟨rfl, Nat.le_of_ble_eq_true rfl⟩ (c_R_note (d := d + 1) h (2 : Int32) (h.1 46 6) (ok_bind hO)) ?_
          rintro _ h8 ⟨rfl, hO⟩
          refine rs hG [(0, .ref 46), (4, .int x4)] [0, 4] rfl ?_
          exact j111 x4 h8 hO
      · have hO := ok_neg c5 hO
        refine rs hG [(0, .ref 46), (1, .int x1)] [0, 1] rfl ?_
        exact j78 h hO
  have l31 : ∀ (x4 : Int32) (x5 : Int32) (h : Hp), Okk (R_number_l31 x1 x2 x3 x4 x5 h) P → G 31 [(0, .ref 46), (1, .int x1), (2, .int x2), (3, .int x3), (4, .int x4), (5, .int x5)] [] h := by
    intro x4 x5 h hO
    obtain ⟨H31, eH31⟩ : ∃ q : (Int32 × Int32) → Prop, q = fun s => G 31 [(0, .ref 46), (1, .int x1), (2, .int x2), (3, .int x3), (4, .int (s.1)), (5, .int (s.2))] [] (h) := ⟨_, rfl⟩
    have w9 : H31 (x4, x5) := by
      refine lp_wp (f := fun s : (Int32 × Int32) => R_number_b31 x1 x2 x3 s.1 s.2 h) (H := H31) (Q := P) ?_ (x4, x5) hO
      rintro ⟨x4, x5⟩ hO
      rw [eH31]
      show G 31 [(0, .ref 46), (1, .int x1), (2, .int x2), (3, .int x3), (4, .int x4), (5, .int x5)] [] h
      have k31 : ∀ s : (Int32 × Int32), H31 s → G 31 [(0, .ref 46), (1, .int x1), (2, .int x2), (3, .int x3), (4, .int (s.1)), (5, .int (s.2))] [] (h) := fun s q => by rw [eH31] at q; exact q
      replace hO : Okk (R_number_b31 x1 x2 x3 x4 x5 h) (Sum.elim H31 P) := hO
      clear eH31
      unfold R_number_b31 at hO
      refine rb hG 6 31 37 [.iload 5, .aload 0, .getfield 407] [] [] [(0, .ref 46), (1, .int x1), (2, .int x2), (3, .int x3), (4, .int x4), (5, .int x5)] [.int (h.1 46 7), .int x5] h [kd 46 = 4] (by decide +kernel) rfl kd_46 ?_
      refine rj hG .ge (29) 66 37 (by decide +kernel) (by decide) (fun c9 => ?_) (fun c9 => ?_)
      · have hO := ok_pos c9 hO
        refine rs hG [(0, .ref 46), (1, .int x1), (2, .int x2), (3, .int x3), (4, .int x4)] [0, 1, 2, 3, 4] rfl ?_
        exact j66 x4 h (ok_inr hO)
      · have hO := ok_neg c9 hO
        refine rb hG 9 40 51 [.ldc_w 0, .iload 4, .imul, .aload 0, .invokeinterface 402 1003, .iload 5] [10] [] [(0, .ref 46), (1, .int x1), (2, .int x2), (3, .int x3), (4, .int x4), (5, .int x5)] [.int x5, .ref 3, .int ((10 : Int32) * x4)] h [kd 46 = 4] (by decide +kernel) rfl kd_46 ?_
        refine rv hG z_T_byteAt 73 1 51 3 [.int x5] [.int ((10 : Int32) * x4)] (by decide +kernel) mk_T_byteAt lk_4_73 rcv_3 rfl ⟨rfl, Nat.le_of_ble_eq_true rfl⟩ (c_T_byteAt (d := d + 1) h 3 x5 (ok_bind hO)) ?_
        rintro _ _ ⟨r10, rfl, rfl, hO⟩
        refine rbx hG 7 54 60 [.iadd, .ldc_w 0, .isub, .istore 4] [48] [] (((((10 : Int32) * x4) + r10) - (48 : Int32))) (fun y11 => [(4, .int y11), (0, .ref 46), (1, .int x1), (2, .int x2), (3, .int x3), (5, .int x5)]) (fun y11 => []) (fun y11 => h) [] (by decide +kernel) rfl trivial hO (fun y11 hO => ?_)
        refine rbx hG 4 60 63 [.iinc 5 0] [1] [] ((x5 + (1 : Int32))) (fun y12 => [(5, .int y12), (4, .int y11), (0, .ref 46), (1, .int x1), (2, .int x2), (3, .int x3)]) (fun y12 => []) (fun y12 => h) [] (by decide +kernel) rfl trivial hO (fun y12 hO => ?_)
        refine rb hG 4 63 31 [] [] [] [(5, .int y12), (4, .int y11), (0, .ref 46), (1, .int x1), (2, .int x2), (3, .int x3)] [] h [] (by decide +kernel) rfl trivial ?_
        refine rs hG [(0, .ref 46), (1, .int x1), (2, .int x2), (3, .int x3), (4, .int y11), (5, .int y12)] [2, 3, 4, 5, 1, 0] rfl ?_
        exact k31 (y11, y12) (ok_some (Q := (Sum.elim H31 P)) hO)
    rw [eH31] at w9
    exact w9
  refine rb hG 6 0 5 [.aload 0, .getfield 405, .ldc_w 0] [2] [] [(0, .ref 46), (1, .int x1), (2, .int x2), (3, .int x3)] [.int (2 : Int32), .int (h.1 46 5)] h [kd 46 = 4] (by decide +kernel) rfl kd_46 ?_
  refine rjN hG (11) 16 5 (by decide +kernel) (by decide) (fun c13 => ?_) (fun c13 => ?_)
  · have hO := ok_pos c13 hO
    refine rb hG 6 8 13 [.aload 0, .getfield 403, .ldc_w 0] [1] [] [(0, .ref 46), (1, .int x1), (2, .int x2), (3, .int x3)] [.int (1 : Int32), .int (h.1 46 3)] h [kd 46 = 4] (by decide +kernel) rfl kd_46 ?_
    refine rjN hG (9) 22 13 (by decide +kernel) (by decide) (fun c14 => ?_) (fun c14 => ?_)
    · have hO := ok_pos c14 hO
      refine rs hG [(0, .ref 46), (1, .int x1)] [0, 1] rfl ?_
      exact j16 h hO
    · have hO := ok_neg c14 hO
      refine rbx hG 8 22 31 [.ldc_w 0, .istore 4, .aload 0, .getfield 406, .istore 5] [0] [] ((h.1 46 6)) (fun y15 => [(5, .int y15), (4, .int (0 : Int32)), (0, .ref 46), (1, .int x1), (2, .int x2), (3, .int x3)]) (fun y15 => []) (fun y15 => h) [kd 46 = 4] (by decide +kernel) rfl kd_46 hO (fun y15 hO => ?_)
      refine rs hG [(0, .ref 46), (1, .int x1), (2, .int x2), (3, .int x3), (4, .int (0 : Int32)), (5, .int y15)] [2, 3, 4, 5, 1, 0] rfl ?_
      exact l31 (0 : Int32) y15 h hO
  · have hO := ok_neg c13 hO
    refine rs hG [(0, .ref 46), (1, .int x1)] [0, 1] rfl ?_
    exact j16 h hO
/-! GrainInn.House.addTable(III)V -/
noncomputable def H_addTable_j48 (x0 : Nat) (h : Hp) : Option Hp := some h
noncomputable def H_addTable (h : Hp) (x0 : Nat) (x1 : Int32) (x2 : Int32) (x3 : Int32) : Option Hp := if kd x0 = 1 then (if (5 : Int32) ≤ (h.1 x0 5) then ((H_addTable_j48 x0 h)) else (if kd (x0 + 1) = 20 ∧ inb (h.1 x0 5) (ln (x0 + 1)) then (bnd (wr h (x0 + 1) (Int32.toNatClampNeg (h.1 x0 5)) x1) fun h3 => if kd (x0 + 2) = 20 ∧ inb (h3.1 x0 5) (ln (x0 + 2)) then (bnd (wr h3 (x0 + 2) (Int32.toNatClampNeg (h3.1 x0 5)) x2) fun h5 => if kd (x0 + 3) = 20 ∧ inb (h5.1 x0 5) (ln (x0 + 3)) then (bnd (wr h5 (x0 + 3) (Int32.toNatClampNeg (h5.1 x0 5)) x3) fun h7 => bnd (wr h7 x0 5 ((h7.1 x0 5) + (1 : Int32))) fun h8 => (H_addTable_j48 x0 h8)) else none) else none) else none)) else none
set_option maxRecDepth 100000 in
set_option maxHeartbeats 4000000 in
theorem c_H_addTable {E : En} {d : Nat} (h : Hp) (x0 : Nat) (x1 : Int32) (x2 : Int32) (x3 : Int32) {P : Hp → Prop} (hO : Okk (H_addTable h x0 x1 x2 x3) P) : Cn E (d + 1) z_H_addTable [.ref x0, .int x1, .int x2, .int x3] h (RV P) := by
  refine cn_of (on := 1) (d := d + 0) ⟨rfl, by decide +kernel, Nat.le_of_ble_eq_true rfl⟩ (fun G hG => ?_)
  unfold H_addTable at hO
  show G 0 [(0, .ref x0), (1, .int x1), (2, .int x2), (3, .int x3)] [] h
  obtain ⟨g0, hO⟩ := ok_if hO
  have j48 : ∀ (h : Hp), Okk (H_addTable_j48 x0 h) P → G 48 [] [] h := by
    intro h hO
    unfold H_addTable_j48 at hO
    exact eV hG 48 (by decide +kernel) rfl ⟨rfl, ok_some (Q := P) hO⟩
  refine rb hG 6 0 5 [.aload 0, .getfield 105, .ldc_w 0] [5] [] [(0, .ref x0), (1, .int x1), (2, .int x2), (3, .int x3)] [.int (5 : Int32), .int (h.1 x0 5)] h [kd x0 = 1] (by decide +kernel) rfl g0 ?_
  refine rj hG .ge (43) 48 5 (by decide +kernel) (by decide) (fun c1 => ?_) (fun c1 => ?_)
  · have hO := ok_pos c1 hO
    refine rs hG [] [] rfl ?_
    exact j48 h hO
  · have hO := ok_neg c1 hO
    obtain ⟨g2, hO⟩ := ok_if hO
    refine rbx hG 9 8 18 [.aload 0, .invokeinterface 100 1, .aload 0, .getfield 105, .iload 1, .iastore] [] [] (wr h (x0 + 1) (Int32.toNatClampNeg (h.1 x0 5)) x1) (fun h3 => [(0, .ref x0), (1, .int x1), (2, .int x2), (3, .int x3)]) (fun h3 => []) (fun h3 => h3) [kd x0 = 1, kd x0 = 1, kd (x0 + 1) = 20 ∧ inb (h.1 x0 5) (ln (x0 + 1))] (by decide +kernel) rfl ⟨g0, g0, g2⟩ hO (fun h3 hO => ?_)
    obtain ⟨g4, hO⟩ := ok_if hO
    refine rbx hG 9 18 28 [.aload 0, .invokeinterface 101 2, .aload 0, .getfield 105, .iload 2, .iastore] [] [] (wr h3 (x0 + 2) (Int32.toNatClampNeg (h3.1 x0 5)) x2) (fun h5 => [(0, .ref x0), (1, .int x1), (2, .int x2), (3, .int x3)]) (fun h5 => []) (fun h5 => h5) [kd x0 = 1, kd x0 = 1, kd (x0 + 2) = 20 ∧ inb (h3.1 x0 5) (ln (x0 + 2))] (by decide +kernel) rfl ⟨g0, g0, g4⟩ hO (fun h5 hO => ?_)
    obtain ⟨g6, hO⟩ := ok_if hO
    refine rbx hG 9 28 38 [.aload 0, .invokeinterface 102 3, .aload 0, .getfield 105, .iload 3, .iastore] [] [] (wr h5 (x0 + 3) (Int32.toNatClampNeg (h5.1 x0 5)) x3) (fun h7 => [(0, .ref x0), (1, .int x1), (2, .int x2), (3, .int x3)]) (fun h7 => []) (fun h7 => h7) [kd x0 = 1, kd x0 = 1, kd (x0 + 3) = 20 ∧ inb (h5.1 x0 5) (ln (x0 + 3))] (by decide +kernel) rfl ⟨g0, g0, g6⟩ hO (fun h7 hO => ?_)
    refine rbx hG 9 38 48 [.aload 0, .dup, .getfield 105, .ldc_w 0, .iadd, .putfield 105] [1] [] (wr h7 x0 5 ((h7.1 x0 5) + (1 : Int32))) (fun h8 => [(0, .ref x0), (1, .int x1), (2, .int x2), (3, .int x3)]) (fun h8 => []) (fun h8 => h8) [kd x0 = 1, kd x0 = 1] (by decide +kernel) rfl ⟨g0, g0⟩ hO (fun h8 hO => ?_)
    refine rs hG [] [] rfl ?_
    exact j48 h8 hO
/-! GrainInn.House.addCouple(III)V -/
noncomputable def H_addCouple_j58 (x0 : Nat) (h : Hp) : Option Hp := some h
noncomputable def H_addCouple_j36 (x0 : Nat) (x2 : Int32) (x3 : Int32) (s0 : Nat) (h : Hp) : Option Hp := if kd s0 = 20 ∧ inb x2 (ln s0) then (if kd s0 = 20 ∧ inb x2 (ln s0) then (bnd (wr h s0 (Int32.toNatClampNeg x2) ((h.1 s0 (Int32.toNatClampNeg x2)) ||| (sh (1 : Int32) x3))) fun h3 => if kd s0 = 20 ∧ inb x3 (ln s0) then (if kd s0 = 20 ∧ inb x3 (ln s0) then (bnd (wr h3 s0 (Int32.toNatClampNeg x3) ((h3.1 s0 (Int32.toNatClampNeg x3)) ||| (sh (1 : Int32) x2))) fun h6 => (H_addCouple_j58 x0 h6)) else none) else none) else none) else none
noncomputable def H_addCouple (h : Hp) (x0 : Nat) (x1 : Int32) (x2 : Int32) (x3 : Int32) : Option Hp := if kd x0 = 1 then ((K_isOf x2 (0 : Int32) (8 : Int32)).bind fun r7 => if r7 = 0 then ((H_addCouple_j58 x0 h)) else ((K_isOf x3 (0 : Int32) (8 : Int32)).bind fun r9 => if r9 = 0 then ((H_addCouple_j58 x0 h)) else (if x1 = (3 : Int32) then ((H_addCouple_j36 x0 x2 x3 (x0 + 5) h)) else ((H_addCouple_j36 x0 x2 x3 (x0 + 4) h))))) else none
set_option maxRecDepth 100000 in
set_option maxHeartbeats 4000000 in
theorem c_H_addCouple {E : En} {d : Nat} (h : Hp) (x0 : Nat) (x1 : Int32) (x2 : Int32) (x3 : Int32) {P : Hp → Prop} (hO : Okk (H_addCouple h x0 x1 x2 x3) P) : Cn E (d + 2) z_H_addCouple [.ref x0, .int x1, .int x2, .int x3] h (RV P) := by
  refine cn_of (on := 1) (d := d + 1) ⟨rfl, by decide +kernel, Nat.le_of_ble_eq_true rfl⟩ (fun G hG => ?_)
  unfold H_addCouple at hO
  show G 0 [(0, .ref x0), (1, .int x1), (2, .int x2), (3, .int x3)] [] h
  obtain ⟨g0, hO⟩ := ok_if hO
  have j58 : ∀ (h : Hp), Okk (H_addCouple_j58 x0 h) P → G 58 [] [] h := by
    intro h hO
    unfold H_addCouple_j58 at hO
    exact eV hG 58 (by decide +kernel) rfl ⟨rfl, ok_some (Q := P) hO⟩
  have j36 : ∀ (s0 : Nat) (h : Hp), Okk (H_addCouple_j36 x0 x2 x3 s0 h) P → G 36 [(2, .int x2), (3, .int x3)] [.ref s0] h := by
    intro s0 h hO
    unfold H_addCouple_j36 at hO
    obtain ⟨g1, hO⟩ := ok_if hO
    obtain ⟨g2, hO⟩ := ok_if hO
    refine rbx hG 13 36 48 [.astore 4, .aload 4, .iload 2, .dup2, .iaload, .ldc_w 0, .iload 3, .ishl, .ior, .iastore] [1] [] (wr h s0 (Int32.toNatClampNeg x2) ((h.1 s0 (Int32.toNatClampNeg x2)) ||| (sh (1 : Int32) x3))) (fun h3 => [(4, .ref s0), (2, .int x2), (3, .int x3)]) (fun h3 => []) (fun h3 => h3) [kd s0 = 20 ∧ inb x2 (ln s0), kd s0 = 20 ∧ inb x2 (ln s0)] (by decide +kernel) rfl ⟨g1, g2⟩ hO (fun h3 hO => ?_)
    obtain ⟨g4, hO⟩ := ok_if hO
    obtain ⟨g5, hO⟩ := ok_if hO
    refine rbx hG 12 48 58 [.aload 4, .iload 3, .dup2, .iaload, .ldc_w 0, .iload 2, .ishl, .ior, .iastore] [1] [] (wr h3 s0 (Int32.toNatClampNeg x3) ((h3.1 s0 (Int32.toNatClampNeg x3)) ||| (sh (1 : Int32) x2))) (fun h6 => [(4, .ref s0), (2, .int x2), (3, .int x3)]) (fun h6 => []) (fun h6 => h6) [kd s0 = 20 ∧ inb x3 (ln s0), kd s0 = 20 ∧ inb x3 (ln s0)] (by decide +kernel) rfl ⟨g4, g5⟩ hO (fun h6 hO => ?_)
    refine rs hG [] [] rfl ?_
    exact j58 h6 hO
  refine rb hG 6 0 4 [.iload 2, .ldc_w 0, .ldc_w 1] [0, 8] [] [(0, .ref x0), (1, .int x1), (2, .int x2), (3, .int x3)] [.int (8 : Int32), .int (0 : Int32), .int x2] h [] (by decide +kernel) rfl trivial ?_
  refine rt hG z_K_isOf 46 3 4 [.int x2, .int (0 : Int32), .int (8 : Int32)] [] (by decide +kernel) mk_K_isOf lk_1_46 rfl ⟨rfl, Nat.le_of_ble_eq_true rfl⟩ (c_K_isOf (d := d) h x2 (0 : Int32) (8 : Int32) (ok_bind hO)) ?_
  rintro _ _ ⟨r7, rfl, rfl, hO⟩
  refine ri hG .eq (51) 58 7 (by decide +kernel) (by decide) (fun c8 => ?_) (fun c8 => ?_)
  · have hO := ok_pos c8 hO
    refine rs hG [] [] rfl ?_
    exact j58 h hO
  · have hO := ok_neg c8 hO
    refine rb hG 6 10 14 [.iload 3, .ldc_w 0, .ldc_w 1] [0, 8] [] [(0, .ref x0), (1, .int x1), (2, .int x2), (3, .int x3)] [.int (8 : Int32), .int (0 : Int32), .int x3] h [] (by decide +kernel) rfl trivial ?_
    refine rt hG z_K_isOf 46 3 14 [.int x3, .int (0 : Int32), .int (8 : Int32)] [] (by decide +kernel) mk_K_isOf lk_1_46 rfl ⟨rfl, Nat.le_of_ble_eq_true rfl⟩ (c_K_isOf (d := d) h x3 (0 : Int32) (8 : Int32) (ok_bind hO)) ?_
    rintro _ _ ⟨r9, rfl, rfl, hO⟩
    refine ri hG .eq (41) 58 17 (by decide +kernel) (by decide) (fun c10 => ?_) (fun c10 => ?_)
    · have hO := ok_pos c10 hO
      refine rs hG [] [] rfl ?_
      exact j58 h hO
    · have hO := ok_neg c10 hO
      refine rb hG 5 20 22 [.iload 1, .ldc_w 0] [3] [] [(0, .ref x0), (1, .int x1), (2, .int x2), (3, .int x3)] [.int (3 : Int32), .int x1] h [] (by decide +kernel) rfl trivial ?_
      refine rjN hG (10) 32 22 (by decide +kernel) (by decide) (fun c11 => ?_) (fun c11 => ?_)
      · have hO := ok_pos c11 hO
        refine rb hG 6 25 36 [.aload 0, .invokeinterface 104 5] [] [] [(0, .ref x0), (1, .int x1), (2, .int x2), (3, .int x3)] [.ref (x0 + 5)] h [kd x0 = 1] (by decide +kernel) rfl g0 ?_
        refine rs hG [(2, .int x2), (3, .int x3)] [2, 3] rfl ?_
        exact j36 (x0 + 5) h hO
      · have hO := ok_neg c11 hO
        refine rb hG 5 32 36 [.aload 0, .invokeinterface 103 4] [] [] [(0, .ref x0), (1, .int x1), (2, .int x2), (3, .int x3)] [.ref (x0 + 4)] h [kd x0 = 1] (by decide +kernel) rfl g0 ?_
        refine rs hG [(2, .int x2), (3, .int x3)] [2, 3] rfl ?_
        exact j36 (x0 + 4) h hO
/-! GrainInn.Reader.readInnLine(I)V -/
noncomputable def R_readInnLine_j115 (h : Hp) : Option Hp := some h
noncomputable def R_readInnLine (h : Hp) (x1 : Int32) : Option Hp := if x1 = 0 then ((R_number h (1 : Int32) (8 : Int32) (0 : Int32)).bind fun (r2, h3) => (R_number h3 (1 : Int32) (6 : Int32) (0 : Int32)).bind fun (r4, h5) => (R_number h5 (0 : Int32) (9 : Int32) (0 : Int32)).bind fun (r6, h7) => (H_addTable h7 47 r2 r4 r6).bind fun h8 => (R_readInnLine_j115 h8)) else (if x1 = (1 : Int32) then ((R_number h (1 : Int32) (8 : Int32) (0 : Int32)).bind fun (r10, h11) => bnd (wr h11 47 6 r10) fun h12 => (R_readInnLine_j115 h12)) else ((R_number h (0 : Int32) (7 : Int32) (0 : Int32)).bind fun (r13, h14) => (R_number h14 (0 : Int32) (7 : Int32) (sh (1 : Int32) r13)).bind fun (r15, h16) => (H_addCouple h16 47 x1 r13 r15).bind fun h17 => bnd (wr h17 46 8 ((h17.1 46 8) ||| ((sh (1 : Int32) r13) ||| (sh (1 : Int32) r15)))) fun h18 => (R_readInnLine_j115 h18)))
set_option maxRecDepth 100000 in
set_option maxHeartbeats 4000000 in
theorem c_R_readInnLine {E : En} {d : Nat} (h : Hp) (x1 : Int32) {P : Hp → Prop} (hO : Okk (R_readInnLine h x1) P) : Cn E (d + 4) z_R_readInnLine [.ref 46, .int x1] h (RV P) := by
  refine cn_of (on := 4) (d := d + 3) ⟨rfl, by decide +kernel, Nat.le_of_ble_eq_true rfl⟩ (fun G hG => ?_)
  unfold R_readInnLine at hO
  show G 0 [(0, .ref 46), (1, .int x1)] [] h
  have j115 : ∀ (h : Hp), Okk (R_readInnLine_j115 h) P → G 115 [] [] h := by
    intro h hO
    unfold R_readInnLine_j115 at hO
    exact eV hG 115 (by decide +kernel) rfl ⟨rfl, ok_some (Q := P) hO⟩
  refine rb hG 4 0 1 [.iload 1] [] [] [(0, .ref 46), (1, .int x1)] [.int x1] h [] (by decide +kernel) rfl trivial ?_
  refine riN hG (45) 46 1 (by decide +kernel) (by decide) (fun c1 => ?_) (fun c1 => ?_)
  · have hO := ok_pos c1 hO
    refine rb hG 7 4 9 [.aload 0, .ldc_w 0, .ldc_w 1, .ldc_w 2] [1, 8, 0] [] [(0, .ref 46), (1, .int x1)] [.int (0 : Int32), .int (8 : Int32), .int (1 : Int32), .ref 46] h [] (by decide +kernel) rfl trivial ?_
    refine rv hG z_R_number 110 3 9 46 [.int (1 : Int32), .int (8 : Int32), .int (0 : Int32)] [] (by decide +kernel) mk_R_number lk_4_110 rcv_46 rfl ⟨rfl, Nat.le_of_ble_eq_true rfl⟩ (c_R_number (d := d) h (1 : Int32) (8 : Int32) (0 : Int32) (ok_bind hO)) ?_
    rintro _ h3 ⟨r2, rfl, hO⟩
    refine rb hG 8 12 18 [.istore 2, .aload 0, .ldc_w 0, .ldc_w 1, .ldc_w 2] [1, 6, 0] [] [(2, .int r2), (0, .ref 46), (1, .int x1)] [.int (0 : Int32), .int (6 : Int32), .int (1 : Int32), .ref 46] h3 [] (by decide +kernel) rfl trivial ?_
    refine rv hG z_R_number 110 3 18 46 [.int (1 : Int32), .int (6 : Int32), .int (0 : Int32)] [] (by decide +kernel) mk_R_number lk_4_110 rcv_46 rfl ⟨rfl, Nat.le_of_ble_eq_true rfl⟩ (c_R_number (d := d) h3 (1 : Int32) (6 : Int32) (0 : Int32) (ok_bind hO)) ?_
    rintro _ h5 ⟨r4, rfl, hO⟩
    refine rb hG 8 21 27 [.istore 3, .aload 0, .ldc_w 0, .ldc_w 1, .ldc_w 0] [0, 9] [] [(3, .int r4), (2, .int r2), (0, .ref 46), (1, .int x1)] [.int (0 : Int32), .int (9 : Int32), .int (0 : Int32), .ref 46] h5 [] (by decide +kernel) rfl trivial ?_
    refine rv hG z_R_number 110 3 27 46 [.int (0 : Int32), .int (9 : Int32), .int (0 : Int32)] [] (by decide +kernel) mk_R_number lk_4_110 rcv_46 rfl ⟨rfl, Nat.le_of_ble_eq_true rfl⟩ (c_R_number (d := d) h5 (0 : Int32) (9 : Int32) (0 : Int32) (ok_bind hO)) ?_
    rintro _ h7 ⟨r6, rfl, hO⟩
    refine rb hG 9 30 40 [.istore 4, .aload 0, .invokeinterface 400 1, .iload 2, .iload 3, .iload 4] [] [] [(4, .int r6), (3, .int r4), (2, .int r2), (0, .ref 46), (1, .int x1)] [.int r6, .int r4, .int r2, .ref 47] h7 [kd 46 = 4] (by decide +kernel) rfl kd_46 ?_
    refine rv hG z_H_addTable 163 3 40 47 [.int r2, .int r4, .int r6] [] (by decide +kernel) mk_H_addTable lk_4_163 rcv_47 rfl ⟨rfl, Nat.le_of_ble_eq_true rfl⟩ (c_H_addTable (d := d + 2) h7 47 r2 r4 r6 (ok_bind hO)) ?_
    rintro _ h8 ⟨rfl, hO⟩
    refine rb hG 4 43 115 [] [] [] [(4, .int r6), (3, .int r4), (2, .int r2), (0, .ref 46), (1, .int x1)] [] h8 [] (by decide +kernel) rfl trivial ?_
    refine rs hG [] [] rfl ?_
    exact j115 h8 hO
  · have hO := ok_neg c1 hO
    refine rb hG 5 46 48 [.iload 1, .ldc_w 0] [1] [] [(0, .ref 46), (1, .int x1)] [.int (1 : Int32), .int x1] h [] (by decide +kernel) rfl trivial ?_
    refine rjN hG (21) 69 48 (by decide +kernel) (by decide) (fun c9 => ?_) (fun c9 => ?_)
    · have hO := ok_pos c9 hO
      refine rb hG 9 51 60 [.aload 0, .invokeinterface 400 1, .aload 0, .ldc_w 0, .ldc_w 1, .ldc_w 2] [1, 8, 0] [] [(0, .ref 46), (1, .int x1)] [.int (0 : Int32), .int (8 : Int32), .int (1 : Int32), .ref 46, .ref 47] h [kd 46 = 4] (by decide +kernel) rfl kd_46 ?_
      refine rv hG z_R_number 110 3 60 46 [.int (1 : Int32), .int (8 : Int32), .int (0 : Int32)] [.ref 47] (by decide +kernel) mk_R_number lk_4_110 rcv_46 rfl ⟨rfl, Nat.le_of_ble_eq_true rfl⟩ (c_R_number (d := d) h (1 : Int32) (8 : Int32) (0 : Int32) (ok_bind hO)) ?_
      rintro _ h11 ⟨r10, rfl, hO⟩
      refine rbx hG 4 63 66 [.putfield 106] [] [] (wr h11 47 6 r10) (fun h12 => [(0, .ref 46), (1, .int x1)]) (fun h12 => []) (fun h12 => h12) [kd 47 = 1] (by decide +kernel) rfl kd_47 hO (fun h12 hO => ?_)
      refine rb hG 4 66 115 [] [] [] [(0, .ref 46), (1, .int x1)] [] h12 [] (by decide +kernel) rfl trivial ?_
      refine rs hG [] [] rfl ?_
      exact j115 h12 hO
    · have hO := ok_neg c9 hO
      refine rb hG 7 69 74 [.aload 0, .ldc_w 0, .ldc_w 1, .ldc_w 0] [0, 7] [] [(0, .ref 46), (1, .int x1)] [.int (0 : Int32), .int (7 : Int32), .int (0 : Int32), .ref 46] h [] (by decide +kernel) rfl trivial ?_
      refine rv hG z_R_number 110 3 74 46 [.int (0 : Int32), .int (7 : Int32), .int (0 : Int32)] [] (by decide +kernel) mk_R_number lk_4_110 rcv_46 rfl ⟨rfl, Nat.le_of_ble_eq_true rfl⟩ (c_R_number (d := d) h (0 : Int32) (7 : Int32) (0 : Int32) (ok_bind hO)) ?_
      rintro _ h14 ⟨r13, rfl, hO⟩
      refine rb hG 10 77 85 [.istore 2, .aload 0, .ldc_w 0, .ldc_w 1, .ldc_w 2, .iload 2, .ishl] [0, 7, 1] [] [(2, .int r13), (0, .ref 46), (1, .int x1)] [.int (sh (1 : Int32) r13), .int (7 : Int32), .int (0 : Int32), .ref 46] h14 [] (by decide +kernel) rfl trivial ?_
      refine rv hG z_R_number 110 3 85 46 [.int (0 : Int32), .int (7 : Int32), .int (sh (1 : Int32) r13)] [] (by decide +kernel) mk_R_number lk_4_110 rcv_46 rfl ⟨rfl, Nat.le_of_ble_eq_true rfl⟩ (c_R_number (d := d) h14 (0 : Int32) (7 : Int32) (sh (1 : Int32) r13) (ok_bind hO)) ?_
      rintro _ h16 ⟨r15, rfl, hO⟩
      refine rb hG 9 88 96 [.istore 3, .aload 0, .invokeinterface 400 1, .iload 1, .iload 2, .iload 3] [] [] [(3, .int r15), (2, .int r13), (0, .ref 46), (1, .int x1)] [.int r15, .int r13, .int x1, .ref 47] h16 [kd 46 = 4] (by decide +kernel) rfl kd_46 ?_
      refine rv hG z_H_addCouple 168 3 96 47 [.int x1, .int r13, .int r15] [] (by decide +kernel) mk_H_addCouple lk_4_168 rcv_47 rfl ⟨rfl, Nat.le_of_ble_eq_true rfl⟩ (c_H_addCouple (d := d + 1) h16 47 x1 r13 r15 (ok_bind hO)) ?_
      rintro _ h17 ⟨rfl, hO⟩
      refine rbx hG 15 99 115 [.aload 0, .dup, .getfield 408, .ldc_w 0, .iload 2, .ishl, .ldc_w 0, .iload 3, .ishl, .ior, .ior, .putfield 408] [1] [] (wr h17 46 8 ((h17.1 46 8) ||| ((sh (1 : Int32) r13) ||| (sh (1 : Int32) r15)))) (fun h18 => [(3, .int r15), (2, .int r13), (0, .ref 46), (1, .int x1)]) (fun h18 => []) (fun h18 => h18) [kd 46 = 4, kd 46 = 4] (by decide +kernel) rfl ⟨kd_46, kd_46⟩ hO (fun h18 hO => ?_)
      refine rs hG [] [] rfl ?_
      exact j115 h18 hO
/-! GrainInn.Lines.add(III)V -/
noncomputable def L_add_j52 (x0 : Nat) (h : Hp) : Option Hp := some h
noncomputable def L_add (h : Hp) (x0 : Nat) (x1 : Int32) (x2 : Int32) (x3 : Int32) : Option Hp := if kd x0 = 2 then (if 20 ≤ kd (x0 + 1) ∧ kd (x0 + 1) < 27 then (if (Int32.ofNat (ln (x0 + 1))) ≤ (h.1 x0 3) then ((L_add_j52 x0 h)) else (if kd (x0 + 1) = 20 ∧ inb (h.1 x0 3) (ln (x0 + 1)) then (bnd (wr h (x0 + 1) (Int32.toNatClampNeg (h.1 x0 3)) x1) fun h4 => if kd (x0 + 2) = 20 ∧ inb (h4.1 x0 3) (ln (x0 + 2)) then (bnd (wr h4 (x0 + 2) (Int32.toNatClampNeg (h4.1 x0 3)) x2) fun h6 => if kd (x0 + 3) = 20 ∧ inb (h6.1 x0 3) (ln (x0 + 3)) then (bnd (wr h6 (x0 + 3) (Int32.toNatClampNeg (h6.1 x0 3)) x3) fun h8 => bnd (wr h8 x0 3 ((h8.1 x0 3) + (1 : Int32))) fun h9 => (L_add_j52 x0 h9)) else none) else none) else none)) else none) else none
set_option maxRecDepth 100000 in
set_option maxHeartbeats 4000000 in
theorem c_L_add {E : En} {d : Nat} (h : Hp) (x0 : Nat) (x1 : Int32) (x2 : Int32) (x3 : Int32) {P : Hp → Prop} (hO : Okk (L_add h x0 x1 x2 x3) P) : Cn E (d + 1) z_L_add [.ref x0, .int x1, .int x2, .int x3] h (RV P) := by
  refine cn_of (on := 2) (d := d + 0) ⟨rfl, by decide +kernel, Nat.le_of_ble_eq_true rfl⟩ (fun G hG => ?_)
  unfold L_add at hO
  show G 0 [(0, .ref x0), (1, .int x1), (2, .int x2), (3, .int x3)] [] h
  obtain ⟨g0, hO⟩ := ok_if hO
  have j52 : ∀ (h : Hp), Okk (L_add_j52 x0 h) P → G 52 [] [] h := by
    intro h hO
    unfold L_add_j52 at hO
    exact eV hG 52 (by decide +kernel) rfl ⟨rfl, ok_some (Q := P) hO⟩
  obtain ⟨g1, hO⟩ := ok_if hO
  refine rb hG 8 0 9 [.aload 0, .getfield 203, .aload 0, .invokeinterface 200 1, .arraylength] [] [] [(0, .ref x0), (1, .int x1), (2, .int x2), (3, .int x3)] [.int (Int32.ofNat (ln (x0 + 1))), .int (h.1 x0 3)] h [kd x0 = 2, kd x0 = 2, 20 ≤ kd (x0 + 1) ∧ kd (x0 + 1) < 27] (by decide +kernel) rfl ⟨g0, g0, g1⟩ ?_
  refine rj hG .ge (43) 52 9 (by decide +kernel) (by decide) (fun c2 => ?_) (fun c2 => ?_)
  · have hO := ok_pos c2 hO
    refine rs hG [] [] rfl ?_
    exact j52 h hO
  · have hO := ok_neg c2 hO
    obtain ⟨g3, hO⟩ := ok_if hO
    refine rbx hG 9 12 22 [.aload 0, .invokeinterface 200 1, .aload 0, .getfield 203, .iload 1, .iastore] [] [] (wr h (x0 + 1) (Int32.toNatClampNeg (h.1 x0 3)) x1) (fun h4 => [(0, .ref x0), (1, .int x1), (2, .int x2), (3, .int x3)]) (fun h4 => []) (fun h4 => h4) [kd x0 = 2, kd x0 = 2, kd (x0 + 1) = 20 ∧ inb (h.1 x0 3) (ln (x0 + 1))] (by decide +kernel) rfl ⟨g0, g0, g3⟩ hO (fun h4 hO => ?_)
    obtain ⟨g5, hO⟩ := ok_if hO
    refine rbx hG 9 22 32 [.aload 0, .invokeinterface 201 2, .aload 0, .getfield 203, .iload 2, .iastore] [] [] (wr h4 (x0 + 2) (Int32.toNatClampNeg (h4.1 x0 3)) x2) (fun h6 => [(0, .ref x0), (1, .int x1), (2, .int x2), (3, .int x3)]) (fun h6 => []) (fun h6 => h6) [kd x0 = 2, kd x0 = 2, kd (x0 + 2) = 20 ∧ inb (h4.1 x0 3) (ln (x0 + 2))] (by decide +kernel) rfl ⟨g0, g0, g5⟩ hO (fun h6 hO => ?_)
    obtain ⟨g7, hO⟩ := ok_if hO
    refine rbx hG 9 32 42 [.aload 0, .invokeinterface 202 3, .aload 0, .getfield 203, .iload 3, .iastore] [] [] (wr h6 (x0 + 3) (Int32.toNatClampNeg (h6.1 x0 3)) x3) (fun h8 => [(0, .ref x0), (1, .int x1), (2, .int x2), (3, .int x3)]) (fun h8 => []) (fun h8 => h8) [kd x0 = 2, kd x0 = 2, kd (x0 + 3) = 20 ∧ inb (h6.1 x0 3) (ln (x0 + 3))] (by decide +kernel) rfl ⟨g0, g0, g7⟩ hO (fun h8 hO => ?_)
    refine rbx hG 9 42 52 [.aload 0, .dup, .getfield 203, .ldc_w 0, .iadd, .putfield 203] [1] [] (wr h8 x0 3 ((h8.1 x0 3) + (1 : Int32))) (fun h9 => [(0, .ref x0), (1, .int x1), (2, .int x2), (3, .int x3)]) (fun h9 => []) (fun h9 => h9) [kd x0 = 2, kd x0 = 2] (by decide +kernel) rfl ⟨g0, g0⟩ hO (fun h9 hO => ?_)
    refine rs hG [] [] rfl ?_
    exact j52 h9 hO
/-! GrainInn.Reader.readDeed(I)V -/
noncomputable def R_readDeed_j157 (x1 : Int32) (x2 : Int32) (x3 : Int32) (h : Hp) : Option Hp := (L_add h 53 x1 x2 x3).bind fun h1 => some h1
noncomputable def R_readDeed_j101 (x1 : Int32) (x2 : Int32) (x3 : Int32) (h : Hp) : Option Hp := (R_readDeed_j157 x1 x2 x3 h)
noncomputable def R_readDeed_b66 (x1 : Int32) (x2 : Int32) (x3 : Int32) (x4 : Int32) (h : Hp) : Option ((Int32 × Int32 × Hp) ⊕ Hp) := if (600 : Int32) ≤ x4 then (((R_readDeed_j101 x1 x2 x3 h).map Sum.inr)) else (if (h.1 46 5) = (2 : Int32) then ((R_number h (0 : Int32) (7 : Int32) x3).bind fun (r4, h5) => bnd ((x3 ||| (sh (1 : Int32) r4))) fun y6 => bnd ((x4 + (1 : Int32))) fun y7 => some (.inl (y6, y7, h5))) else (((R_readDeed_j101 x1 x2 x3 h).map Sum.inr)))
noncomputable def R_readDeed_l66 (x1 : Int32) (x2 : Int32) (x3 : Int32) (x4 : Int32) (h : Hp) : Option Hp := lp (fun s : (Int32 × Int32 × Hp) => R_readDeed_b66 x1 x2 s.1 s.2.1 s.2.2) (x3, x4, h)
theorem R_readDeed_l66_eq (x1 : Int32) (x2 : Int32) (x3 : Int32) (x4 : Int32) (h : Hp) : R_readDeed_l66 x1 x2 x3 x4 h = (R_readDeed_b66 x1 x2 x3 x4 h).bind (Sum.elim (fun q : (Int32 × Int32 × Hp) => R_readDeed_l66 x1 x2 q.1 q.2.1 q.2.2) some) := lp_eq _ _
noncomputable def R_readDeed_j136 (x1 : Int32) (h : Hp) : Option Hp := (R_number h (0 : Int32) (4 : Int32) (0 : Int32)).bind fun (r8, h9) => (R_number h9 (0 : Int32) (4 : Int32) (sh (1 : Int32) r8)).bind fun (r10, h11) => (R_readDeed_j157 x1 r8 r10 h11)
noncomputable def R_readDeed (h : Hp) (x1 : Int32) : Option Hp := if x1 = (0 : Int32) then ((R_number h (0 : Int32) (4 : Int32) (0 : Int32)).bind fun (r13, h14) => (R_number h14 (0 : Int32) (7 : Int32) (0 : Int32)).bind fun (r15, h16) => bnd ((sh (1 : Int32) r15)) fun y17 => (R_readDeed_l66 x1 r13 y17 (0 : Int32) h16)) else (if x1 = (1 : Int32) then ((R_number h (0 : Int32) (7 : Int32) (0 : Int32)).bind fun (r19, h20) => (R_number h20 (0 : Int32) (9 : Int32) (0 : Int32)).bind fun (r21, h22) => (R_readDeed_j157 x1 r19 r21 h22)) else (if x1 = (2 : Int32) then ((R_readDeed_j157 x1 (-1 : Int32) (-1 : Int32) h)) else (if x1 = (3 : Int32) then ((R_number h (0 : Int32) (4 : Int32) (0 : Int32)).bind fun (r25, h26) => (R_readDeed_j157 x1 r25 (-1 : Int32) h26)) else (if x1 = (4 : Int32) then ((R_readDeed_j136 x1 h)) else (if x1 = (5 : Int32) then ((R_readDeed_j136 x1 h)) else ((R_readDeed_j157 x1 (-1 : Int32) (-1 : Int32) h)))))))
set_option maxRecDepth 100000 in
set_option maxHeartbeats 4000000 in
theorem c_R_readDeed {E : En} {d : Nat} (h : Hp) (x1 : Int32) {P : Hp → Prop} (hO : Okk (R_readDeed h x1) P) : Cn E (d + 4) z_R_readDeed [.ref 46, .int x1] h (RV P) := by
  refine cn_of (on := 4) (d := d + 3) ⟨rfl, by decide +kernel, Nat.le_of_ble_eq_true rfl⟩ (fun G hG => ?_)
  unfold R_readDeed at hO
  show G 0 [(0, .ref 46), (1, .int x1)] [] h
  have j157 : ∀ (x2 : Int32) (x3 : Int32) (h : Hp), Okk (R_readDeed_j157 x1 x2 x3 h) P → G 157 [(0, .ref 46), (1, .int x1), (2, .int x2), (3, .int x3)] [] h := by
    intro x2 x3 h hO
    unfold R_readDeed_j157 at hO
    refine rb hG 8 157 164 [.aload 0, .invokeinterface 401 7, .iload 1, .iload 2, .iload 3] [] [] [(0, .ref 46), (1, .int x1), (2, .int x2), (3, .int x3)] [.int x3, .int x2, .int x1, .ref 53] h [kd 46 = 4] (by decide +kernel) rfl kd_46 ?_
    refine rv hG z_L_add 114 3 164 53 [.int x1, .int x2, .int x3] [] (by decide +kernel) mk_L_add lk_4_114 rcv_53 rfl ⟨rfl, Nat.le_of_ble_eq_true rfl⟩ (c_L_add (d := d + 2) h 53 x1 x2 x3 (ok_bind hO)) ?_
    rintro _ h1 ⟨rfl, hO⟩
    exact eV hG 167 (by decide +kernel) rfl ⟨rfl, ok_some (Q := P) hO⟩
  have j101 : ∀ (x2 : Int32) (x3 : Int32) (h : Hp), Okk (R_readDeed_j101 x1 x2 x3 h) P → G 101 [(0, .ref 46), (1, .int x1), (2, .int x2), (3, .int x3)] [] h := by
    intro x2 x3 h hO
    unfold R_readDeed_j101 at hO
    refine rb hG 4 101 157 [] [] [] [(0, .ref 46), (1, .int x1), (2, .int x2), (3, .int x3)] [] h [] (by decide +kernel) rfl trivial ?_
    exact j157 x2 x3 h hO
  have l66 : ∀ (x2 : Int32) (x3 : Int32) (x4 : Int32) (h : Hp), Okk (R_readDeed_l66 x1 x2 x3 x4 h) P → G 66 [(0, .ref 46), (1, .int x1), (2, .int x2), (3, .int x3), (4, .int x4)] [] h := by
    intro x2 x3 x4 h hO
    obtain ⟨H66, eH66⟩ : ∃ q : (Int32 × Int32 × Hp) → Prop, q = fun s => G 66 [(0, .ref 46), (1, .int x1), (2, .int x2), (3, .int (s.1)), (4, .int (s.2.1))] [] (s.2.2) := ⟨_, rfl⟩
    have w9 : H66 (x3, x4, h) := by
      refine lp_wp (f := fun s : (Int32 × Int32 × Hp) => R_readDeed_b66 x1 x2 s.1 s.2.1 s.2.2) (H := H66) (Q := P) ?_ (x3, x4, h) hO
      rintro ⟨x3, x4, h⟩ hO
      rw [eH66]
      show G 66 [(0, .ref 46), (1, .int x1), (2, .int x2), (3, .int x3), (4, .int x4)] [] h
      have k66 : ∀ s : (Int32 × Int32 × Hp), H66 s → G 66 [(0, .ref 46), (1, .int x1), (2, .int x2), (3, .int (s.1)), (4, .int (s.2.1))] [] (s.2.2) := fun s q => by rw [eH66] at q; exact q
      replace hO : Okk (R_readDeed_b66 x1 x2 x3 x4 h) (Sum.elim H66 P) := hO
      clear eH66
      unfold R_readDeed_b66 at hO
      refine rb hG 5 66 71 [.iload 4, .ldc_w 0] [600] [] [(0, .ref 46), (1, .int x1), (2, .int x2), (3, .int x3), (4, .int x4)] [.int (600 : Int32), .int x4] h [] (by decide +kernel) rfl trivial ?_
      refine rj hG .ge (30) 101 71 (by decide +kernel) (by decide) (fun c2 => ?_) (fun c2 => ?_)
      · have hO := ok_pos c2 hO
        refine rs hG [(0, .ref 46), (1, .int x1), (2, .int x2), (3, .int x3)] [0, 1, 2, 3] rfl ?_
        exact j101 x2 x3 h (ok_inr hO)
      · have hO := ok_neg c2 hO
        refine rb hG 6 74 79 [.aload 0, .getfield 405, .ldc_w 0] [2] [] [(0, .ref 46), (1, .int x1), (2, .int x2), (3, .int x3), (4, .int x4)] [.int (2 : Int32), .int (h.1 46 5)] h [kd 46 = 4] (by decide +kernel) rfl kd_46 ?_
        refine rjN hG (22) 101 79 (by decide +kernel) (by decide) (fun c3 => ?_) (fun c3 => ?_)
        · have hO := ok_pos c3 hO
          refine rb hG 9 82 89 [.iload 3, .ldc_w 0, .aload 0, .ldc_w 1, .ldc_w 2, .iload 3] [1, 0, 7] [] [(0, .ref 46), (1, .int x1), (2, .int x2), (3, .int x3), (4, .int x4)] [.int x3, .int (7 : Int32), .int (0 : Int32), .ref 46, .int (1 : Int32), .int x3] h [] (by decide +kernel) rfl trivial ?_
          refine rv hG z_R_number 110 3 89 46 [.int (0 : Int32), .int (7 : Int32), .int x3] [.int (1 : Int32), .int x3] (by decide +kernel) mk_R_number lk_4_110 rcv_46 rfl ⟨rfl, Nat.le_of_ble_eq_true rfl⟩ (c_R_number (d := d) h (0 : Int32) (7 : Int32) x3 (ok_bind hO)) ?_
          rintro _ h5 ⟨r4, rfl, hO⟩
          refine rbx hG 6 92 95 [.ishl, .ior, .istore 3] [] [] ((x3 ||| (sh (1 : Int32) r4))) (fun y6 => [(3, .int y6), (0, .ref 46), (1, .int x1), (2, .int x2), (4, .int x4)]) (fun y6 => []) (fun y6 => h5) [] (by decide +kernel) rfl trivial hO (fun y6 hO => ?_)
          refine rbx hG 4 95 98 [.iinc 4 0] [1] [] ((x4 + (1 : Int32))) (fun y7 => [(4, .int y7), (3, .int y6), (0, .ref 46), (1, .int x1), (2, .int x2)]) (fun y7 => []) (fun y7 => h5) [] (by decide +kernel) rfl trivial hO (fun y7 hO => ?_)
          refine rb hG 4 98 66 [] [] [] [(4, .int y7), (3, .int y6), (0, .ref 46), (1, .int x1), (2, .int x2)] [] h5 [] (by decide +kernel) rfl trivial ?_
          refine rs hG [(0, .ref 46), (1, .int x1), (2, .int x2), (3, .int y6), (4, .int y7)] [2, 3, 4, 1, 0] rfl ?_
          exact k66 (y6, y7, h5) (ok_some (Q := (Sum.elim H66 P)) hO)
        · have hO := ok_neg c3 hO
          refine rs hG [(0, .ref 46), (1, .int x1), (2, .int x2), (3, .int x3)] [0, 1, 2, 3] rfl ?_
          exact j101 x2 x3 h (ok_inr hO)
    rw [eH66] at w9
    exact w9
  have j136 : ∀ (h : Hp), Okk (R_readDeed_j136 x1 h) P → G 136 [(0, .ref 46), (1, .int x1)] [] h := by
    intro h hO
    unfold R_readDeed_j136 at hO
    refine rb hG 7 136 140 [.aload 0, .ldc_w 0, .ldc_w 1, .ldc_w 0] [0, 4] [] [(0, .ref 46), (1, .int x1)] [.int (0 : Int32), .int (4 : Int32), .int (0 : Int32), .ref 46] h [] (by decide +kernel) rfl trivial ?_
    refine rv hG z_R_number 110 3 140 46 [.int (0 : Int32), .int (4 : Int32), .int (0 : Int32)] [] (by decide +kernel) mk_R_number lk_4_110 rcv_46 rfl ⟨rfl, Nat.le_of_ble_eq_true rfl⟩ (c_R_number (d := d) h (0 : Int32) (4 : Int32) (0 : Int32) (ok_bind hO)) ?_
    rintro _ h9 ⟨r8, rfl, hO⟩
    refine rb hG 10 143 150 [.istore 2, .aload 0, .ldc_w 0, .ldc_w 1, .ldc_w 2, .iload 2, .ishl] [0, 4, 1] [] [(2, .int r8), (0, .ref 46), (1, .int x1)] [.int (sh (1 : Int32) r8), .int (4 : Int32), .int (0 : Int32), .ref 46] h9 [] (by decide +kernel) rfl trivial ?_
    refine rv hG z_R_number 110 3 150 46 [.int (0 : Int32), .int (4 : Int32), .int (sh (1 : Int32) r8)] [] (by decide +kernel) mk_R_number lk_4_110 rcv_46 rfl ⟨rfl, Nat.le_of_ble_eq_true rfl⟩ (c_R_number (d := d) h9 (0 : Int32) (4 : Int32) (sh (1 : Int32) r8) (ok_bind hO)) ?_
    rintro _ h11 ⟨r10, rfl, hO⟩
    refine rb hG 5 153 157 [.istore 3] [] [] [(3, .int r10), (2, .int r8), (0, .ref 46), (1, .int x1)] [] h11 [] (by decide +kernel) rfl trivial ?_
    refine rs hG [(0, .ref 46), (1, .int x1), (2, .int r8), (3, .int r10)] [2, 3, 1, 0] rfl ?_
    exact j157 r8 r10 h11 hO
  refine rb hG 8 0 5 [.ldc_w 0, .istore 2, .ldc_w 0, .istore 3, .iload 1] [-1] [] [(3, .int (-1 : Int32)), (2, .int (-1 : Int32)), (0, .ref 46), (1, .int x1)] [.int x1] h [] (by decide +kernel) rfl trivial ?_
  refine rw9 hG (152) (0) (5) #[(39), (99), (152), (120), (131), (131)] 39 5 [44, 104, 157, 125, 136, 136] 157 (by decide +kernel) (by decide +kernel) ?_
  refine sw_c (0 : Int32) (by decide) (fun c12 => ?_) (fun c12 => ?_)
  · have hO := ok_pos c12 hO
    refine rb hG 7 44 48 [.aload 0, .ldc_w 0, .ldc_w 1, .ldc_w 0] [0, 4] [] [(3, .int (-1 : Int32)), (2, .int (-1 : Int32)), (0, .ref 46), (1, .int x1)] [.int (0 : Int32), .int (4 : Int32), .int (0 : Int32), .ref 46] h [] (by decide +kernel) rfl trivial ?_
    refine rv hG z_R_number 110 3 48 46 [.int (0 : Int32), .int (4 : Int32), .int (0 : Int32)] [] (by decide +kernel) mk_R_number lk_4_110 rcv_46 rfl ⟨rfl, Nat.le_of_ble_eq_true rfl⟩ (c_R_number (d := d) h (0 : Int32) (4 : Int32) (0 : Int32) (ok_bind hO)) ?_
    rintro _ h14 ⟨r13, rfl, hO⟩
    refine rb hG 9 51 58 [.istore 2, .ldc_w 0, .aload 0, .ldc_w 1, .ldc_w 2, .ldc_w 1] [1, 0, 7] [] [(2, .int r13), (3, .int (-1 : Int32)), (0, .ref 46), (1, .int x1)] [.int (0 : Int32), .int (7 : Int32), .int (0 : Int32), .ref 46, .int (1 : Int32)] h14 [] (by decide +kernel) rfl trivial ?_
    refine rv hG z_R_number 110 3 58 46 [.int (0 : Int32), .int (7 : Int32), .int (0 : Int32)] [.int (1 : Int32)] (by decide +kernel) mk_R_number lk_4_110 rcv_46 rfl ⟨rfl, Nat.le_of_ble_eq_true rfl⟩ (c_R_number (d := d) h14 (0 : Int32) (7 : Int32) (0 : Int32) (ok_bind hO)) ?_
    rintro _ h16 ⟨r15, rfl, hO⟩
    refine rbx hG 5 61 63 [.ishl, .istore 3] [] [] ((sh (1 : Int32) r15)) (fun y17 => [(3, .int y17), (2, .int r13), (0, .ref 46), (1, .int x1)]) (fun y17 => []) (fun y17 => h16) [] (by decide +kernel) rfl trivial hO (fun y17 hO => ?_)
    refine rb hG 5 63 66 [.ldc_w 0, .istore 4] [0] [] [(4, .int (0 : Int32)), (3, .int y17), (2, .int r13), (0, .ref 46), (1, .int x1)] [] h16 [] (by decide +kernel) rfl trivial ?_
    refine rs hG [(0, .ref 46), (1, .int x1), (2, .int r13), (3, .int y17), (4, .int (0 : Int32))] [3, 4, 2, 1, 0] rfl ?_
    exact l66 r13 y17 (0 : Int32) h16 hO
  have hO := ok_neg c12 hO
  refine sw_c (1 : Int32) (by decide) (fun c18 => ?_) (fun c18 => ?_)
  · have hO := ok_pos c18 hO
    refine rb hG 7 104 109 [.aload 0, .ldc_w 0, .ldc_w 1, .ldc_w 0] [0, 7] [] [(3, .int (-1 : Int32)), (2, .int (-1 : Int32)), (0, .ref 46), (1, .int x1)] [.int (0 : Int32), .int (7 : Int32), .int (0 : Int32), .ref 46] h [] (by decide +kernel) rfl trivial ?_
    refine rv hG z_R_number 110 3 109 46 [.int (0 : Int32), .int (7 : Int32), .int (0 : Int32)] [] (by decide +kernel) mk_R_number lk_4_110 rcv_46 rfl ⟨rfl, Nat.le_of_ble_eq_true rfl⟩ (c_R_number (d := d) h (0 : Int32) (7 : Int32) (0 : Int32) (ok_bind hO)) ?_
    rintro _ h20 ⟨r19, rfl, hO⟩
    refine rb hG 8 112 118 [.istore 2, .aload 0, .ldc_w 0, .ldc_w 1, .ldc_w 0] [0, 9] [] [(2, .int r19), (3, .int (-1 : Int32)), (0, .ref 46), (1, .int x1)] [.int (0 : Int32), .int (9 : Int32), .int (0 : Int32), .ref 46] h20 [] (by decide +kernel) rfl trivial ?_
    refine rv hG z_R_number 110 3 118 46 [.int (0 : Int32), .int (9 : Int32), .int (0 : Int32)] [] (by decide +kernel) mk_R_number lk_4_110 rcv_46 rfl ⟨rfl, Nat.le_of_ble_eq_true rfl⟩ (c_R_number (d := d) h20 (0 : Int32) (9 : Int32) (0 : Int32) (ok_bind hO)) ?_
    rintro _ h22 ⟨r21, rfl, hO⟩
    refine rb hG 5 121 157 [.istore 3] [] [] [(3, .int r21), (2, .int r19), (0, .ref 46), (1, .int x1)] [] h22 [] (by decide +kernel) rfl trivial ?_
    refine rs hG [(0, .ref 46), (1, .int x1), (2, .int r19), (3, .int r21)] [2, 3, 1, 0] rfl ?_
    exact j157 r19 r21 h22 hO
  have hO := ok_neg c18 hO
  refine sw_c (2 : Int32) (by decide) (fun c23 => ?_) (fun c23 => ?_)
  · have hO := ok_pos c23 hO
    refine rs hG [(0, .ref 46), (1, .int x1), (2, .int (-1 : Int32)), (3, .int (-1 : Int32))] [2, 3, 1, 0] rfl ?_
    exact j157 (-1 : Int32) (-1 : Int32) h hO
  have hO := ok_neg c23 hO
  refine sw_c (3 : Int32) (by decide) (fun c24 => ?_) (fun c24 => ?_)
  · have hO := ok_pos c24 hO
    refine rb hG 7 125 129 [.aload 0, .ldc_w 0, .ldc_w 1, .ldc_w 0] [0, 4] [] [(3, .int (-1 : Int32)), (2, .int (-1 : Int32)), (0, .ref 46), (1, .int x1)] [.int (0 : Int32), .int (4 : Int32), .int (0 : Int32), .ref 46] h [] (by decide +kernel) rfl trivial ?_
    refine rv hG z_R_number 110 3 129 46 [.int (0 : Int32), .int (4 : Int32), .int (0 : Int32)] [] (by decide +kernel) mk_R_number lk_4_110 rcv_46 rfl ⟨rfl, Nat.le_of_ble_eq_true rfl⟩ (c_R_number (d := d) h (0 : Int32) (4 : Int32) (0 : Int32) (ok_bind hO)) ?_
    rintro _ h26 ⟨r25, rfl, hO⟩
    refine rb hG 5 132 157 [.istore 2] [] [] [(2, .int r25), (3, .int (-1 : Int32)), (0, .ref 46), (1, .int x1)] [] h26 [] (by decide +kernel) rfl trivial ?_
    refine rs hG [(0, .ref 46), (1, .int x1), (2, .int r25), (3, .int (-1 : Int32))] [2, 3, 0, 1] rfl ?_
    exact j157 r25 (-1 : Int32) h26 hO
  have hO := ok_neg c24 hO
  refine sw_c (4 : Int32) (by decide) (fun c27 => ?_) (fun c27 => ?_)
  · have hO := ok_pos c27 hO
    refine rs hG [(0, .ref 46), (1, .int x1)] [2, 3] rfl ?_
    exact j136 h hO
  have hO := ok_neg c27 hO
  refine sw_c (5 : Int32) (by decide) (fun c28 => ?_) (fun c28 => ?_)
  · have hO := ok_pos c28 hO
    refine rs hG [(0, .ref 46), (1, .int x1)] [2, 3] rfl ?_
    exact j136 h hO
  have hO := ok_neg c28 hO
  show G 157 _ _ _
  refine rs hG [(0, .ref 46), (1, .int x1), (2, .int (-1 : Int32)), (3, .int (-1 : Int32))] [2, 3, 1, 0] rfl ?_
  exact j157 (-1 : Int32) (-1 : Int32) h hO
/-! GrainInn.Reader.readWish(I)V -/
noncomputable def R_readWish_j39 (x1 : Int32) (x2 : Int32) (s0 : Int32) (h : Hp) : Option Hp := (L_add h 53 x1 x2 s0).bind fun h1 => some h1
noncomputable def R_readWish_j18 (x1 : Int32) (x2 : Int32) (h : Hp) : Option Hp := (R_number h (0 : Int32) (9 : Int32) (0 : Int32)).bind fun (r2, h3) => (R_readWish_j39 x1 x2 r2 h3)
noncomputable def R_readWish (h : Hp) (x1 : Int32) : Option Hp := (R_number h (0 : Int32) (7 : Int32) (0 : Int32)).bind fun (r4, h5) => if x1 = 0 then ((R_readWish_j18 x1 r4 h5)) else (if x1 = (1 : Int32) then ((R_readWish_j18 x1 r4 h5)) else ((R_number h5 (0 : Int32) (7 : Int32) (sh (1 : Int32) r4)).bind fun (r8, h9) => (R_readWish_j39 x1 r4 r8 h9)))
set_option maxRecDepth 100000 in
set_option maxHeartbeats 4000000 in
theorem c_R_readWish {E : En} {d : Nat} (h : Hp) (x1 : Int32) {P : Hp → Prop} (hO : Okk (R_readWish h x1) P) : Cn E (d + 4) z_R_readWish [.ref 46, .int x1] h (RV P) := by
  refine cn_of (on := 4) (d := d + 3) ⟨rfl, by decide +kernel, Nat.le_of_ble_eq_true rfl⟩ (fun G hG => ?_)
  unfold R_readWish at hO
  show G 0 [(0, .ref 46), (1, .int x1)] [] h
  have j39 : ∀ (x2 : Int32) (s0 : Int32) (h : Hp), Okk (R_readWish_j39 x1 x2 s0 h) P → G 39 [(0, .ref 46), (1, .int x1), (2, .int x2)] [.int s0] h := by
    intro x2 s0 h hO
    unfold R_readWish_j39 at hO
    refine rb hG 9 39 47 [.istore 3, .aload 0, .invokeinterface 401 7, .iload 1, .iload 2, .iload 3] [] [] [(3, .int s0), (0, .ref 46), (1, .int x1), (2, .int x2)] [.int s0, .int x2, .int x1, .ref 53] h [kd 46 = 4] (by decide +kernel) rfl kd_46 ?_
    refine rv hG z_L_add 114 3 47 53 [.int x1, .int x2, .int s0] [] (by decide +kernel) mk_L_add lk_4_114 rcv_53 rfl ⟨rfl, Nat.le_of_ble_eq_true rfl⟩ (c_L_add (d := d + 2) h 53 x1 x2 s0 (ok_bind hO)) ?_
    rintro _ h1 ⟨rfl, hO⟩
    exact eV hG 50 (by decide +kernel) rfl ⟨rfl, ok_some (Q := P) hO⟩
  have j18 : ∀ (x2 : Int32) (h : Hp), Okk (R_readWish_j18 x1 x2 h) P → G 18 [(0, .ref 46), (1, .int x1), (2, .int x2)] [] h := by
    intro x2 h hO
    unfold R_readWish_j18 at hO
    refine rb hG 7 18 23 [.aload 0, .ldc_w 0, .ldc_w 1, .ldc_w 0] [0, 9] [] [(0, .ref 46), (1, .int x1), (2, .int x2)] [.int (0 : Int32), .int (9 : Int32), .int (0 : Int32), .ref 46] h [] (by decide +kernel) rfl trivial ?_
    refine rv hG z_R_number 110 3 23 46 [.int (0 : Int32), .int (9 : Int32), .int (0 : Int32)] [] (by decide +kernel) mk_R_number lk_4_110 rcv_46 rfl ⟨rfl, Nat.le_of_ble_eq_true rfl⟩ (c_R_number (d := d) h (0 : Int32) (9 : Int32) (0 : Int32) (ok_bind hO)) ?_
    rintro _ h3 ⟨r2, rfl, hO⟩
    refine rb hG 4 26 39 [] [] [] [(0, .ref 46), (1, .int x1), (2, .int x2)] [.int r2] h3 [] (by decide +kernel) rfl trivial ?_
    exact j39 x2 r2 h3 hO
  refine rb hG 7 0 5 [.aload 0, .ldc_w 0, .ldc_w 1, .ldc_w 0] [0, 7] [] [(0, .ref 46), (1, .int x1)] [.int (0 : Int32), .int (7 : Int32), .int (0 : Int32), .ref 46] h [] (by decide +kernel) rfl trivial ?_
  refine rv hG z_R_number 110 3 5 46 [.int (0 : Int32), .int (7 : Int32), .int (0 : Int32)] [] (by decide +kernel) mk_R_number lk_4_110 rcv_46 rfl ⟨rfl, Nat.le_of_ble_eq_true rfl⟩ (c_R_number (d := d) h (0 : Int32) (7 : Int32) (0 : Int32) (ok_bind hO)) ?_
  rintro _ h5 ⟨r4, rfl, hO⟩
  refine rb hG 5 8 10 [.istore 2, .iload 1] [] [] [(2, .int r4), (0, .ref 46), (1, .int x1)] [.int x1] h5 [] (by decide +kernel) rfl trivial ?_
  refine ri hG .eq (8) 18 10 (by decide +kernel) (by decide) (fun c6 => ?_) (fun c6 => ?_)
  · have hO := ok_pos c6 hO
    refine rs hG [(0, .ref 46), (1, .int x1), (2, .int r4)] [1, 2, 0] rfl ?_
    exact j18 r4 h5 hO
  · have hO := ok_neg c6 hO
    refine rb hG 5 13 15 [.iload 1, .ldc_w 0] [1] [] [(2, .int r4), (0, .ref 46), (1, .int x1)] [.int (1 : Int32), .int x1] h5 [] (by decide +kernel) rfl trivial ?_
    refine rjN hG (14) 29 15 (by decide +kernel) (by decide) (fun c7 => ?_) (fun c7 => ?_)
    · have hO := ok_pos c7 hO
      refine rs hG [(0, .ref 46), (1, .int x1), (2, .int r4)] [1, 2, 0] rfl ?_
      exact j18 r4 h5 hO
    · have hO := ok_neg c7 hO
      refine rb hG 9 29 36 [.aload 0, .ldc_w 0, .ldc_w 1, .ldc_w 2, .iload 2, .ishl] [0, 7, 1] [] [(2, .int r4), (0, .ref 46), (1, .int x1)] [.int (sh (1 : Int32) r4), .int (7 : Int32), .int (0 : Int32), .ref 46] h5 [] (by decide +kernel) rfl trivial ?_
      refine rv hG z_R_number 110 3 36 46 [.int (0 : Int32), .int (7 : Int32), .int (sh (1 : Int32) r4)] [] (by decide +kernel) mk_R_number lk_4_110 rcv_46 rfl ⟨rfl, Nat.le_of_ble_eq_true rfl⟩ (c_R_number (d := d) h5 (0 : Int32) (7 : Int32) (sh (1 : Int32) r4) (ok_bind hO)) ?_
      rintro _ h9 ⟨r8, rfl, hO⟩
      refine rs hG [(0, .ref 46), (1, .int x1), (2, .int r4)] [1, 2, 0] rfl ?_
      exact j39 r4 r8 h9 hO
/-! GrainInn.Reader.readLine(I)V -/
noncomputable def R_readLine_j172 (h : Hp) : Option Hp := some h
noncomputable def R_readLine_j153 (h : Hp) : Option Hp := if (h.1 46 5) = (3 : Int32) then ((R_step h).bind fun h2 => (R_readLine_j172 h2)) else ((R_breakOff h).bind fun h3 => (R_readLine_j172 h3))
noncomputable def R_readLine_j149 (s1 : Int32) (s2 : Int32) (h : Hp) : Option Hp := (L_add h 53 s1 s2 (-1 : Int32)).bind fun h4 => (R_readLine_j153 h4)
noncomputable def R_readLine_j73 (x1 : Int32) (x2 : Int32) (h : Hp) : Option Hp := (R_step h).bind fun h5 => if x1 = (0 : Int32) then ((R_readInnLine h5 x2).bind fun h7 => (R_readLine_j153 h7)) else (if x1 = (1 : Int32) then ((R_readDeed h5 x2).bind fun h9 => (R_readLine_j153 h9)) else (if x1 = (2 : Int32) then ((R_readWish h5 x2).bind fun h11 => (R_readLine_j153 h11)) else (if x2 = 0 then ((R_number h5 (0 : Int32) (7 : Int32) (0 : Int32)).bind fun (r13, h14) => (R_readLine_j149 x2 r13 h14)) else ((R_readLine_j149 x2 (-1 : Int32) h5)))))
noncomputable def R_readLine_j64 (x1 : Int32) (x2 : Int32) (h : Hp) : Option Hp := (R_note h (3 : Int32) (h.1 46 6)).bind fun h15 => (R_readLine_j73 x1 x2 h15)
noncomputable def R_readLine_j17 (x1 : Int32) (s0 : Int32) (h : Hp) : Option Hp := if s0 = (-1 : Int32) then ((R_breakOff h).bind fun h17 => some h17) else (if x1 = 0 then (if s0 = 0 then (if (h.1 47 5) = (5 : Int32) then ((R_readLine_j64 x1 s0 h)) else ((R_readLine_j73 x1 s0 h))) else ((R_readLine_j73 x1 s0 h))) else ((K_limitOf x1).bind fun r21 => if (h.1 53 3) < r21 then ((R_readLine_j73 x1 s0 h)) else ((R_readLine_j64 x1 s0 h))))
noncomputable def R_readLine (h : Hp) (x1 : Int32) : Option Hp := if (h.1 46 5) = (1 : Int32) then ((R_keyword h x1).bind fun r24 => (R_readLine_j17 x1 r24 h)) else ((R_readLine_j17 x1 (-1 : Int32) h))
set_option maxRecDepth 100000 in
set_option maxHeartbeats 4000000 in
theorem c_R_readLine {E : En} {d : Nat} (h : Hp) (x1 : Int32) {P : Hp → Prop} (hO : Okk (R_readLine h x1) P) : Cn E (d + 6) z_R_readLine [.ref 46, .int x1] h (RV P) := by
  refine cn_of (on := 4) (d := d + 5) ⟨rfl, by decide +kernel, Nat.le_of_ble_eq_true rfl⟩ (fun G hG => ?_)
  unfold R_readLine at hO
  show G 0 [(0, .ref 46), (1, .int x1)] [] h
  have j172 : ∀ (h : Hp), Okk (R_readLine_j172 h) P → G 172 [] [] h := by
    intro h hO
    unfold R_readLine_j172 at hO
    exact eV hG 172 (by decide +kernel) rfl ⟨rfl, ok_some (Q := P) hO⟩
  have j153 : ∀ (h : Hp), Okk (R_readLine_j153 h) P → G 153 [(0, .ref 46)] [] h := by
    intro h hO
    unfold R_readLine_j153 at hO
    refine rb hG 6 153 158 [.aload 0, .getfield 405, .ldc_w 0] [3] [] [(0, .ref 46)] [.int (3 : Int32), .int (h.1 46 5)] h [kd 46 = 4] (by decide +kernel) rfl kd_46 ?_
    refine rjN hG (10) 168 158 (by decide +kernel) (by decide) (fun c1 => ?_) (fun c1 => ?_)
    · have hO := ok_pos c1 hO
      refine rb hG 4 161 162 [.aload 0] [] [] [(0, .ref 46)] [.ref 46] h [] (by decide +kernel) rfl trivial ?_
      refine rv hG z_R_step 54 0 162 46 [] [] (by decide +kernel) mk_R_step lk_4_54 rcv_46 rfl ⟨rfl, Nat.le_of_ble_eq_true rfl⟩ (c_R_step (d := d + 3) h (ok_bind hO)) ?_
      rintro _ h2 ⟨rfl, hO⟩
      refine rb hG 4 165 172 [] [] [] [(0, .ref 46)] [] h2 [] (by decide +kernel) rfl trivial ?_
      refine rs hG [] [] rfl ?_
      exact j172 h2 hO
    · have hO := ok_neg c1 hO
      refine rb hG 4 168 169 [.aload 0] [] [] [(0, .ref 46)] [.ref 46] h [] (by decide +kernel) rfl trivial ?_
      refine rv hG z_R_breakOff 89 0 169 46 [] [] (by decide +kernel) mk_R_breakOff lk_4_89 rcv_46 rfl ⟨rfl, Nat.le_of_ble_eq_true rfl⟩ (c_R_breakOff (d := d + 4) h (ok_bind hO)) ?_
      rintro _ h3 ⟨rfl, hO⟩
      refine rs hG [] [] rfl ?_
      exact j172 h3 hO
  have j149 : ∀ (s1 : Int32) (s2 : Int32) (h : Hp), Okk (R_readLine_j149 s1 s2 h) P → G 149 [(0, .ref 46)] [.int s2, .int s1, .ref 53] h := by
    intro s1 s2 h hO
    unfold R_readLine_j149 at hO
    refine rb hG 4 149 150 [.ldc_w 0] [-1] [] [(0, .ref 46)] [.int (-1 : Int32), .int s2, .int s1, .ref 53] h [] (by decide +kernel) rfl trivial ?_
    refine rv hG z_L_add 114 3 150 53 [.int s1, .int s2, .int (-1 : Int32)] [] (by decide +kernel) mk_L_add lk_4_114 rcv_53 rfl ⟨rfl, Nat.le_of_ble_eq_true rfl⟩ (c_L_add (d := d + 4) h 53 s1 s2 (-1 : Int32) (ok_bind hO)) ?_
    rintro _ h4 ⟨rfl, hO⟩
    exact j153 h4 hO
  have j73 : ∀ (x2 : Int32) (h : Hp), Okk (R_readLine_j73 x1 x2 h) P → G 73 [(0, .ref 46), (1, .int x1), (2, .int x2)] [] h := by
    intro x2 h hO
    unfold R_readLine_j73 at hO
    refine rb hG 4 73 74 [.aload 0] [] [] [(0, .ref 46), (1, .int x1), (2, .int x2)] [.ref 46] h [] (by decide +kernel) rfl trivial ?_
    refine rv hG z_R_step 54 0 74 46 [] [] (by decide +kernel) mk_R_step lk_4_54 rcv_46 rfl ⟨rfl, Nat.le_of_ble_eq_true rfl⟩ (c_R_step (d := d + 3) h (ok_bind hO)) ?_
    rintro _ h5 ⟨rfl, hO⟩
    refine rb hG 4 77 78 [.iload 1] [] [] [(0, .ref 46), (1, .int x1), (2, .int x2)] [.int x1] h5 [] (by decide +kernel) rfl trivial ?_
    refine rw9 hG (50) (0) (2) #[(26), (34), (42)] 26 78 [104, 112, 120] 128 (by decide +kernel) (by decide +kernel) ?_
    refine sw_c (0 : Int32) (by decide) (fun c6 => ?_) (fun c6 => ?_)
    · have hO := ok_pos c6 hO
      refine rb hG 5 104 106 [.aload 0, .iload 2] [] [] [(0, .ref 46), (1, .int x1), (2, .int x2)] [.int x2, .ref 46] h5 [] (by decide +kernel) rfl trivial ?_
      refine rv hG z_R_readInnLine 101 1 106 46 [.int x2] [] (by decide +kernel) mk_R_readInnLine lk_4_101 rcv_46 rfl ⟨rfl, Nat.le_of_ble_eq_true rfl⟩ (c_R_readInnLine (d := d + 1) h5 x2 (ok_bind hO)) ?_
      rintro _ h7 ⟨rfl, hO⟩
      refine rb hG 4 109 153 [] [] [] [(0, .ref 46), (1, .int x1), (2, .int x2)] [] h7 [] (by decide +kernel) rfl trivial ?_
      refine rs hG [(0, .ref 46)] [0] rfl ?_
      exact j153 h7 hO
    have hO := ok_neg c6 hO
    refine sw_c (1 : Int32) (by decide) (fun c8 => ?_) (fun c8 => ?_)
    · have hO := ok_pos c8 hO
      refine rb hG 5 112 114 [.aload 0, .iload 2] [] [] [(0, .ref 46), (1, .int x1), (2, .int x2)] [.int x2, .ref 46] h5 [] (by decide +kernel) rfl trivial ?_
      refine rv hG z_R_readDeed 104 1 114 46 [.int x2] [] (by decide +kernel) mk_R_readDeed lk_4_104 rcv_46 rfl ⟨rfl, Nat.le_of_ble_eq_true rfl⟩ (c_R_readDeed (d := d + 1) h5 x2 (ok_bind hO)) ?_
      rintro _ h9 ⟨rfl, hO⟩
      refine rb hG 4 117 153 [] [] [] [(0, .ref 46), (1, .int x1), (2, .int x2)] [] h9 [] (by decide +kernel) rfl trivial ?_
      refine rs hG [(0, .ref 46)] [0] rfl ?_
      exact j153 h9 hO
    have hO := ok_neg c8 hO
    refine sw_c (2 : Int32) (by decide) (fun c10 => ?_) (fun c10 => ?_)
    · have hO := ok_pos c10 hO
      refine rb hG 5 120 122 [.aload 0, .iload 2] [] [] [(0, .ref 46), (1, .int x1), (2, .int x2)] [.int x2, .ref 46] h5 [] (by decide +kernel) rfl trivial ?_
      refine rv hG z_R_readWish 107 1 122 46 [.int x2] [] (by decide +kernel) mk_R_readWish lk_4_107 rcv_46 rfl ⟨rfl, Nat.le_of_ble_eq_true rfl⟩ (c_R_readWish (d := d + 1) h5 x2 (ok_bind hO)) ?_
      rintro _ h11 ⟨rfl, hO⟩
      refine rb hG 4 125 153 [] [] [] [(0, .ref 46), (1, .int x1), (2, .int x2)] [] h11 [] (by decide +kernel) rfl trivial ?_
      refine rs hG [(0, .ref 46)] [0] rfl ?_
      exact j153 h11 hO
    have hO := ok_neg c10 hO
    show G 128 _ _ _
    refine rb hG 7 128 134 [.aload 0, .invokeinterface 401 7, .iload 2, .iload 2] [] [] [(0, .ref 46), (1, .int x1), (2, .int x2)] [.int x2, .int x2, .ref 53] h5 [kd 46 = 4] (by decide +kernel) rfl kd_46 ?_
    refine riN hG (14) 148 134 (by decide +kernel) (by decide) (fun c12 => ?_) (fun c12 => ?_)
    · have hO := ok_pos c12 hO
      refine rb hG 7 137 142 [.aload 0, .ldc_w 0, .ldc_w 1, .ldc_w 0] [0, 7] [] [(0, .ref 46), (1, .int x1), (2, .int x2)] [.int (0 : Int32), .int (7 : Int32), .int (0 : Int32), .ref 46, .int x2, .ref 53] h5 [] (by decide +kernel) rfl trivial ?_
      refine rv hG z_R_number 110 3 142 46 [.int (0 : Int32), .int (7 : Int32), .int (0 : Int32)] [.int x2, .ref 53] (by decide +kernel) mk_R_number lk_4_110 rcv_46 rfl ⟨rfl, Nat.le_of_ble_eq_true rfl⟩ (c_R_number (d := d + 2) h5 (0 : Int32) (7 : Int32) (0 : Int32) (ok_bind hO)) ?_
      rintro _ h14 ⟨r13, rfl, hO⟩
      refine rb hG 4 145 149 [] [] [] [(0, .ref 46), (1, .int x1), (2, .int x2)] [.int r13, .int x2, .ref 53] h14 [] (by decide +kernel) rfl trivial ?_
      refine rs hG [(0, .ref 46)] [0] rfl ?_
      exact j149 x2 r13 h14 hO
    · have hO := ok_neg c12 hO
      refine rb hG 4 148 149 [.ldc_w 0] [-1] [] [(0, .ref 46), (1, .int x1), (2, .int x2)] [.int (-1 : Int32), .int x2, .ref 53] h5 [] (by decide +kernel) rfl trivial ?_
      refine rs hG [(0, .ref 46)] [0] rfl ?_
      exact j149 x2 (-1 : Int32) h5 hO
  have j64 : ∀ (x2 : Int32) (h : Hp), Okk (R_readLine_j64 x1 x2 h) P → G 64 [(0, .ref 46), (1, .int x1), (2, .int x2)] [] h := by
    intro x2 h hO
    unfold R_readLine_j64 at hO
    refine rb hG 7 64 70 [.aload 0, .ldc_w 0, .aload 0, .getfield 406] [3] [] [(0, .ref 46), (1, .int x1), (2, .int x2)] [.int (h.1 46 6), .int (3 : Int32), .ref 46] h [kd 46 = 4] (by decide +kernel) rfl kd_46 ?_
    refine rv hG z_R_note 69 2 70 46 [.int (3 : Int32), .int (h.1 46 6)] [] (by decide +kernel) mk_R_note lk_4_69 rcv_46 rfl ⟨rfl, Nat.le_of_ble_eq_true rfl⟩ (c_R_note (d := d + 4) h (3 : Int32) (h.1 46 6) (ok_bind hO)) ?_
    rintro _ h15 ⟨rfl, hO⟩
    exact j73 x2 h15 hO
  have j17 : ∀ (s0 : Int32) (h : Hp), Okk (R_readLine_j17 x1 s0 h) P → G 17 [(0, .ref 46), (1, .int x1)] [.int s0] h := by
    intro s0 h hO
    unfold R_readLine_j17 at hO
    refine rb hG 6 17 20 [.istore 2, .iload 2, .ldc_w 0] [-1] [] [(2, .int s0), (0, .ref 46), (1, .int x1)] [.int (-1 : Int32), .int s0] h [] (by decide +kernel) rfl trivial ?_
    refine rjN hG (8) 28 20 (by decide +kernel) (by decide) (fun c16 => ?_) (fun c16 => ?_)
    · have hO := ok_pos c16 hO
      refine rb hG 4 23 24 [.aload 0] [] [] [(2, .int s0), (0, .ref 46), (1, .int x1)] [.ref 46] h [] (by decide +kernel) rfl trivial ?_
      refine rv hG z_R_breakOff 89 0 24 46 [] [] (by decide +kernel) mk_R_breakOff lk_4_89 rcv_46 rfl ⟨rfl, Nat.le_of_ble_eq_true rfl⟩ (c_R_breakOff (d := d + 4) h (ok_bind hO)) ?_
      rintro _ h17 ⟨rfl, hO⟩
      exact eV hG 27 (by decide +kernel) rfl ⟨rfl, ok_some (Q := P) hO⟩
    · have hO := ok_neg c16 hO
      refine rb hG 4 28 29 [.iload 1] [] [] [(2, .int s0), (0, .ref 46), (1, .int x1)] [.int x1] h [] (by decide +kernel) rfl trivial ?_
      refine riN hG (21) 50 29 (by decide +kernel) (by decide) (fun c18 => ?_) (fun c18 => ?_)
      · have hO := ok_pos c18 hO
        refine rb hG 4 32 33 [.iload 2] [] [] [(2, .int s0), (0, .ref 46), (1, .int x1)] [.int s0] h [] (by decide +kernel) rfl trivial ?_
        refine riN hG (40) 73 33 (by decide +kernel) (by decide) (fun c19 => ?_) (fun c19 => ?_)
        · have hO := ok_pos c19 hO
          refine rb hG 7 36 44 [.aload 0, .invokeinterface 400 1, .getfield 105, .ldc_w 0] [5] [] [(2, .int s0), (0, .ref 46), (1, .int x1)] [.int (5 : Int32), .int (h.1 47 5)] h [kd 46 = 4, kd 47 = 1] (by decide +kernel) rfl ⟨kd_46, kd_47⟩ ?_
          refine rjN hG (29) 73 44 (by decide +kernel) (by decide) (fun c20 => ?_) (fun c20 => ?_)
          · have hO := ok_pos c20 hO
            refine rb hG 4 47 64 [] [] [] [(2, .int s0), (0, .ref 46), (1, .int x1)] [] h [] (by decide +kernel) rfl trivial ?_
            refine rs hG [(0, .ref 46), (1, .int x1), (2, .int s0)] [1, 2, 0] rfl ?_
            exact j64 s0 h hO
          · have hO := ok_neg c20 hO
            refine rs hG [(0, .ref 46), (1, .int x1), (2, .int s0)] [1, 2, 0] rfl ?_
            exact j73 s0 h hO
        · have hO := ok_neg c19 hO
          refine rs hG [(0, .ref 46), (1, .int x1), (2, .int s0)] [1, 2, 0] rfl ?_
          exact j73 s0 h hO
      · have hO := ok_neg c18 hO
        refine rb hG 7 50 58 [.aload 0, .invokeinterface 401 7, .getfield 203, .iload 1] [] [] [(2, .int s0), (0, .ref 46), (1, .int x1)] [.int x1, .int (h.1 53 3)] h [kd 46 = 4, kd 53 = 2] (by decide +kernel) rfl ⟨kd_46, kd_53⟩ ?_
        refine rt hG z_K_limitOf 98 1 58 [.int x1] [.int (h.1 53 3)] (by decide +kernel) mk_K_limitOf lk_4_98 rfl ⟨rfl, Nat.le_of_ble_eq_true rfl⟩ (c_K_limitOf (d := d + 4) h x1 (ok_bind hO)) ?_
        rintro _ _ ⟨r21, rfl, rfl, hO⟩
        refine rj hG .lt (12) 73 61 (by decide +kernel) (by decide) (fun c22 => ?_) (fun c22 => ?_)
        · have hO := ok_pos c22 hO
          refine rs hG [(0, .ref 46), (1, .int x1), (2, .int s0)] [1, 2, 0] rfl ?_
          exact j73 s0 h hO
        · have hO := ok_neg c22 hO
          refine rs hG [(0, .ref 46), (1, .int x1), (2, .int s0)] [1, 2, 0] rfl ?_
          exact j64 s0 h hO
  refine rb hG 6 0 5 [.aload 0, .getfield 405, .ldc_w 0] [1] [] [(0, .ref 46), (1, .int x1)] [.int (1 : Int32), .int (h.1 46 5)] h [kd 46 = 4] (by decide +kernel) rfl kd_46 ?_
  refine rjN hG (11) 16 5 (by decide +kernel) (by decide) (fun c23 => ?_) (fun c23 => ?_)
  · have hO := ok_pos c23 hO
    refine rb hG 5 8 10 [.aload 0, .iload 1] [] [] [(0, .ref 46), (1, .int x1)] [.int x1, .ref 46] h [] (by decide +kernel) rfl trivial ?_
    refine rv hG z_R_keyword 86 1 10 46 [.int x1] [] (by decide +kernel) mk_R_keyword lk_4_86 rcv_46 rfl ⟨rfl, Nat.le_of_ble_eq_true rfl⟩ (c_R_keyword (d := d) h x1 (ok_bind hO)) ?_
    rintro _ _ ⟨r24, rfl, rfl, hO⟩
    refine rb hG 4 13 17 [] [] [] [(0, .ref 46), (1, .int x1)] [.int r24] h [] (by decide +kernel) rfl trivial ?_
    exact j17 r24 h hO
  · have hO := ok_neg c23 hO
    refine rb hG 4 16 17 [.ldc_w 0] [-1] [] [(0, .ref 46), (1, .int x1)] [.int (-1 : Int32)] h [] (by decide +kernel) rfl trivial ?_
    exact j17 (-1 : Int32) h hO
/-! GrainInn.House.hasAll(I)Z -/
noncomputable def H_hasAll_j14 (x0 : Nat) (s0 : Int32) (h : Hp) : Option Int32 := if s0 = 0 ∨ s0 = 1 then (some s0) else none
noncomputable def H_hasAll (h : Hp) (x0 : Nat) (x1 : Int32) : Option Int32 := if kd x0 = 1 then (if (sr x1 (h.1 x0 6)) = 0 then ((H_hasAll_j14 x0 (1 : Int32) h)) else ((H_hasAll_j14 x0 (0 : Int32) h))) else none
set_option maxRecDepth 100000 in
set_option maxHeartbeats 4000000 in
theorem c_H_hasAll {E : En} {d : Nat} (h : Hp) (x0 : Nat) (x1 : Int32) {P : Int32 → Prop} (hO : Okk (H_hasAll h x0 x1) P) : Cn E (d + 1) z_H_hasAll [.ref x0, .int x1] h (RIp h P) := by
  refine cn_of (on := 1) (d := d + 0) ⟨rfl, by decide +kernel, Nat.le_of_ble_eq_true rfl⟩ (fun G hG => ?_)
  unfold H_hasAll at hO
  show G 0 [(0, .ref x0), (1, .int x1)] [] h
  obtain ⟨g0, hO⟩ := ok_if hO
  have j14 : ∀ (s0 : Int32), Okk (H_hasAll_j14 x0 s0 h) P → G 14 [] [.int s0] h := by
    intro s0 hO
    unfold H_hasAll_j14 at hO
    obtain ⟨g1, hO⟩ := ok_if hO
    exact eZ hG 14 (by decide +kernel) rfl g1 ⟨s0, rfl, rfl, ok_some (Q := P) hO⟩
  refine rb hG 7 0 6 [.iload 1, .aload 0, .getfield 106, .ishr] [] [] [(0, .ref x0), (1, .int x1)] [.int (sr x1 (h.1 x0 6))] h [kd x0 = 1] (by decide +kernel) rfl g0 ?_
  refine riN hG (7) 13 6 (by decide +kernel) (by decide) (fun c2 => ?_) (fun c2 => ?_)
  · have hO := ok_pos c2 hO
    refine rb hG 5 9 14 [.ldc_w 0] [1] [] [(0, .ref x0), (1, .int x1)] [.int (1 : Int32)] h [] (by decide +kernel) rfl trivial ?_
    refine rs hG [] [] rfl ?_
    exact j14 (1 : Int32) hO
  · have hO := ok_neg c2 hO
    refine rb hG 4 13 14 [.ldc_w 0] [0] [] [(0, .ref x0), (1, .int x1)] [.int (0 : Int32)] h [] (by decide +kernel) rfl trivial ?_
    refine rs hG [] [] rfl ?_
    exact j14 (0 : Int32) hO
/-! GrainInn.Reader.read(I)V -/
noncomputable def R_read_j99 (h : Hp) : Option Hp := some h
noncomputable def R_read_j73 (h : Hp) : Option Hp := (H_hasAll h 47 (h.1 46 8)).bind fun r1 => if r1 = 0 then ((R_note h (4 : Int32) (h.1 3 1)).bind fun h3 => (R_read_j99 h3)) else ((R_read_j99 h))
noncomputable def R_read_b40 (x1 : Int32) (x2 : Int32) (h : Hp) : Option ((Int32 × Hp) ⊕ Hp) := if (600 : Int32) < x2 then (((R_read_j73 h).map Sum.inr)) else (if (h.1 46 5) = 0 then (((R_read_j73 h).map Sum.inr)) else (if (h.1 46 3) = (1 : Int32) then (((R_read_j73 h).map Sum.inr)) else ((R_readLine h x1).bind fun h7 => bnd ((x2 + (1 : Int32))) fun y8 => some (.inl (y8, h7)))))
noncomputable def R_read_l40 (x1 : Int32) (x2 : Int32) (h : Hp) : Option Hp := lp (fun s : (Int32 × Hp) => R_read_b40 x1 s.1 s.2) (x2, h)
theorem R_read_l40_eq (x1 : Int32) (x2 : Int32) (h : Hp) : R_read_l40 x1 x2 h = (R_read_b40 x1 x2 h).bind (Sum.elim (fun q : (Int32 × Hp) => R_read_l40 x1 q.1 q.2) some) := lp_eq _ _
noncomputable def R_read (h : Hp) (x1 : Int32) : Option Hp := bnd (wr h 46 3 (0 : Int32)) fun h9 => bnd (wr h9 46 4 (-1 : Int32)) fun h10 => bnd (wr h10 46 7 (0 : Int32)) fun h11 => bnd (wr h11 46 8 (0 : Int32)) fun h12 => (H_clear h12 47).bind fun h13 => (L_clear h13 53).bind fun h14 => (R_step h14).bind fun h15 => (R_read_l40 x1 (0 : Int32) h15)
set_option maxRecDepth 100000 in
set_option maxHeartbeats 4000000 in
theorem c_R_read {E : En} {d : Nat} (h : Hp) (x1 : Int32) {P : Hp → Prop} (hO : Okk (R_read h x1) P) : Cn E (d + 7) z_R_read [.ref 46, .int x1] h (RV P) := by
  refine cn_of (on := 4) (d := d + 6) ⟨rfl, by decide +kernel, Nat.le_of_ble_eq_true rfl⟩ (fun G hG => ?_)
  unfold R_read at hO
  show G 0 [(0, .ref 46), (1, .int x1)] [] h
  have j99 : ∀ (h : Hp), Okk (R_read_j99 h) P → G 99 [] [] h := by
    intro h hO
    unfold R_read_j99 at hO
    exact eV hG 99 (by decide +kernel) rfl ⟨rfl, ok_some (Q := P) hO⟩
  have j73 : ∀ (h : Hp), Okk (R_read_j73 h) P → G 73 [(0, .ref 46)] [] h := by
    intro h hO
    unfold R_read_j73 at hO
    refine rb hG 7 73 81 [.aload 0, .invokeinterface 400 1, .aload 0, .getfield 408] [] [] [(0, .ref 46)] [.int (h.1 46 8), .ref 47] h [kd 46 = 4, kd 46 = 4] (by decide +kernel) rfl ⟨kd_46, kd_46⟩ ?_
    refine rv hG z_H_hasAll 60 1 81 47 [.int (h.1 46 8)] [] (by decide +kernel) mk_H_hasAll lk_4_60 rcv_47 rfl ⟨rfl, Nat.le_of_ble_eq_true rfl⟩ (c_H_hasAll (d := d + 5) h 47 (h.1 46 8) (ok_bind hO)) ?_
    rintro _ _ ⟨r1, rfl, rfl, hO⟩
    refine riN hG (15) 99 84 (by decide +kernel) (by decide) (fun c2 => ?_) (fun c2 => ?_)
    · have hO := ok_pos c2 hO
      refine rb hG 8 87 96 [.aload 0, .ldc_w 0, .aload 0, .invokeinterface 402 1003, .getfield 801] [4] [] [(0, .ref 46)] [.int (h.1 3 1), .int (4 : Int32), .ref 46] h [kd 46 = 4, kd 3 = 8] (by decide +kernel) rfl ⟨kd_46, kd_3⟩ ?_
      refine rv hG z_R_note 69 2 96 46 [.int (4 : Int32), .int (h.1 3 1)] [] (by decide +kernel) mk_R_note lk_4_69 rcv_46 rfl ⟨rfl, Nat.le_of_ble_eq_true rfl⟩ (c_R_note (d := d + 5) h (4 : Int32) (h.1 3 1) (ok_bind hO)) ?_
      rintro _ h3 ⟨rfl, hO⟩
      refine rs hG [] [] rfl ?_
      exact j99 h3 hO
    · have hO := ok_neg c2 hO
      refine rs hG [] [] rfl ?_
      exact j99 h hO
  have l40 : ∀ (x2 : Int32) (h : Hp), Okk (R_read_l40 x1 x2 h) P → G 40 [(0, .ref 46), (1, .int x1), (2, .int x2)] [] h := by
    intro x2 h hO
    obtain ⟨H40, eH40⟩ : ∃ q : (Int32 × Hp) → Prop, q = fun s => G 40 [(0, .ref 46), (1, .int x1), (2, .int (s.1))] [] (s.2) := ⟨_, rfl⟩
    have w9 : H40 (x2, h) := by
      refine lp_wp (f := fun s : (Int32 × Hp) => R_read_b40 x1 s.1 s.2) (H := H40) (Q := P) ?_ (x2, h) hO
      rintro ⟨x2, h⟩ hO
      rw [eH40]
      show G 40 [(0, .ref 46), (1, .int x1), (2, .int x2)] [] h
      have k40 : ∀ s : (Int32 × Hp), H40 s → G 40 [(0, .ref 46), (1, .int x1), (2, .int (s.1))] [] (s.2) := fun s q => by rw [eH40] at q; exact q
      replace hO : Okk (R_read_b40 x1 x2 h) (Sum.elim H40 P) := hO
      clear eH40
      unfold R_read_b40 at hO
      refine rb hG 5 40 44 [.iload 2, .ldc_w 0] [600] [] [(0, .ref 46), (1, .int x1), (2, .int x2)] [.int (600 : Int32), .int x2] h [] (by decide +kernel) rfl trivial ?_
      refine rj hG .gt (29) 73 44 (by decide +kernel) (by decide) (fun c4 => ?_) (fun c4 => ?_)
      · have hO := ok_pos c4 hO
        refine rs hG [(0, .ref 46)] [0] rfl ?_
        exact j73 h (ok_inr hO)
      · have hO := ok_neg c4 hO
        refine rb hG 5 47 51 [.aload 0, .getfield 405] [] [] [(0, .ref 46), (1, .int x1), (2, .int x2)] [.int (h.1 46 5)] h [kd 46 = 4] (by decide +kernel) rfl kd_46 ?_
        refine ri hG .eq (22) 73 51 (by decide +kernel) (by decide) (fun c5 => ?_) (fun c5 => ?_)
        · have hO := ok_pos c5 hO
          refine rs hG [(0, .ref 46)] [0] rfl ?_
          exact j73 h (ok_inr hO)
        · have hO := ok_neg c5 hO
          refine rb hG 6 54 59 [.aload 0, .getfield 403, .ldc_w 0] [1] [] [(0, .ref 46), (1, .int x1), (2, .int x2)] [.int (1 : Int32), .int (h.1 46 3)] h [kd 46 = 4] (by decide +kernel) rfl kd_46 ?_
          refine rj hG .eq (14) 73 59 (by decide +kernel) (by decide) (fun c6 => ?_) (fun c6 => ?_)
          · have hO := ok_pos c6 hO
            refine rs hG [(0, .ref 46)] [0] rfl ?_
            exact j73 h (ok_inr hO)
          · have hO := ok_neg c6 hO
            refine rb hG 5 62 64 [.aload 0, .iload 1] [] [] [(0, .ref 46), (1, .int x1), (2, .int x2)] [.int x1, .ref 46] h [] (by decide +kernel) rfl trivial ?_
            refine rv hG z_R_readLine 57 1 64 46 [.int x1] [] (by decide +kernel) mk_R_readLine lk_4_57 rcv_46 rfl ⟨rfl, Nat.le_of_ble_eq_true rfl⟩ (c_R_readLine (d := d) h x1 (ok_bind hO)) ?_
            rintro _ h7 ⟨rfl, hO⟩
            refine rbx hG 4 67 70 [.iinc 2 0] [1] [] ((x2 + (1 : Int32))) (fun y8 => [(2, .int y8), (0, .ref 46), (1, .int x1)]) (fun y8 => []) (fun y8 => h7) [] (by decide +kernel) rfl trivial hO (fun y8 hO => ?_)
            refine rb hG 4 70 40 [] [] [] [(2, .int y8), (0, .ref 46), (1, .int x1)] [] h7 [] (by decide +kernel) rfl trivial ?_
            refine rs hG [(0, .ref 46), (1, .int x1), (2, .int y8)] [1, 2, 0] rfl ?_
            exact k40 (y8, h7) (ok_some (Q := (Sum.elim H40 P)) hO)
    rw [eH40] at w9
    exact w9
  refine rbx hG 6 0 5 [.aload 0, .ldc_w 0, .putfield 403] [0] [] (wr h 46 3 (0 : Int32)) (fun h9 => [(0, .ref 46), (1, .int x1)]) (fun h9 => []) (fun h9 => h9) [kd 46 = 4] (by decide +kernel) rfl kd_46 hO (fun h9 hO => ?_)
  refine rbx hG 6 5 10 [.aload 0, .ldc_w 0, .putfield 404] [-1] [] (wr h9 46 4 (-1 : Int32)) (fun h10 => [(0, .ref 46), (1, .int x1)]) (fun h10 => []) (fun h10 => h10) [kd 46 = 4] (by decide +kernel) rfl kd_46 hO (fun h10 hO => ?_)
  refine rbx hG 6 10 15 [.aload 0, .ldc_w 0, .putfield 407] [0] [] (wr h10 46 7 (0 : Int32)) (fun h11 => [(0, .ref 46), (1, .int x1)]) (fun h11 => []) (fun h11 => h11) [kd 46 = 4] (by decide +kernel) rfl kd_46 hO (fun h11 hO => ?_)
  refine rbx hG 6 15 20 [.aload 0, .ldc_w 0, .putfield 408] [0] [] (wr h11 46 8 (0 : Int32)) (fun h12 => [(0, .ref 46), (1, .int x1)]) (fun h12 => []) (fun h12 => h12) [kd 46 = 4] (by decide +kernel) rfl kd_46 hO (fun h12 hO => ?_)
  refine rb hG 5 20 24 [.aload 0, .invokeinterface 400 1] [] [] [(0, .ref 46), (1, .int x1)] [.ref 47] h12 [kd 46 = 4] (by decide +kernel) rfl kd_46 ?_
  refine rv hG z_H_clear 50 0 24 47 [] [] (by decide +kernel) mk_H_clear lk_4_50 rcv_47 rfl ⟨rfl, Nat.le_of_ble_eq_true rfl⟩ (c_H_clear (d := d + 4) h12 47 (ok_bind hO)) ?_
  rintro _ h13 ⟨rfl, hO⟩
  refine rb hG 5 27 31 [.aload 0, .invokeinterface 401 7] [] [] [(0, .ref 46), (1, .int x1)] [.ref 53] h13 [kd 46 = 4] (by decide +kernel) rfl kd_46 ?_
  refine rv hG z_L_clear 53 0 31 53 [] [] (by decide +kernel) mk_L_clear lk_4_53 rcv_53 rfl ⟨rfl, Nat.le_of_ble_eq_true rfl⟩ (c_L_clear (d := d + 5) h13 53 (ok_bind hO)) ?_
  rintro _ h14 ⟨rfl, hO⟩
  refine rb hG 4 34 35 [.aload 0] [] [] [(0, .ref 46), (1, .int x1)] [.ref 46] h14 [] (by decide +kernel) rfl trivial ?_
  refine rv hG z_R_step 54 0 35 46 [] [] (by decide +kernel) mk_R_step lk_4_54 rcv_46 rfl ⟨rfl, Nat.le_of_ble_eq_true rfl⟩ (c_R_step (d := d + 4) h14 (ok_bind hO)) ?_
  rintro _ h15 ⟨rfl, hO⟩
  refine rb hG 5 38 40 [.ldc_w 0, .istore 2] [0] [] [(2, .int (0 : Int32)), (0, .ref 46), (1, .int x1)] [] h15 [] (by decide +kernel) rfl trivial ?_
  refine rs hG [(0, .ref 46), (1, .int x1), (2, .int (0 : Int32))] [1, 2, 0] rfl ?_
  exact l40 (0 : Int32) h15 hO
/-! GrainInn.Told.setFault(II)V -/
noncomputable def D_setFault (h : Hp) (x0 : Nat) (x1 : Int32) (x2 : Int32) : Option Hp := if kd x0 = 9 then (bnd (wr h x0 4 x1) fun h1 => bnd (wr h1 x0 5 x2) fun h2 => some h2) else none
set_option maxRecDepth 100000 in
set_option maxHeartbeats 4000000 in
theorem c_D_setFault {E : En} {d : Nat} (h : Hp) (x0 : Nat) (x1 : Int32) (x2 : Int32) {P : Hp → Prop} (hO : Okk (D_setFault h x0 x1 x2) P) : Cn E (d + 1) z_D_setFault [.ref x0, .int x1, .int x2] h (RV P) := by
  refine cn_of (on := 9) (d := d + 0) ⟨rfl, by decide +kernel, Nat.le_of_ble_eq_true rfl⟩ (fun G hG => ?_)
  unfold D_setFault at hO
  show G 0 [(0, .ref x0), (1, .int x1), (2, .int x2)] [] h
  obtain ⟨g0, hO⟩ := ok_if hO
  refine rbx hG 6 0 5 [.aload 0, .iload 1, .putfield 904] [] [] (wr h x0 4 x1) (fun h1 => [(0, .ref x0), (1, .int x1), (2, .int x2)]) (fun h1 => []) (fun h1 => h1) [kd x0 = 9] (by decide +kernel) rfl g0 hO (fun h1 hO => ?_)
  refine rbx hG 6 5 10 [.aload 0, .iload 2, .putfield 905] [] [] (wr h1 x0 5 x2) (fun h2 => [(0, .ref x0), (1, .int x1), (2, .int x2)]) (fun h2 => []) (fun h2 => h2) [kd x0 = 9] (by decide +kernel) rfl g0 hO (fun h2 hO => ?_)
  exact eV hG 10 (by decide +kernel) rfl ⟨rfl, ok_some (Q := P) hO⟩
/-! GrainInn.Told.innAt(I)LGrainInn$House; -/
noncomputable def D_innAt_j19 (x0 : Nat) (s0 : Nat) (h : Hp) : Option Nat := some s0
noncomputable def D_innAt (h : Hp) (x0 : Nat) (x1 : Int32) : Option Nat := if kd x0 = 9 then ((D_has h x0 (0 : Int32) x1).bind fun r1 => if r1 = 0 then ((D_innAt_j19 x0 0 h)) else (if (kd (x0 + 3) = 23 ∨ kd (x0 + 3) = 24 ∨ kd (x0 + 3) = 25 ∨ kd (x0 + 3) = 26) ∧ inb x1 (ln (x0 + 3)) then ((D_innAt_j19 x0 (el (x0 + 3) (Int32.toNatClampNeg x1)) h)) else none)) else none
set_option maxRecDepth 100000 in
set_option maxHeartbeats 4000000 in
theorem c_D_innAt {E : En} {d : Nat} (h : Hp) (x0 : Nat) (x1 : Int32) {P : Nat → Prop} (hO : Okk (D_innAt h x0 x1) P) : Cn E (d + 4) z_D_innAt [.ref x0, .int x1] h (RRp h P) := by
  refine cn_of (on := 9) (d := d + 3) ⟨rfl, by decide +kernel, Nat.le_of_ble_eq_true rfl⟩ (fun G hG => ?_)
  unfold D_innAt at hO
  show G 0 [(0, .ref x0), (1, .int x1)] [] h
  obtain ⟨g0, hO⟩ := ok_if hO
  have j19 : ∀ (s0 : Nat), Okk (D_innAt_j19 x0 s0 h) P → G 19 [] [.ref s0] h := by
    intro s0 hO
    unfold D_innAt_j19 at hO
    exact eR hG 19 (by decide +kernel) rfl ⟨s0, rfl, rfl, ok_some (Q := P) hO⟩
  refine rb hG 6 0 3 [.aload 0, .ldc_w 0, .iload 1] [0] [] [(0, .ref x0), (1, .int x1)] [.int x1, .int (0 : Int32), .ref x0] h [] (by decide +kernel) rfl trivial ?_
  refine rv hG z_D_has 72 2 3 x0 [.int (0 : Int32), .int x1] [] (by decide +kernel) mk_D_has lk_9_72 (rcv_D g0) rfl ⟨rfl, Nat.le_of_ble_eq_true rfl⟩ (c_D_has (d := d) h x0 (0 : Int32) x1 (ok_bind hO)) ?_
  rintro _ _ ⟨r1, rfl, rfl, hO⟩
  refine ri hG .eq (12) 18 6 (by decide +kernel) (by decide) (fun c2 => ?_) (fun c2 => ?_)
  · have hO := ok_pos c2 hO
    refine rb hG 4 18 19 [.aconst_null] [] [] [(0, .ref x0), (1, .int x1)] [.ref 0] h [] (by decide +kernel) rfl trivial ?_
    refine rs hG [] [] rfl ?_
    exact j19 0 hO
  · have hO := ok_neg c2 hO
    obtain ⟨g3, hO⟩ := ok_if hO
    refine rb hG 8 9 19 [.aload 0, .invokeinterface 901 3, .iload 1, .aaload] [] [] [(0, .ref x0), (1, .int x1)] [.ref (el (x0 + 3) (Int32.toNatClampNeg x1))] h [kd x0 = 9, (kd (x0 + 3) = 23 ∨ kd (x0 + 3) = 24 ∨ kd (x0 + 3) = 25 ∨ kd (x0 + 3) = 26) ∧ inb x1 (ln (x0 + 3))] (by decide +kernel) rfl ⟨g0, g3⟩ ?_
    refine rs hG [] [] rfl ?_
    exact j19 (el (x0 + 3) (Int32.toNatClampNeg x1)) hO
/-! GrainInn.Told.linesAt(II)LGrainInn$Lines; -/
noncomputable def D_linesAt_j27 (x0 : Nat) (s0 : Nat) (h : Hp) : Option Nat := some s0
noncomputable def D_linesAt_j26 (x0 : Nat) (h : Hp) : Option Nat := (D_linesAt_j27 x0 0 h)
noncomputable def D_linesAt (h : Hp) (x0 : Nat) (x1 : Int32) (x2 : Int32) : Option Nat := if kd x0 = 9 then (if x1 = 0 then ((D_linesAt_j26 x0 h)) else ((D_has h x0 x1 x2).bind fun r2 => if r2 = 0 then ((D_linesAt_j26 x0 h)) else (if (kd (x0 + 4) = 23 ∨ kd (x0 + 4) = 24 ∨ kd (x0 + 4) = 25 ∨ kd (x0 + 4) = 26) ∧ inb (((2 : Int32) * x1) + x2) (ln (x0 + 4)) then ((D_linesAt_j27 x0 (el (x0 + 4) (Int32.toNatClampNeg (((2 : Int32) * x1) + x2))) h)) else none))) else none
set_option maxRecDepth 100000 in
set_option maxHeartbeats 4000000 in
theorem c_D_linesAt {E : En} {d : Nat} (h : Hp) (x0 : Nat) (x1 : Int32) (x2 : Int32) {P : Nat → Prop} (hO : Okk (D_linesAt h x0 x1 x2) P) : Cn E (d + 4) z_D_linesAt [.ref x0, .int x1, .int x2] h (RRp h P) := by
  refine cn_of (on := 9) (d := d + 3) ⟨rfl, by decide +kernel, Nat.le_of_ble_eq_true rfl⟩ (fun G hG => ?_)
  unfold D_linesAt at hO
  show G 0 [(0, .ref x0), (1, .int x1), (2, .int x2)] [] h
  obtain ⟨g0, hO⟩ := ok_if hO
  have j27 : ∀ (s0 : Nat), Okk (D_linesAt_j27 x0 s0 h) P → G 27 [] [.ref s0] h := by
    intro s0 hO
    unfold D_linesAt_j27 at hO
    exact eR hG 27 (by decide +kernel) rfl ⟨s0, rfl, rfl, ok_some (Q := P) hO⟩
  have j26 : Okk (D_linesAt_j26 x0 h) P → G 26 [] [] h := by
    intro hO
    unfold D_linesAt_j26 at hO
    refine rb hG 4 26 27 [.aconst_null] [] [] [] [.ref 0] h [] (by decide +kernel) rfl trivial ?_
    exact j27 0 hO
  refine rb hG 4 0 1 [.iload 1] [] [] [(0, .ref x0), (1, .int x1), (2, .int x2)] [.int x1] h [] (by decide +kernel) rfl trivial ?_
  refine ri hG .eq (25) 26 1 (by decide +kernel) (by decide) (fun c1 => ?_) (fun c1 => ?_)
  · have hO := ok_pos c1 hO
    refine rs hG [] [] rfl ?_
    exact j26 hO
  · have hO := ok_neg c1 hO
    refine rb hG 6 4 7 [.aload 0, .iload 1, .iload 2] [] [] [(0, .ref x0), (1, .int x1), (2, .int x2)] [.int x2, .int x1, .ref x0] h [] (by decide +kernel) rfl trivial ?_
    refine rv hG z_D_has 72 2 7 x0 [.int x1, .int x2] [] (by decide +kernel) mk_D_has lk_9_72 (rcv_D g0) rfl ⟨rfl, Nat.le_of_ble_eq_true rfl⟩ (c_D_has (d := d) h x0 x1 x2 (ok_bind hO)) ?_
    rintro _ _ ⟨r2, rfl, rfl, hO⟩
    refine ri hG .eq (16) 26 10 (by decide +kernel) (by decide) (fun c3 => ?_) (fun c3 => ?_)
    · have hO := ok_pos c3 hO
      refine rs hG [] [] rfl ?_
      exact j26 hO
    · have hO := ok_neg c3 hO
      obtain ⟨g4, hO⟩ := ok_if hO
      refine rb hG 12 13 27 [.aload 0, .invokeinterface 902 4, .ldc_w 0, .iload 1, .imul, .iload 2, .iadd, .aaload] [2] [] [(0, .ref x0), (1, .int x1), (2, .int x2)] [.ref (el (x0 + 4) (Int32.toNatClampNeg (((2 : Int32) * x1) + x2)))] h [kd x0 = 9, (kd (x0 + 4) = 23 ∨ kd (x0 + 4) = 24 ∨ kd (x0 + 4) = 25 ∨ kd (x0 + 4) = 26) ∧ inb (((2 : Int32) * x1) + x2) (ln (x0 + 4))] (by decide +kernel) rfl ⟨g0, g4⟩ ?_
      refine rs hG [] [] rfl ?_
      exact j27 (el (x0 + 4) (Int32.toNatClampNeg (((2 : Int32) * x1) + x2))) hO
/-! GrainInn.Lines.has(I)Z -/
noncomputable def L_has_j17 (x0 : Nat) (s0 : Int32) (h : Hp) : Option Int32 := if s0 = 0 ∨ s0 = 1 then (some s0) else none
noncomputable def L_has_j16 (x0 : Nat) (h : Hp) : Option Int32 := (L_has_j17 x0 (0 : Int32) h)
noncomputable def L_has (h : Hp) (x0 : Nat) (x1 : Int32) : Option Int32 := if kd x0 = 2 then (if x1 < 0 then ((L_has_j16 x0 h)) else (if (h.1 x0 3) ≤ x1 then ((L_has_j16 x0 h)) else ((L_has_j17 x0 (1 : Int32) h)))) else none
set_option maxRecDepth 100000 in
set_option maxHeartbeats 4000000 in
theorem c_L_has {E : En} {d : Nat} (h : Hp) (x0 : Nat) (x1 : Int32) {P : Int32 → Prop} (hO : Okk (L_has h x0 x1) P) : Cn E (d + 1) z_L_has [.ref x0, .int x1] h (RIp h P) := by
  refine cn_of (on := 2) (d := d + 0) ⟨rfl, by decide +kernel, Nat.le_of_ble_eq_true rfl⟩ (fun G hG => ?_)
  unfold L_has at hO
  show G 0 [(0, .ref x0), (1, .int x1)] [] h
  obtain ⟨g0, hO⟩ := ok_if hO
  have j17 : ∀ (s0 : Int32), Okk (L_has_j17 x0 s0 h) P → G 17 [] [.int s0] h := by
    intro s0 hO
    unfold L_has_j17 at hO
    obtain ⟨g1, hO⟩ := ok_if hO
    exact eZ hG 17 (by decide +kernel) rfl g1 ⟨s0, rfl, rfl, ok_some (Q := P) hO⟩
  have j16 : Okk (L_has_j16 x0 h) P → G 16 [] [] h := by
    intro hO
    unfold L_has_j16 at hO
    refine rb hG 4 16 17 [.ldc_w 0] [0] [] [] [.int (0 : Int32)] h [] (by decide +kernel) rfl trivial ?_
    exact j17 (0 : Int32) hO
  refine rb hG 4 0 1 [.iload 1] [] [] [(0, .ref x0), (1, .int x1)] [.int x1] h [] (by decide +kernel) rfl trivial ?_
  refine ri hG .lt (15) 16 1 (by decide +kernel) (by decide) (fun c2 => ?_) (fun c2 => ?_)
  · have hO := ok_pos c2 hO
    refine rs hG [] [] rfl ?_
    exact j16 hO
  · have hO := ok_neg c2 hO
    refine rb hG 6 4 9 [.iload 1, .aload 0, .getfield 203] [] [] [(0, .ref x0), (1, .int x1)] [.int (h.1 x0 3), .int x1] h [kd x0 = 2] (by decide +kernel) rfl g0 ?_
    refine rj hG .ge (7) 16 9 (by decide +kernel) (by decide) (fun c3 => ?_) (fun c3 => ?_)
    · have hO := ok_pos c3 hO
      refine rs hG [] [] rfl ?_
      exact j16 hO
    · have hO := ok_neg c3 hO
      refine rb hG 5 12 17 [.ldc_w 0] [1] [] [(0, .ref x0), (1, .int x1)] [.int (1 : Int32)] h [] (by decide +kernel) rfl trivial ?_
      refine rs hG [] [] rfl ?_
      exact j17 (1 : Int32) hO
/-! GrainInn.Lines.kindOf(I)I -/
noncomputable def L_kindOf_j18 (x0 : Nat) (s0 : Int32) (h : Hp) : Option Int32 := some s0
noncomputable def L_kindOf (h : Hp) (x0 : Nat) (x1 : Int32) : Option Int32 := if kd x0 = 2 then ((L_has h x0 x1).bind fun r1 => if r1 = 0 then ((L_kindOf_j18 x0 (-1 : Int32) h)) else (if kd (x0 + 1) = 20 ∧ inb x1 (ln (x0 + 1)) then ((L_kindOf_j18 x0 (h.1 (x0 + 1) (Int32.toNatClampNeg x1)) h)) else none)) else none
set_option maxRecDepth 100000 in
set_option maxHeartbeats 4000000 in
theorem c_L_kindOf {E : En} {d : Nat} (h : Hp) (x0 : Nat) (x1 : Int32) {P : Int32 → Prop} (hO : Okk (L_kindOf h x0 x1) P) : Cn E (d + 2) z_L_kindOf [.ref x0, .int x1] h (RIp h P) := by
  refine cn_of (on := 2) (d := d + 1) ⟨rfl, by decide +kernel, Nat.le_of_ble_eq_true rfl⟩ (fun G hG => ?_)
  unfold L_kindOf at hO
  show G 0 [(0, .ref x0), (1, .int x1)] [] h
  obtain ⟨g0, hO⟩ := ok_if hO
  have j18 : ∀ (s0 : Int32), Okk (L_kindOf_j18 x0 s0 h) P → G 18 [] [.int s0] h := by
    intro s0 hO
    unfold L_kindOf_j18 at hO
    exact eI hG 18 (by decide +kernel) rfl ⟨s0, rfl, rfl, ok_some (Q := P) hO⟩
  refine rb hG 5 0 2 [.aload 0, .iload 1] [] [] [(0, .ref x0), (1, .int x1)] [.int x1, .ref x0] h [] (by decide +kernel) rfl trivial ?_
  refine rv hG z_L_has 48 1 2 x0 [.int x1] [] (by decide +kernel) mk_L_has lk_2_48 (rcv_L g0) rfl ⟨rfl, Nat.le_of_ble_eq_true rfl⟩ (c_L_has (d := d) h x0 x1 (ok_bind hO)) ?_
  rintro _ _ ⟨r1, rfl, rfl, hO⟩
  refine ri hG .eq (12) 17 5 (by decide +kernel) (by decide) (fun c2 => ?_) (fun c2 => ?_)
  · have hO := ok_pos c2 hO
    refine rb hG 4 17 18 [.ldc_w 0] [-1] [] [(0, .ref x0), (1, .int x1)] [.int (-1 : Int32)] h [] (by decide +kernel) rfl trivial ?_
    refine rs hG [] [] rfl ?_
    exact j18 (-1 : Int32) hO
  · have hO := ok_neg c2 hO
    obtain ⟨g3, hO⟩ := ok_if hO
    refine rb hG 8 8 18 [.aload 0, .invokeinterface 200 1, .iload 1, .iaload] [] [] [(0, .ref x0), (1, .int x1)] [.int (h.1 (x0 + 1) (Int32.toNatClampNeg x1))] h [kd x0 = 2, kd (x0 + 1) = 20 ∧ inb x1 (ln (x0 + 1))] (by decide +kernel) rfl ⟨g0, g3⟩ ?_
    refine rs hG [] [] rfl ?_
    exact j18 (h.1 (x0 + 1) (Int32.toNatClampNeg x1)) hO
/-! GrainInn.Lines.firstOf(I)I -/
noncomputable def L_firstOf_j18 (x0 : Nat) (s0 : Int32) (h : Hp) : Option Int32 := some s0
noncomputable def L_firstOf (h : Hp) (x0 : Nat) (x1 : Int32) : Option Int32 := if kd x0 = 2 then ((L_has h x0 x1).bind fun r1 => if r1 = 0 then ((L_firstOf_j18 x0 (-1 : Int32) h)) else (if kd (x0 + 2) = 20 ∧ inb x1 (ln (x0 + 2)) then ((L_firstOf_j18 x0 (h.1 (x0 + 2) (Int32.toNatClampNeg x1)) h)) else none)) else none
set_option maxRecDepth 100000 in
set_option maxHeartbeats 4000000 in
theorem c_L_firstOf {E : En} {d : Nat} (h : Hp) (x0 : Nat) (x1 : Int32) {P : Int32 → Prop} (hO : Okk (L_firstOf h x0 x1) P) : Cn E (d + 2) z_L_firstOf [.ref x0, .int x1] h (RIp h P) := by
  refine cn_of (on := 2) (d := d + 1) ⟨rfl, by decide +kernel, Nat.le_of_ble_eq_true rfl⟩ (fun G hG => ?_)
  unfold L_firstOf at hO
  show G 0 [(0, .ref x0), (1, .int x1)] [] h
  obtain ⟨g0, hO⟩ := ok_if hO
  have j18 : ∀ (s0 : Int32), Okk (L_firstOf_j18 x0 s0 h) P → G 18 [] [.int s0] h := by
    intro s0 hO
    unfold L_firstOf_j18 at hO
    exact eI hG 18 (by decide +kernel) rfl ⟨s0, rfl, rfl, ok_some (Q := P) hO⟩
  refine rb hG 5 0 2 [.aload 0, .iload 1] [] [] [(0, .ref x0), (1, .int x1)] [.int x1, .ref x0] h [] (by decide +kernel) rfl trivial ?_
  refine rv hG z_L_has 48 1 2 x0 [.int x1] [] (by decide +kernel) mk_L_has lk_2_48 (rcv_L g0) rfl ⟨rfl, Nat.le_of_ble_eq_true rfl⟩ (c_L_has (d := d) h x0 x1 (ok_bind hO)) ?_
  rintro _ _ ⟨r1, rfl, rfl, hO⟩
  refine ri hG .eq (12) 17 5 (by decide +kernel) (by decide) (fun c2 => ?_) (fun c2 => ?_)
  · have hO := ok_pos c2 hO
    refine rb hG 4 17 18 [.ldc_w 0] [-1] [] [(0, .ref x0), (1, .int x1)] [.int (-1 : Int32)] h [] (by decide +kernel) rfl trivial ?_
    refine rs hG [] [] rfl ?_
    exact j18 (-1 : Int32) hO
  · have hO := ok_neg c2 hO
    obtain ⟨g3, hO⟩ := ok_if hO
    refine rb hG 8 8 18 [.aload 0, .invokeinterface 201 2, .iload 1, .iaload] [] [] [(0, .ref x0), (1, .int x1)] [.int (h.1 (x0 + 2) (Int32.toNatClampNeg x1))] h [kd x0 = 2, kd (x0 + 2) = 20 ∧ inb x1 (ln (x0 + 2))] (by decide +kernel) rfl ⟨g0, g3⟩ ?_
    refine rs hG [] [] rfl ?_
    exact j18 (h.1 (x0 + 2) (Int32.toNatClampNeg x1)) hO
/-! GrainInn.Lines.secondOf(I)I -/
noncomputable def L_secondOf_j18 (x0 : Nat) (s0 : Int32) (h : Hp) : Option Int32 := some s0
noncomputable def L_secondOf (h : Hp) (x0 : Nat) (x1 : Int32) : Option Int32 := if kd x0 = 2 then ((L_has h x0 x1).bind fun r1 => if r1 = 0 then ((L_secondOf_j18 x0 (-1 : Int32) h)) else (if kd (x0 + 3) = 20 ∧ inb x1 (ln (x0 + 3)) then ((L_secondOf_j18 x0 (h.1 (x0 + 3) (Int32.toNatClampNeg x1)) h)) else none)) else none
set_option maxRecDepth 100000 in
set_option maxHeartbeats 4000000 in
theorem c_L_secondOf {E : En} {d : Nat} (h : Hp) (x0 : Nat) (x1 : Int32) {P : Int32 → Prop} (hO : Okk (L_secondOf h x0 x1) P) : Cn E (d + 2) z_L_secondOf [.ref x0, .int x1] h (RIp h P) := by
  refine cn_of (on := 2) (d := d + 1) ⟨rfl, by decide +kernel, Nat.le_of_ble_eq_true rfl⟩ (fun G hG => ?_)
  unfold L_secondOf at hO
  show G 0 [(0, .ref x0), (1, .int x1)] [] h
  obtain ⟨g0, hO⟩ := ok_if hO
  have j18 : ∀ (s0 : Int32), Okk (L_secondOf_j18 x0 s0 h) P → G 18 [] [.int s0] h := by
    intro s0 hO
    unfold L_secondOf_j18 at hO
    exact eI hG 18 (by decide +kernel) rfl ⟨s0, rfl, rfl, ok_some (Q := P) hO⟩
  refine rb hG 5 0 2 [.aload 0, .iload 1] [] [] [(0, .ref x0), (1, .int x1)] [.int x1, .ref x0] h [] (by decide +kernel) rfl trivial ?_
  refine rv hG z_L_has 48 1 2 x0 [.int x1] [] (by decide +kernel) mk_L_has lk_2_48 (rcv_L g0) rfl ⟨rfl, Nat.le_of_ble_eq_true rfl⟩ (c_L_has (d := d) h x0 x1 (ok_bind hO)) ?_
  rintro _ _ ⟨r1, rfl, rfl, hO⟩
  refine ri hG .eq (12) 17 5 (by decide +kernel) (by decide) (fun c2 => ?_) (fun c2 => ?_)
  · have hO := ok_pos c2 hO
    refine rb hG 4 17 18 [.ldc_w 0] [-1] [] [(0, .ref x0), (1, .int x1)] [.int (-1 : Int32)] h [] (by decide +kernel) rfl trivial ?_
    refine rs hG [] [] rfl ?_
    exact j18 (-1 : Int32) hO
  · have hO := ok_neg c2 hO
    obtain ⟨g3, hO⟩ := ok_if hO
    refine rb hG 8 8 18 [.aload 0, .invokeinterface 202 3, .iload 1, .iaload] [] [] [(0, .ref x0), (1, .int x1)] [.int (h.1 (x0 + 3) (Int32.toNatClampNeg x1))] h [kd x0 = 2, kd (x0 + 3) = 20 ∧ inb x1 (ln (x0 + 3))] (by decide +kernel) rfl ⟨g0, g3⟩ ?_
    refine rs hG [] [] rfl ?_
    exact j18 (h.1 (x0 + 3) (Int32.toNatClampNeg x1)) hO
/-! GrainInn.Lines.copyFrom(LGrainInn$Lines;)V -/
noncomputable def L_copyFrom_j39 (x0 : Nat) (x1 : Nat) (h : Hp) : Option Hp := some h
noncomputable def L_copyFrom_b6 (x0 : Nat) (x1 : Nat) (x2 : Int32) (h : Hp) : Option ((Int32 × Hp) ⊕ Hp) := if kd x1 = 2 then (if (h.1 x1 3) ≤ x2 then (((L_copyFrom_j39 x0 x1 h).map Sum.inr)) else ((L_kindOf h x1 x2).bind fun r3 => (L_firstOf h x1 x2).bind fun r4 => (L_secondOf h x1 x2).bind fun r5 => (L_add h x0 r3 r4 r5).bind fun h6 => bnd ((x2 + (1 : Int32))) fun y7 => some (.inl (y7, h6)))) else none
noncomputable def L_copyFrom_l6 (x0 : Nat) (x1 : Nat) (x2 : Int32) (h : Hp) : Option Hp := lp (fun s : (Int32 × Hp) => L_copyFrom_b6 x0 x1 s.1 s.2) (x2, h)
theorem L_copyFrom_l6_eq (x0 : Nat) (x1 : Nat) (x2 : Int32) (h : Hp) : L_copyFrom_l6 x0 x1 x2 h = (L_copyFrom_b6 x0 x1 x2 h).bind (Sum.elim (fun q : (Int32 × Hp) => L_copyFrom_l6 x0 x1 q.1 q.2) some) := lp_eq _ _
noncomputable def L_copyFrom (h : Hp) (x0 : Nat) (x1 : Nat) : Option Hp := if kd x0 = 2 then ((L_clear h x0).bind fun h8 => (L_copyFrom_l6 x0 x1 (0 : Int32) h8)) else none
set_option maxRecDepth 100000 in
set_option maxHeartbeats 4000000 in
theorem c_L_copyFrom {E : En} {d : Nat} (h : Hp) (x0 : Nat) (x1 : Nat) {P : Hp → Prop} (hO : Okk (L_copyFrom h x0 x1) P) : Cn E (d + 3) z_L_copyFrom [.ref x0, .ref x1] h (RV P) := by
  refine cn_of (on := 2) (d := d + 2) ⟨rfl, by decide +kernel, Nat.le_of_ble_eq_true rfl⟩ (fun G hG => ?_)
  unfold L_copyFrom at hO
  show G 0 [(0, .ref x0), (1, .ref x1)] [] h
  obtain ⟨g0, hO⟩ := ok_if hO
  have j39 : ∀ (h : Hp), Okk (L_copyFrom_j39 x0 x1 h) P → G 39 [] [] h := by
    intro h hO
    unfold L_copyFrom_j39 at hO
    exact eV hG 39 (by decide +kernel) rfl ⟨rfl, ok_some (Q := P) hO⟩
  have l6 : ∀ (x2 : Int32) (h : Hp), Okk (L_copyFrom_l6 x0 x1 x2 h) P → G 6 [(0, .ref x0), (1, .ref x1), (2, .int x2)] [] h := by
    intro x2 h hO
    obtain ⟨H6, eH6⟩ : ∃ q : (Int32 × Hp) → Prop, q = fun s => G 6 [(0, .ref x0), (1, .ref x1), (2, .int (s.1))] [] (s.2) := ⟨_, rfl⟩
    have w9 : H6 (x2, h) := by
      refine lp_wp (f := fun s : (Int32 × Hp) => L_copyFrom_b6 x0 x1 s.1 s.2) (H := H6) (Q := P) ?_ (x2, h) hO
      rintro ⟨x2, h⟩ hO
      rw [eH6]
      show G 6 [(0, .ref x0), (1, .ref x1), (2, .int x2)] [] h
      have k6 : ∀ s : (Int32 × Hp), H6 s → G 6 [(0, .ref x0), (1, .ref x1), (2, .int (s.1))] [] (s.2) := fun s q => by rw [eH6] at q; exact q
      replace hO : Okk (L_copyFrom_b6 x0 x1 x2 h) (Sum.elim H6 P) := hO
      clear eH6
      unfold L_copyFrom_b6 at hO
      obtain ⟨g1, hO⟩ := ok_if hO
      refine rb hG 6 6 11 [.iload 2, .aload 1, .getfield 203] [] [] [(0, .ref x0), (1, .ref x1), (2, .int x2)] [.int (h.1 x1 3), .int x2] h [kd x1 = 2] (by decide +kernel) rfl g1 ?_
      refine rj hG .ge (28) 39 11 (by decide +kernel) (by decide) (fun c2 => ?_) (fun c2 => ?_)
      · have hO := ok_pos c2 hO
        refine rs hG [] [] rfl ?_
        exact j39 h (ok_inr hO)
      · have hO := ok_neg c2 hO
        refine rb hG 6 14 17 [.aload 0, .aload 1, .iload 2] [] [] [(0, .ref x0), (1, .ref x1), (2, .int x2)] [.int x2, .ref x1, .ref x0] h [] (by decide +kernel) rfl trivial ?_
        refine rv hG z_L_kindOf 34 1 17 x1 [.int x2] [.ref x0] (by decide +kernel) mk_L_kindOf lk_2_34 (rcv_L g1) rfl ⟨rfl, Nat.le_of_ble_eq_true rfl⟩ (c_L_kindOf (d := d) h x1 x2 (ok_bind hO)) ?_
        rintro _ _ ⟨r3, rfl, rfl, hO⟩
        refine rb hG 5 20 22 [.aload 1, .iload 2] [] [] [(0, .ref x0), (1, .ref x1), (2, .int x2)] [.int x2, .ref x1, .int r3, .ref x0] h [] (by decide +kernel) rfl trivial ?_
        refine rv hG z_L_firstOf 38 1 22 x1 [.int x2] [.int r3, .ref x0] (by decide +kernel) mk_L_firstOf lk_2_38 (rcv_L g1) rfl ⟨rfl, Nat.le_of_ble_eq_true rfl⟩ (c_L_firstOf (d := d) h x1 x2 (ok_bind hO)) ?_
        rintro _ _ ⟨r4, rfl, rfl, hO⟩
        refine rb hG 5 25 27 [.aload 1, .iload 2] [] [] [(0, .ref x0), (1, .ref x1), (2, .int x2)] [.int x2, .ref x1, .int r4, .int r3, .ref x0] h [] (by decide +kernel) rfl trivial ?_
        refine rv hG z_L_secondOf 41 1 27 x1 [.int x2] [.int r4, .int r3, .ref x0] (by decide +kernel) mk_L_secondOf lk_2_41 (rcv_L g1) rfl ⟨rfl, Nat.le_of_ble_eq_true rfl⟩ (c_L_secondOf (d := d) h x1 x2 (ok_bind hO)) ?_
        rintro _ _ ⟨r5, rfl, rfl, hO⟩
        refine rv hG z_L_add 44 3 30 x0 [.int r3, .int r4, .int r5] [] (by decide +kernel) mk_L_add lk_2_44 (rcv_L g0) rfl ⟨rfl, Nat.le_of_ble_eq_true rfl⟩ (c_L_add (d := d + 1) h x0 r3 r4 r5 (ok_bind hO)) ?_
        rintro _ h6 ⟨rfl, hO⟩
        refine rbx hG 4 33 36 [.iinc 2 0] [1] [] ((x2 + (1 : Int32))) (fun y7 => [(2, .int y7), (0, .ref x0), (1, .ref x1)]) (fun y7 => []) (fun y7 => h6) [] (by decide +kernel) rfl trivial hO (fun y7 hO => ?_)
        refine rb hG 4 36 6 [] [] [] [(2, .int y7), (0, .ref x0), (1, .ref x1)] [] h6 [] (by decide +kernel) rfl trivial ?_
        refine rs hG [(0, .ref x0), (1, .ref x1), (2, .int y7)] [1, 2, 0] rfl ?_
        exact k6 (y7, h6) (ok_some (Q := (Sum.elim H6 P)) hO)
    rw [eH6] at w9
    exact w9
  refine rb hG 4 0 1 [.aload 0] [] [] [(0, .ref x0), (1, .ref x1)] [.ref x0] h [] (by decide +kernel) rfl trivial ?_
  refine rv hG z_L_clear 31 0 1 x0 [] [] (by decide +kernel) mk_L_clear lk_2_31 (rcv_L g0) rfl ⟨rfl, Nat.le_of_ble_eq_true rfl⟩ (c_L_clear (d := d + 1) h x0 (ok_bind hO)) ?_
  rintro _ h8 ⟨rfl, hO⟩
  refine rb hG 5 4 6 [.ldc_w 0, .istore 2] [0] [] [(2, .int (0 : Int32)), (0, .ref x0), (1, .ref x1)] [] h8 [] (by decide +kernel) rfl trivial ?_
  refine rs hG [(0, .ref x0), (1, .ref x1), (2, .int (0 : Int32))] [1, 2, 0] rfl ?_
  exact l6 (0 : Int32) h8 hO
/-! GrainInn.House.copyFrom(LGrainInn$House;)V -/
noncomputable def H_copyFrom (h : Hp) (x0 : Nat) (x1 : Nat) : Option Hp := if kd x0 = 1 then (if kd x1 = 1 then (bnd (wr h x0 5 (h.1 x1 5)) fun h2 => bnd (wr h2 x0 6 (h2.1 x1 6)) fun h3 => if (kd (x1 + 1) = 20 ∧ kd (x0 + 1) = 20) ∧ (¬ (0 : Int32) < 0 ∧ ¬ (0 : Int32) < 0 ∧ ¬ (5 : Int32) < 0) ∧ (Int32.toNatClampNeg (0 : Int32)) + (Int32.toNatClampNeg (5 : Int32)) ≤ ln (x1 + 1) ∧ (Int32.toNatClampNeg (0 : Int32)) + (Int32.toNatClampNeg (5 : Int32)) ≤ ln (x0 + 1) then (bnd (cpy h3 (x1 + 1) (Int32.toNatClampNeg (0 : Int32)) (x0 + 1) (Int32.toNatClampNeg (0 : Int32)) (Int32.toNatClampNeg (5 : Int32))) fun h5 => if (kd (x1 + 2) = 20 ∧ kd (x0 + 2) = 20) ∧ (¬ (0 : Int32) < 0 ∧ ¬ (0 : Int32) < 0 ∧ ¬ (5 : Int32) < 0) ∧ (Int32.toNatClampNeg (0 : Int32)) + (Int32.toNatClampNeg (5 : Int32)) ≤ ln (x1 + 2) ∧ (Int32.toNatClampNeg (0 : Int32)) + (Int32.toNatClampNeg (5 : Int32)) ≤ ln (x0 + 2) then (bnd (cpy h5 (x1 + 2) (Int32.toNatClampNeg (0 : Int32)) (x0 + 2) (Int32.toNatClampNeg (0 : Int32)) (Int32.toNatClampNeg (5 : Int32))) fun h7 => if (kd (x1 + 3) = 20 ∧ kd (x0 + 3) = 20) ∧ (¬ (0 : Int32) < 0 ∧ ¬ (0 : Int32) < 0 ∧ ¬ (5 : Int32) < 0) ∧ (Int32.toNatClampNeg (0 : Int32)) + (Int32.toNatClampNeg (5 : Int32)) ≤ ln (x1 + 3) ∧ (Int32.toNatClampNeg (0 : Int32)) + (Int32.toNatClampNeg (5 : Int32)) ≤ ln (x0 + 3) then (bnd (cpy h7 (x1 + 3) (Int32.toNatClampNeg (0 : Int32)) (x0 + 3) (Int32.toNatClampNeg (0 : Int32)) (Int32.toNatClampNeg (5 : Int32))) fun h9 => if (kd (x1 + 4) = 20 ∧ kd (x0 + 4) = 20) ∧ (¬ (0 : Int32) < 0 ∧ ¬ (0 : Int32) < 0 ∧ ¬ (8 : Int32) < 0) ∧ (Int32.toNatClampNeg (0 : Int32)) + (Int32.toNatClampNeg (8 : Int32)) ≤ ln (x1 + 4) ∧ (Int32.toNatClampNeg (0 : Int32)) + (Int32.toNatClampNeg (8 : Int32)) ≤ ln (x0 + 4) then (bnd (cpy h9 (x1 + 4) (Int32.toNatClampNeg (0 : Int32)) (x0 + 4) (Int32.toNatClampNeg (0 : Int32)) (Int32.toNatClampNeg (8 : Int32))) fun h11 => if (kd (x1 + 5) = 20 ∧ kd (x0 + 5) = 20) ∧ (¬ (0 : Int32) < 0 ∧ ¬ (0 : Int32) < 0 ∧ ¬ (8 : Int32) < 0) ∧ (Int32.toNatClampNeg (0 : Int32)) + (Int32.toNatClampNeg (8 : Int32)) ≤ ln (x1 + 5) ∧ (Int32.toNatClampNeg (0 : Int32)) + (Int32.toNatClampNeg (8 : Int32)) ≤ ln (x0 + 5) then (bnd (cpy h11 (x1 + 5) (Int32.toNatClampNeg (0 : Int32)) (x0 + 5) (Int32.toNatClampNeg (0 : Int32)) (Int32.toNatClampNeg (8 : Int32))) fun h13 => some h13) else none) else none) else none) else none) else none) else none) else none
set_option maxRecDepth 100000 in
set_option maxHeartbeats 4000000 in
theorem c_H_copyFrom {E : En} {d : Nat} (h : Hp) (x0 : Nat) (x1 : Nat) {P : Hp → Prop} (hO : Okk (H_copyFrom h x0 x1) P) : Cn E (d + 1) z_H_copyFrom [.ref x0, .ref x1] h (RV P) := by
  refine cn_of (on := 1) (d := d + 0) ⟨rfl, by decide +kernel, Nat.le_of_ble_eq_true rfl⟩ (fun G hG => ?_)
  unfold H_copyFrom at hO
  show G 0 [(0, .ref x0), (1, .ref x1)] [] h
  obtain ⟨g0, hO⟩ := ok_if hO
  obtain ⟨g1, hO⟩ := ok_if hO
  refine rbx hG 7 0 8 [.aload 0, .aload 1, .getfield 105, .putfield 105] [] [] (wr h x0 5 (h.1 x1 5)) (fun h2 => [(0, .ref x0), (1, .ref x1)]) (fun h2 => []) (fun h2 => h2) [kd x1 = 1, kd x0 = 1] (by decide +kernel) rfl ⟨g1, g0⟩ hO (fun h2 hO => ?_)
  refine rbx hG 7 8 16 [.aload 0, .aload 1, .getfield 106, .putfield 106] [] [] (wr h2 x0 6 (h2.1 x1 6)) (fun h3 => [(0, .ref x0), (1, .ref x1)]) (fun h3 => []) (fun h3 => h3) [kd x1 = 1, kd x0 = 1] (by decide +kernel) rfl ⟨g1, g0⟩ hO (fun h3 hO => ?_)
  obtain ⟨g4, hO⟩ := ok_if hO
  refine rbx hG 11 16 30 [.aload 1, .invokeinterface 100 1, .ldc_w 0, .aload 0, .invokeinterface 100 1, .ldc_w 0, .ldc_w 1, .invokestatic 3] [0, 5] [] (cpy h3 (x1 + 1) (Int32.toNatClampNeg (0 : Int32)) (x0 + 1) (Int32.toNatClampNeg (0 : Int32)) (Int32.toNatClampNeg (5 : Int32))) (fun h5 => [(0, .ref x0), (1, .ref x1)]) (fun h5 => []) (fun h5 => h5) [kd x1 = 1, kd x0 = 1, sm [] ≤ 8 ∧ (kd (x1 + 1) = 20 ∧ kd (x0 + 1) = 20) ∧ (¬ (0 : Int32) < 0 ∧ ¬ (0 : Int32) < 0 ∧ ¬ (5 : Int32) < 0) ∧ (Int32.toNatClampNeg (0 : Int32)) + (Int32.toNatClampNeg (5 : Int32)) ≤ ln (x1 + 1) ∧ (Int32.toNatClampNeg (0 : Int32)) + (Int32.toNatClampNeg (5 : Int32)) ≤ ln (x0 + 1)] (by decide +kernel) rfl ⟨g1, g0, ⟨Nat.le_of_ble_eq_true rfl, g4⟩⟩ hO (fun h5 hO => ?_)
  obtain ⟨g6, hO⟩ := ok_if hO
  refine rbx hG 11 30 44 [.aload 1, .invokeinterface 101 2, .ldc_w 0, .aload 0, .invokeinterface 101 2, .ldc_w 0, .ldc_w 1, .invokestatic 3] [0, 5] [] (cpy h5 (x1 + 2) (Int32.toNatClampNeg (0 : Int32)) (x0 + 2) (Int32.toNatClampNeg (0 : Int32)) (Int32.toNatClampNeg (5 : Int32))) (fun h7 => [(0, .ref x0), (1, .ref x1)]) (fun h7 => []) (fun h7 => h7) [kd x1 = 1, kd x0 = 1, sm [] ≤ 8 ∧ (kd (x1 + 2) = 20 ∧ kd (x0 + 2) = 20) ∧ (¬ (0 : Int32) < 0 ∧ ¬ (0 : Int32) < 0 ∧ ¬ (5 : Int32) < 0) ∧ (Int32.toNatClampNeg (0 : Int32)) + (Int32.toNatClampNeg (5 : Int32)) ≤ ln (x1 + 2) ∧ (Int32.toNatClampNeg (0 : Int32)) + (Int32.toNatClampNeg (5 : Int32)) ≤ ln (x0 + 2)] (by decide +kernel) rfl ⟨g1, g0, ⟨Nat.le_of_ble_eq_true rfl, g6⟩⟩ hO (fun h7 hO => ?_)
  obtain ⟨g8, hO⟩ := ok_if hO
  refine rbx hG 11 44 58 [.aload 1, .invokeinterface 102 3, .ldc_w 0, .aload 0, .invokeinterface 102 3, .ldc_w 0, .ldc_w 1, .invokestatic 3] [0, 5] [] (cpy h7 (x1 + 3) (Int32.toNatClampNeg (0 : Int32)) (x0 + 3) (Int32.toNatClampNeg (0 : Int32)) (Int32.toNatClampNeg (5 : Int32))) (fun h9 => [(0, .ref x0), (1, .ref x1)]) (fun h9 => []) (fun h9 => h9) [kd x1 = 1, kd x0 = 1, sm [] ≤ 8 ∧ (kd (x1 + 3) = 20 ∧ kd (x0 + 3) = 20) ∧ (¬ (0 : Int32) < 0 ∧ ¬ (0 : Int32) < 0 ∧ ¬ (5 : Int32) < 0) ∧ (Int32.toNatClampNeg (0 : Int32)) + (Int32.toNatClampNeg (5 : Int32)) ≤ ln (x1 + 3) ∧ (Int32.toNatClampNeg (0 : Int32)) + (Int32.toNatClampNeg (5 : Int32)) ≤ ln (x0 + 3)] (by decide +kernel) rfl ⟨g1, g0, ⟨Nat.le_of_ble_eq_true rfl, g8⟩⟩ hO (fun h9 hO => ?_)
  obtain ⟨g10, hO⟩ := ok_if hO
  refine rbx hG 11 58 73 [.aload 1, .invokeinterface 103 4, .ldc_w 0, .aload 0, .invokeinterface 103 4, .ldc_w 0, .ldc_w 1, .invokestatic 3] [0, 8] [] (cpy h9 (x1 + 4) (Int32.toNatClampNeg (0 : Int32)) (x0 + 4) (Int32.toNatClampNeg (0 : Int32)) (Int32.toNatClampNeg (8 : Int32))) (fun h11 => [(0, .ref x0), (1, .ref x1)]) (fun h11 => []) (fun h11 => h11) [kd x1 = 1, kd x0 = 1, sm [] ≤ 8 ∧ (kd (x1 + 4) = 20 ∧ kd (x0 + 4) = 20) ∧ (¬ (0 : Int32) < 0 ∧ ¬ (0 : Int32) < 0 ∧ ¬ (8 : Int32) < 0) ∧ (Int32.toNatClampNeg (0 : Int32)) + (Int32.toNatClampNeg (8 : Int32)) ≤ ln (x1 + 4) ∧ (Int32.toNatClampNeg (0 : Int32)) + (Int32.toNatClampNeg (8 : Int32)) ≤ ln (x0 + 4)] (by decide +kernel) rfl ⟨g1, g0, ⟨Nat.le_of_ble_eq_true rfl, g10⟩⟩ hO (fun h11 hO => ?_)
  obtain ⟨g12, hO⟩ := ok_if hO
  refine rbx hG 11 73 88 [.aload 1, .invokeinterface 104 5, .ldc_w 0, .aload 0, .invokeinterface 104 5, .ldc_w 0, .ldc_w 1, .invokestatic 3] [0, 8] [] (cpy h11 (x1 + 5) (Int32.toNatClampNeg (0 : Int32)) (x0 + 5) (Int32.toNatClampNeg (0 : Int32)) (Int32.toNatClampNeg (8 : Int32))) (fun h13 => [(0, .ref x0), (1, .ref x1)]) (fun h13 => []) (fun h13 => h13) [kd x1 = 1, kd x0 = 1, sm [] ≤ 8 ∧ (kd (x1 + 5) = 20 ∧ kd (x0 + 5) = 20) ∧ (¬ (0 : Int32) < 0 ∧ ¬ (0 : Int32) < 0 ∧ ¬ (8 : Int32) < 0) ∧ (Int32.toNatClampNeg (0 : Int32)) + (Int32.toNatClampNeg (8 : Int32)) ≤ ln (x1 + 5) ∧ (Int32.toNatClampNeg (0 : Int32)) + (Int32.toNatClampNeg (8 : Int32)) ≤ ln (x0 + 5)] (by decide +kernel) rfl ⟨g1, g0, ⟨Nat.le_of_ble_eq_true rfl, g12⟩⟩ hO (fun h13 hO => ?_)
  exact eV hG 88 (by decide +kernel) rfl ⟨rfl, ok_some (Q := P) hO⟩
/-! GrainInn.Told.keep(IILGrainInn$Reader;)I -/
noncomputable def D_keep_j86 (x0 : Nat) (x3 : Nat) (x4 : Int32) (h : Hp) : Option (Int32 × Hp) := some (x4, h)
noncomputable def D_keep_j38 (x0 : Nat) (x3 : Nat) (x1 : Int32) (x4 : Int32) (h : Hp) : Option (Int32 × Hp) := (D_innAt h x0 x4).bind fun r1 => (D_linesAt h x0 x1 x4).bind fun r2 => if r2 = 0 then (if r1 = 0 then ((D_keep_j86 x0 x3 x4 h)) else (if x3 = 46 then (if kd r1 = 1 then ((H_copyFrom h r1 47).bind fun h7 => (D_keep_j86 x0 x3 x4 h7)) else none) else none)) else (if x3 = 46 then (if kd r2 = 2 then ((L_copyFrom h r2 53).bind fun h10 => (D_keep_j86 x0 x3 x4 h10)) else none) else none)
noncomputable def D_keep (h : Hp) (x0 : Nat) (x1 : Int32) (x2 : Int32) (x3 : Nat) : Option (Int32 × Hp) := if kd x0 = 9 then ((D_hasPlace h x0 x1 x2).bind fun r11 => if r11 = 0 then (some ((-2 : Int32), h)) else (if x2 = (-1 : Int32) then (if kd (x0 + 5) = 20 ∧ inb x1 (ln (x0 + 5)) then (bnd ((h.1 (x0 + 5) (Int32.toNatClampNeg x1))) fun y15 => if kd (x0 + 5) = 20 ∧ inb x1 (ln (x0 + 5)) then (if kd (x0 + 5) = 20 ∧ inb x1 (ln (x0 + 5)) then (bnd (wr h (x0 + 5) (Int32.toNatClampNeg x1) ((h.1 (x0 + 5) (Int32.toNatClampNeg x1)) + (1 : Int32))) fun h18 => (D_keep_j38 x0 x3 x1 y15 h18)) else none) else none) else none) else ((D_keep_j38 x0 x3 x1 x2 h)))) else none
set_option maxRecDepth 100000 in
set_option maxHeartbeats 4000000 in
theorem c_D_keep {E : En} {d : Nat} (h : Hp) (x0 : Nat) (x1 : Int32) (x2 : Int32) (x3 : Nat) {P : (Int32 × Hp) → Prop} (hO : Okk (D_keep h x0 x1 x2 x3) P) : Cn E (d + 5) z_D_keep [.ref x0, .int x1, .int x2, .ref x3] h (RI P) := by
  refine cn_of (on := 9) (d := d + 4) ⟨rfl, by decide +kernel, Nat.le_of_ble_eq_true rfl⟩ (fun G hG => ?_)
  unfold D_keep at hO
  show G 0 [(0, .ref x0), (1, .int x1), (2, .int x2), (3, .ref x3)] [] h
  obtain ⟨g0, hO⟩ := ok_if hO
  have j86 : ∀ (x4 : Int32) (h : Hp), Okk (D_keep_j86 x0 x3 x4 h) P → G 86 [(4, .int x4)] [] h := by
    intro x4 h hO
    unfold D_keep_j86 at hO
    refine rb hG 4 86 88 [.iload 4] [] [] [(4, .int x4)] [.int x4] h [] (by decide +kernel) rfl trivial ?_
    exact eI hG 88 (by decide +kernel) rfl ⟨x4, rfl, ok_some (Q := P) hO⟩
  have j38 : ∀ (x4 : Int32) (h : Hp), Okk (D_keep_j38 x0 x3 x1 x4 h) P → G 38 [(0, .ref x0), (1, .int x1), (3, .ref x3), (4, .int x4)] [] h := by
    intro x4 h hO
    unfold D_keep_j38 at hO
    refine rb hG 5 38 41 [.aload 0, .iload 4] [] [] [(0, .ref x0), (1, .int x1), (3, .ref x3), (4, .int x4)] [.int x4, .ref x0] h [] (by decide +kernel) rfl trivial ?_
    refine rv hG z_D_innAt 79 1 41 x0 [.int x4] [] (by decide +kernel) mk_D_innAt lk_9_79 (rcv_D g0) rfl ⟨rfl, Nat.le_of_ble_eq_true rfl⟩ (c_D_innAt (d := d) h x0 x4 (ok_bind hO)) ?_
    rintro _ _ ⟨r1, rfl, rfl, hO⟩
    refine rb hG 7 44 50 [.astore 5, .aload 0, .iload 1, .iload 4] [] [] [(5, .ref r1), (0, .ref x0), (1, .int x1), (3, .ref x3), (4, .int x4)] [.int x4, .int x1, .ref x0] h [] (by decide +kernel) rfl trivial ?_
    refine rv hG z_D_linesAt 83 2 50 x0 [.int x1, .int x4] [] (by decide +kernel) mk_D_linesAt lk_9_83 (rcv_D g0) rfl ⟨rfl, Nat.le_of_ble_eq_true rfl⟩ (c_D_linesAt (d := d) h x0 x1 x4 (ok_bind hO)) ?_
    rintro _ _ ⟨r2, rfl, rfl, hO⟩
    refine rb hG 5 53 57 [.astore 6, .aload 6] [] [] [(6, .ref r2), (5, .ref r1), (0, .ref x0), (1, .int x1), (3, .ref x3), (4, .int x4)] [.ref r2] h [] (by decide +kernel) rfl trivial ?_
    refine rn hG (15) 72 57 (by decide +kernel) (by decide) (fun c3 => ?_) (fun c3 => ?_)
    · have hO := ok_pos c3 hO
      refine rb hG 4 72 74 [.aload 5] [] [] [(6, .ref r2), (5, .ref r1), (0, .ref x0), (1, .int x1), (3, .ref x3), (4, .int x4)] [.ref r1] h [] (by decide +kernel) rfl trivial ?_
      refine rn hG (12) 86 74 (by decide +kernel) (by decide) (fun c4 => ?_) (fun c4 => ?_)
      · have hO := ok_pos c4 hO
        refine rs hG [(4, .int x4)] [5] rfl ?_
        exact j86 x4 h hO
      · have hO := ok_neg c4 hO
        obtain ⟨g5, hOg5⟩ := ok_if hO
        subst g5
        have hO := hOg5
        obtain ⟨g6, hO⟩ := ok_if hO
        refine rb hG 6 77 83 [.aload 5, .aload 3, .invokeinterface 400 1] [] [] [(6, .ref r2), (5, .ref r1), (0, .ref x0), (1, .int x1), (3, .ref 46), (4, .int x4)] [.ref 47, .ref r1] h [kd 46 = 4] (by decide +kernel) rfl kd_46 ?_
        refine rv hG z_H_copyFrom 59 1 83 r1 [.ref 47] [] (by decide +kernel) mk_H_copyFrom lk_9_59 (rcv_H g6) rfl ⟨rfl, Nat.le_of_ble_eq_true rfl⟩ (c_H_copyFrom (d := d + 3) h r1 47 (ok_bind hO)) ?_
        rintro _ h7 ⟨rfl, hO⟩
        refine rs hG [(4, .int x4)] [5] rfl ?_
        exact j86 x4 h7 hO
    · have hO := ok_neg c3 hO
      obtain ⟨g8, hOg8⟩ := ok_if hO
      subst g8
      have hO := hOg8
      obtain ⟨g9, hO⟩ := ok_if hO
      refine rb hG 6 60 66 [.aload 6, .aload 3, .invokeinterface 401 7] [] [] [(6, .ref r2), (5, .ref r1), (0, .ref x0), (1, .int x1), (3, .ref 46), (4, .int x4)] [.ref 53, .ref r2] h [kd 46 = 4] (by decide +kernel) rfl kd_46 ?_
      refine rv hG z_L_copyFrom 62 1 66 r2 [.ref 53] [] (by decide +kernel) mk_L_copyFrom lk_9_62 (rcv_L g9) rfl ⟨rfl, Nat.le_of_ble_eq_true rfl⟩ (c_L_copyFrom (d := d + 1) h r2 53 (ok_bind hO)) ?_
      rintro _ h10 ⟨rfl, hO⟩
      refine rb hG 4 69 86 [] [] [] [(6, .ref r2), (5, .ref r1), (0, .ref x0), (1, .int x1), (3, .ref 46), (4, .int x4)] [] h10 [] (by decide +kernel) rfl trivial ?_
      refine rs hG [(4, .int x4)] [5] rfl ?_
      exact j86 x4 h10 hO
  refine rb hG 6 0 3 [.aload 0, .iload 1, .iload 2] [] [] [(0, .ref x0), (1, .int x1), (2, .int x2), (3, .ref x3)] [.int x2, .int x1, .ref x0] h [] (by decide +kernel) rfl trivial ?_
  refine rv hG z_D_hasPlace 76 2 3 x0 [.int x1, .int x2] [] (by decide +kernel) mk_D_hasPlace lk_9_76 (rcv_D g0) rfl ⟨rfl, Nat.le_of_ble_eq_true rfl⟩ (c_D_hasPlace (d := d) h x0 x1 x2 (ok_bind hO)) ?_
  rintro _ _ ⟨r11, rfl, rfl, hO⟩
  refine riN hG (6) 12 6 (by decide +kernel) (by decide) (fun c12 => ?_) (fun c12 => ?_)
  · have hO := ok_pos c12 hO
    refine rb hG 4 9 11 [.ldc_w 0] [-2] [] [(0, .ref x0), (1, .int x1), (2, .int x2), (3, .ref x3)] [.int (-2 : Int32)] h [] (by decide +kernel) rfl trivial ?_
    exact eI hG 11 (by decide +kernel) rfl ⟨(-2 : Int32), rfl, ok_some (Q := P) hO⟩
  · have hO := ok_neg c12 hO
    refine rb hG 7 12 17 [.iload 2, .istore 4, .iload 2, .ldc_w 0] [-1] [] [(4, .int x2), (0, .ref x0), (1, .int x1), (2, .int x2), (3, .ref x3)] [.int (-1 : Int32), .int x2] h [] (by decide +kernel) rfl trivial ?_
    refine rjN hG (21) 38 17 (by decide +kernel) (by decide) (fun c13 => ?_) (fun c13 => ?_)
    · have hO := ok_pos c13 hO
      obtain ⟨g14, hO⟩ := ok_if hO
      refine rbx hG 8 20 28 [.aload 0, .invokeinterface 903 5, .iload 1, .iaload, .istore 4] [] [] ((h.1 (x0 + 5) (Int32.toNatClampNeg x1))) (fun y15 => [(4, .int y15), (0, .ref x0), (1, .int x1), (2, .int x2), (3, .ref x3)]) (fun y15 => []) (fun y15 => h) [kd x0 = 9, kd (x0 + 5) = 20 ∧ inb x1 (ln (x0 + 5))] (by decide +kernel) rfl ⟨g0, g14⟩ hO (fun y15 hO => ?_)
      obtain ⟨g16, hO⟩ := ok_if hO
      obtain ⟨g17, hO⟩ := ok_if hO
      refine rbx hG 11 28 38 [.aload 0, .invokeinterface 903 5, .iload 1, .dup2, .iaload, .ldc_w 0, .iadd, .iastore] [1] [] (wr h (x0 + 5) (Int32.toNatClampNeg x1) ((h.1 (x0 + 5) (Int32.toNatClampNeg x1)) + (1 : Int32))) (fun h18 => [(4, .int y15), (0, .ref x0), (1, .int x1), (2, .int x2), (3, .ref x3)]) (fun h18 => []) (fun h18 => h18) [kd x0 = 9, kd (x0 + 5) = 20 ∧ inb x1 (ln (x0 + 5)), kd (x0 + 5) = 20 ∧ inb x1 (ln (x0 + 5))] (by decide +kernel) rfl ⟨g0, g16, g17⟩ hO (fun h18 hO => ?_)
      refine rs hG [(0, .ref x0), (1, .int x1), (3, .ref x3), (4, .int y15)] [1, 2, 4, 0] rfl ?_
      exact j38 y15 h18 hO
    · have hO := ok_neg c13 hO
      refine rs hG [(0, .ref x0), (1, .int x1), (3, .ref x3), (4, .int x2)] [1, 2, 4, 0] rfl ?_
      exact j38 x2 h hO
/-! GrainInn.text(II)I -/
noncomputable def K_text_j84 (x3 : Int32) (h : Hp) : Option (Int32 × Hp) := (T_cutTo h 3 (0 : Int32)).bind fun (r1, h2) => some (x3, h2)
noncomputable def K_text_j71 (s0 : Int32) (h : Hp) : Option (Int32 × Hp) := (K_text_j84 s0 h)
noncomputable def K_text (h : Hp) (x1 : Int32) (x2 : Int32) : Option (Int32 × Hp) := (D_hasPlace h 2 x1 x2).bind fun r3 => if r3 = 0 then ((D_setFault h 2 (0 : Int32) (-1 : Int32)).bind fun h5 => (K_text_j84 (-2 : Int32) h5)) else ((R_read h x1).bind fun h6 => (D_setFault h6 2 (h6.1 46 3) (h6.1 46 4)).bind fun h7 => if (h7.1 46 3) = 0 then ((D_keep h7 2 x1 x2 46).bind fun (r9, h10) => (K_text_j71 r9 h10)) else ((K_text_j71 (-1 : Int32) h7)))
set_option maxRecDepth 100000 in
set_option maxHeartbeats 4000000 in
theorem c_K_text {E : En} {d : Nat} (h : Hp) (x1 : Int32) (x2 : Int32) {P : (Int32 × Hp) → Prop} (hO : Okk (K_text h x1 x2) P) : Cn E (d + 8) z_K_text [.ref 1, .int x1, .int x2] h (RI P) := by
  refine cn_of (on := 11) (d := d + 7) ⟨rfl, by decide +kernel, Nat.le_of_ble_eq_true rfl⟩ (fun G hG => ?_)
  unfold K_text at hO
  show G 0 [(0, .ref 1), (1, .int x1), (2, .int x2)] [] h
  have j84 : ∀ (x3 : Int32) (h : Hp), Okk (K_text_j84 x3 h) P → G 84 [(0, .ref 1), (3, .int x3)] [] h := by
    intro x3 h hO
    unfold K_text_j84 at hO
    refine rb hG 7 84 92 [.aload 0, .invokeinterface 1100 1, .invokeinterface 900 1, .ldc_w 0] [0] [] [(0, .ref 1), (3, .int x3)] [.int (0 : Int32), .ref 3] h [kd 1 = 11, kd 2 = 9] (by decide +kernel) rfl ⟨kd_1, kd_2⟩ ?_
    refine rv hG z_T_cutTo 78 1 92 3 [.int (0 : Int32)] [] (by decide +kernel) mk_T_cutTo lk_11_78 rcv_3 rfl ⟨rfl, Nat.le_of_ble_eq_true rfl⟩ (c_T_cutTo (d := d + 6) h 3 (0 : Int32) (ok_bind hO)) ?_
    rintro _ h2 ⟨r1, rfl, hO⟩
    refine rb hG 5 95 97 [.pop, .iload 3] [] [] [(0, .ref 1), (3, .int x3)] [.int x3] h2 [] (by decide +kernel) rfl trivial ?_
    exact eI hG 97 (by decide +kernel) rfl ⟨x3, rfl, ok_some (Q := P) hO⟩
  have j71 : ∀ (s0 : Int32) (h : Hp), Okk (K_text_j71 s0 h) P → G 71 [(0, .ref 1)] [.int s0] h := by
    intro s0 h hO
    unfold K_text_j71 at hO
    refine rb hG 5 71 84 [.istore 3] [] [] [(3, .int s0), (0, .ref 1)] [] h [] (by decide +kernel) rfl trivial ?_
    refine rs hG [(0, .ref 1), (3, .int s0)] [1, 0] rfl ?_
    exact j84 s0 h hO
  refine rb hG 9 0 9 [.ldc_w 0, .istore 3, .aload 0, .invokeinterface 1100 1, .iload 1, .iload 2] [-2] [] [(3, .int (-2 : Int32)), (0, .ref 1), (1, .int x1), (2, .int x2)] [.int x2, .int x1, .ref 2] h [kd 1 = 11] (by decide +kernel) rfl kd_1 ?_
  refine rv hG z_D_hasPlace 82 2 9 2 [.int x1, .int x2] [] (by decide +kernel) mk_D_hasPlace lk_11_82 rcv_2 rfl ⟨rfl, Nat.le_of_ble_eq_true rfl⟩ (c_D_hasPlace (d := d + 3) h 2 x1 x2 (ok_bind hO)) ?_
  rintro _ _ ⟨r3, rfl, rfl, hO⟩
  refine ri hG .eq (63) 75 12 (by decide +kernel) (by decide) (fun c4 => ?_) (fun c4 => ?_)
  · have hO := ok_pos c4 hO
    refine rb hG 7 75 81 [.aload 0, .invokeinterface 1100 1, .ldc_w 0, .ldc_w 1] [0, -1] [] [(3, .int (-2 : Int32)), (0, .ref 1), (1, .int x1), (2, .int x2)] [.int (-1 : Int32), .int (0 : Int32), .ref 2] h [kd 1 = 11] (by decide +kernel) rfl kd_1 ?_
    refine rv hG z_D_setFault 97 2 81 2 [.int (0 : Int32), .int (-1 : Int32)] [] (by decide +kernel) mk_D_setFault lk_11_97 rcv_2 rfl ⟨rfl, Nat.le_of_ble_eq_true rfl⟩ (c_D_setFault (d := d + 6) h 2 (0 : Int32) (-1 : Int32) (ok_bind hO)) ?_
    rintro _ h5 ⟨rfl, hO⟩
    refine rs hG [(0, .ref 1), (3, .int (-2 : Int32))] [1, 0] rfl ?_
    exact j84 (-2 : Int32) h5 hO
  · have hO := ok_neg c4 hO
    refine rb hG 6 15 20 [.aload 0, .invokeinterface 1103 45, .iload 1] [] [] [(3, .int (-2 : Int32)), (0, .ref 1), (1, .int x1), (2, .int x2)] [.int x1, .ref 46] h [kd 1 = 11] (by decide +kernel) rfl kd_1 ?_
    refine rv hG z_R_read 86 1 20 46 [.int x1] [] (by decide +kernel) mk_R_read lk_11_86 rcv_46 rfl ⟨rfl, Nat.le_of_ble_eq_true rfl⟩ (c_R_read (d := d) h x1 (ok_bind hO)) ?_
    rintro _ h6 ⟨rfl, hO⟩
    refine rb hG 11 23 41 [.aload 0, .invokeinterface 1100 1, .aload 0, .invokeinterface 1103 45, .getfield 403, .aload 0, .invokeinterface 1103 45, .getfield 404] [] [] [(3, .int (-2 : Int32)), (0, .ref 1), (1, .int x1), (2, .int x2)] [.int (h6.1 46 4), .int (h6.1 46 3), .ref 2] h6 [kd 1 = 11, kd 1 = 11, kd 46 = 4, kd 1 = 11, kd 46 = 4] (by decide +kernel) rfl ⟨kd_1, kd_1, kd_46, kd_1, kd_46⟩ ?_
    refine rv hG z_D_setFault 97 2 41 2 [.int (h6.1 46 3), .int (h6.1 46 4)] [] (by decide +kernel) mk_D_setFault lk_11_97 rcv_2 rfl ⟨rfl, Nat.le_of_ble_eq_true rfl⟩ (c_D_setFault (d := d + 6) h6 2 (h6.1 46 3) (h6.1 46 4) (ok_bind hO)) ?_
    rintro _ h7 ⟨rfl, hO⟩
    refine rb hG 6 44 51 [.aload 0, .invokeinterface 1103 45, .getfield 403] [] [] [(3, .int (-2 : Int32)), (0, .ref 1), (1, .int x1), (2, .int x2)] [.int (h7.1 46 3)] h7 [kd 1 = 11, kd 46 = 4] (by decide +kernel) rfl ⟨kd_1, kd_46⟩ ?_
    refine riN hG (19) 70 51 (by decide +kernel) (by decide) (fun c8 => ?_) (fun c8 => ?_)
    · have hO := ok_pos c8 hO
      refine rb hG 9 54 64 [.aload 0, .invokeinterface 1100 1, .iload 1, .iload 2, .aload 0, .invokeinterface 1103 45] [] [] [(3, .int (-2 : Int32)), (0, .ref 1), (1, .int x1), (2, .int x2)] [.ref 46, .int x2, .int x1, .ref 2] h7 [kd 1 = 11, kd 1 = 11] (by decide +kernel) rfl ⟨kd_1, kd_1⟩ ?_
      refine rv hG z_D_keep 101 3 64 2 [.int x1, .int x2, .ref 46] [] (by decide +kernel) mk_D_keep lk_11_101 rcv_2 rfl ⟨rfl, Nat.le_of_ble_eq_true rfl⟩ (c_D_keep (d := d + 2) h7 2 x1 x2 46 (ok_bind hO)) ?_
      rintro _ h10 ⟨r9, rfl, hO⟩
      refine rb hG 4 67 71 [] [] [] [(3, .int (-2 : Int32)), (0, .ref 1), (1, .int x1), (2, .int x2)] [.int r9] h10 [] (by decide +kernel) rfl trivial ?_
      refine rs hG [(0, .ref 1)] [1] rfl ?_
      exact j71 r9 h10 hO
    · have hO := ok_neg c8 hO
      refine rb hG 4 70 71 [.ldc_w 0] [-1] [] [(3, .int (-2 : Int32)), (0, .ref 1), (1, .int x1), (2, .int x2)] [.int (-1 : Int32)] h7 [] (by decide +kernel) rfl trivial ?_
      refine rs hG [(0, .ref 1)] [1] rfl ?_
      exact j71 (-1 : Int32) h7 hO
/-! GrainInnModel.is(II)Z -/
noncomputable def M_is (h : Hp) (x1 : Int32) (x2 : Int32) : Option Int32 := if inb x1 (ln 256) then ((M_in x2 (0 : Int32) ((h.1 256 (Int32.toNatClampNeg x1)) - (1 : Int32))).bind fun r2 => if r2 = 0 ∨ r2 = 1 then (some r2) else none) else none
set_option maxRecDepth 100000 in
set_option maxHeartbeats 4000000 in
theorem c_M_is {E : En} {d : Nat} (h : Hp) (x1 : Int32) (x2 : Int32) {P : Int32 → Prop} (hO : Okk (M_is h x1 x2) P) : Cn E (d + 2) z_M_is [.ref 251, .int x1, .int x2] h (RIp h P) := by
  refine cn_of (on := 12) (d := d + 1) ⟨rfl, by decide +kernel, Nat.le_of_ble_eq_true rfl⟩ (fun G hG => ?_)
  unfold M_is at hO
  show G 0 [(0, .ref 251), (1, .int x1), (2, .int x2)] [] h
  obtain ⟨g1, hO⟩ := ok_if hO
  refine rb hG 11 0 10 [.iload 2, .ldc_w 0, .aload 0, .invokeinterface 1205 5, .iload 1, .iaload, .ldc_w 1, .isub] [0, 1] [] [(0, .ref 251), (1, .int x1), (2, .int x2)] [.int ((h.1 256 (Int32.toNatClampNeg x1)) - (1 : Int32)), .int (0 : Int32), .int x2] h [kd 251 = 12, kd 256 = 20 ∧ inb x1 (ln 256)] (by decide +kernel) rfl ⟨kd_251, ⟨kd_256, g1⟩⟩ ?_
  refine rt hG z_M_in 111 3 10 [.int x2, .int (0 : Int32), .int ((h.1 256 (Int32.toNatClampNeg x1)) - (1 : Int32))] [] (by decide +kernel) mk_M_in lk_12_111 rfl ⟨rfl, Nat.le_of_ble_eq_true rfl⟩ (c_M_in (d := d) h x2 (0 : Int32) ((h.1 256 (Int32.toNatClampNeg x1)) - (1 : Int32)) (ok_bind hO)) ?_
  rintro _ _ ⟨r2, rfl, rfl, hO⟩
  obtain ⟨g3, hO⟩ := ok_if hO
  exact eZ hG 13 (by decide +kernel) rfl g3 ⟨r2, rfl, rfl, ok_some (Q := P) hO⟩
/-! GrainInnModel.see()I -/
noncomputable def M_see_j28 (s0 : Int32) (h : Hp) : Option Int32 := some s0
noncomputable def M_see (h : Hp) : Option Int32 := if (h.1 251 11) ≤ (h.1 251 10) then ((M_see_j28 (-1 : Int32) h)) else (if inb (h.1 251 10) (ln 252) then ((M_see_j28 ((h.1 252 (Int32.toNatClampNeg (h.1 251 10))) &&& (255 : Int32)) h)) else none)
set_option maxRecDepth 100000 in
set_option maxHeartbeats 4000000 in
theorem c_M_see {E : En} {d : Nat} (h : Hp) {P : Int32 → Prop} (hO : Okk (M_see h) P) : Cn E (d + 1) z_M_see [.ref 251] h (RIp h P) := by
  refine cn_of (on := 12) (d := d + 0) ⟨rfl, by decide +kernel, Nat.le_of_ble_eq_true rfl⟩ (fun G hG => ?_)
  unfold M_see at hO
  show G 0 [(0, .ref 251)] [] h
  have j28 : ∀ (s0 : Int32), Okk (M_see_j28 s0 h) P → G 28 [] [.int s0] h := by
    intro s0 hO
    unfold M_see_j28 at hO
    exact eI hG 28 (by decide +kernel) rfl ⟨s0, rfl, rfl, ok_some (Q := P) hO⟩
  refine rb hG 7 0 8 [.aload 0, .getfield 1210, .aload 0, .getfield 1211] [] [] [(0, .ref 251)] [.int (h.1 251 11), .int (h.1 251 10)] h [kd 251 = 12, kd 251 = 12] (by decide +kernel) rfl ⟨kd_251, kd_251⟩ ?_
  refine rj hG .ge (19) 27 8 (by decide +kernel) (by decide) (fun c1 => ?_) (fun c1 => ?_)
  · have hO := ok_pos c1 hO
    refine rb hG 4 27 28 [.ldc_w 0] [-1] [] [(0, .ref 251)] [.int (-1 : Int32)] h [] (by decide +kernel) rfl trivial ?_
    refine rs hG [] [] rfl ?_
    exact j28 (-1 : Int32) hO
  · have hO := ok_neg c1 hO
    obtain ⟨g2, hO⟩ := ok_if hO
    refine rb hG 11 11 28 [.aload 0, .invokeinterface 1201 1, .aload 0, .getfield 1210, .baload, .ldc_w 0, .iand] [255] [] [(0, .ref 251)] [.int ((h.1 252 (Int32.toNatClampNeg (h.1 251 10))) &&& (255 : Int32))] h [kd 251 = 12, kd 251 = 12, (kd 252 = 21 ∨ kd 252 = 22) ∧ inb (h.1 251 10) (ln 252)] (by decide +kernel) rfl ⟨kd_251, kd_251, ⟨Or.inl kd_252, g2⟩⟩ ?_
    refine rs hG [] [] rfl ?_
    exact j28 ((h.1 252 (Int32.toNatClampNeg (h.1 251 10))) &&& (255 : Int32)) hO
/-! GrainInnModel.token()V -/
noncomputable def M_token_j18 (h : Hp) : Option ((Hp) ⊕ Hp) := bnd (wr h 251 10 ((h.1 251 10) + (1 : Int32))) fun h1 => some (.inl h1)
noncomputable def M_token_j266 (h : Hp) : Option Hp := some h
noncomputable def M_token_j263 (s1 : Int32) (h : Hp) : Option Hp := bnd (wr h 251 13 s1) fun h2 => (M_token_j266 h2)
noncomputable def M_token_j235 (s1 : Int32) (h : Hp) : Option Hp := bnd (wr h 251 13 s1) fun h3 => (M_token_j266 h3)
noncomputable def M_token_j224 (x2 : Int32) (h : Hp) : Option Hp := if x2 ≤ (2 : Int32) then ((M_token_j235 (3 : Int32) h)) else ((M_token_j235 (1 : Int32) h))
noncomputable def M_token_j205 (x2 : Int32) (s1 : Int32) (h : Hp) : Option ((Int32 × Hp) ⊕ Hp) := bnd (wr h 251 14 s1) fun h5 => bnd (wr h5 251 10 ((h5.1 251 10) + (1 : Int32))) fun h6 => bnd ((x2 + (1 : Int32))) fun y7 => some (.inl (y7, h6))
noncomputable def M_token_b163 (x2 : Int32) (h : Hp) : Option ((Int32 × Hp) ⊕ Hp) := (M_see h).bind fun r8 => (M_in r8 (48 : Int32) (57 : Int32)).bind fun r9 => if r9 = 0 then (((M_token_j224 x2 h).map Sum.inr)) else (if (2 : Int32) ≤ x2 then ((M_token_j205 x2 (h.1 251 14) h)) else ((M_see h).bind fun r12 => (M_token_j205 x2 ((((10 : Int32) * (h.1 251 14)) + r12) - (48 : Int32)) h)))
noncomputable def M_token_l163 (x2 : Int32) (h : Hp) : Option Hp := lp (fun s : (Int32 × Hp) => M_token_b163 s.1 s.2) (x2, h)
theorem M_token_l163_eq (x2 : Int32) (h : Hp) : M_token_l163 x2 h = (M_token_b163 x2 h).bind (Sum.elim (fun q : (Int32 × Hp) => M_token_l163 q.1 q.2) some) := lp_eq _ _
noncomputable def M_token_j136 (s1 : Int64) (h : Hp) : Option Hp := bnd (wL h s1) fun h13 => bnd (wr h13 251 13 (2 : Int32)) fun h14 => (M_token_j266 h14)
noncomputable def M_token_j121 (x2 : Int32) (h : Hp) : Option Hp := if x2 ≤ (8 : Int32) then ((M_token_j136 h.2 h)) else ((M_token_j136 (0 : Int64) h))
noncomputable def M_token_b74 (x2 : Int32) (h : Hp) : Option ((Int32 × Hp) ⊕ Hp) := (M_see h).bind fun r16 => (M_in r16 (97 : Int32) (122 : Int32)).bind fun r17 => if r17 = 0 then (((M_token_j121 x2 h).map Sum.inr)) else ((M_see h).bind fun r19 => bnd (wL h ((h.2 <<< (Int32.toInt64 (8 : Int32) &&& 63)) ||| (Int32.toInt64 r19))) fun h20 => bnd (wr h20 251 10 ((h20.1 251 10) + (1 : Int32))) fun h21 => bnd ((x2 + (1 : Int32))) fun y22 => some (.inl (y22, h21)))
noncomputable def M_token_l74 (x2 : Int32) (h : Hp) : Option Hp := lp (fun s : (Int32 × Hp) => M_token_b74 s.1 s.2) (x2, h)
theorem M_token_l74_eq (x2 : Int32) (h : Hp) : M_token_l74 x2 h = (M_token_b74 x2 h).bind (Sum.elim (fun q : (Int32 × Hp) => M_token_l74 q.1 q.2) some) := lp_eq _ _
noncomputable def M_token_j31 (h : Hp) : Option Hp := bnd (wr h 251 12 (h.1 251 10)) fun h23 => (M_see h23).bind fun r24 => bnd (wL h23 (0 : Int64)) fun h25 => if 0 ≤ r24 then ((M_in r24 (97 : Int32) (122 : Int32)).bind fun r27 => if r27 = 0 then ((M_in r24 (48 : Int32) (57 : Int32)).bind fun r29 => if r29 = 0 then (bnd (wr h25 251 10 ((h25.1 251 10) + (1 : Int32))) fun h31 => if r24 = (59 : Int32) then ((M_token_j263 (4 : Int32) h31)) else ((M_token_j263 (1 : Int32) h31))) else (bnd (wr h25 251 14 (0 : Int32)) fun h33 => (M_token_l163 (0 : Int32) h33))) else ((M_token_l74 (0 : Int32) h25))) else (bnd (wr h25 251 13 (0 : Int32)) fun h34 => (M_token_j266 h34))
noncomputable def M_token_b0 (h : Hp) : Option ((Hp) ⊕ Hp) := (M_see h).bind fun r35 => if r35 = (10 : Int32) then ((M_token_j18 h)) else ((M_see h).bind fun r37 => if r37 = (32 : Int32) then ((M_token_j18 h)) else (((M_token_j31 h).map Sum.inr)))
noncomputable def M_token_l0 (h : Hp) : Option Hp := lp (fun s : (Hp) => M_token_b0 s) (h)
theorem M_token_l0_eq (h : Hp) : M_token_l0 h = (M_token_b0 h).bind (Sum.elim (fun q : (Hp) => M_token_l0 q) some) := lp_eq _ _
noncomputable def M_token (h : Hp) : Option Hp := (M_token_l0 h)
set_option maxRecDepth 100000 in
set_option maxHeartbeats 4000000 in
theorem c_M_token {E : En} {d : Nat} (h : Hp) {P : Hp → Prop} (hO : Okk (M_token h) P) : Cn E (d + 2) z_M_token [.ref 251] h (RV P) := by
  refine cn_of (on := 12) (d := d + 1) ⟨rfl, by decide +kernel, Nat.le_of_ble_eq_true rfl⟩ (fun G hG => ?_)
  unfold M_token at hO
  show G 0 [(0, .ref 251)] [] h
  have j266 : ∀ (h : Hp), Okk (M_token_j266 h) P → G 266 [] [] h := by
    intro h hO
    unfold M_token_j266 at hO
    exact eV hG 266 (by decide +kernel) rfl ⟨rfl, ok_some (Q := P) hO⟩
  have j263 : ∀ (s1 : Int32) (h : Hp), Okk (M_token_j263 s1 h) P → G 263 [] [.int s1, .ref 251] h := by
    intro s1 h hO
    unfold M_token_j263 at hO
    refine rbx hG 4 263 266 [.putfield 1213] [] [] (wr h 251 13 s1) (fun h2 => []) (fun h2 => []) (fun h2 => h2) [kd 251 = 12] (by decide +kernel) rfl kd_251 hO (fun h2 hO => ?_)
    exact j266 h2 hO
  have j235 : ∀ (s1 : Int32) (h : Hp), Okk (M_token_j235 s1 h) P → G 235 [] [.int s1, .ref 251] h := by
    intro s1 h hO
    unfold M_token_j235 at hO
    refine rbx hG 4 235 238 [.putfield 1213] [] [] (wr h 251 13 s1) (fun h3 => []) (fun h3 => []) (fun h3 => h3) [kd 251 = 12] (by decide +kernel) rfl kd_251 hO (fun h3 hO => ?_)
    refine rb hG 4 238 266 [] [] [] [] [] h3 [] (by decide +kernel) rfl trivial ?_
    exact j266 h3 hO
  have j224 : ∀ (x2 : Int32) (h : Hp), Okk (M_token_j224 x2 h) P → G 224 [(0, .ref 251), (2, .int x2)] [] h := by
    intro x2 h hO
    unfold M_token_j224 at hO
    refine rb hG 6 224 227 [.aload 0, .iload 2, .ldc_w 0] [2] [] [(0, .ref 251), (2, .int x2)] [.int (2 : Int32), .int x2, .ref 251] h [] (by decide +kernel) rfl trivial ?_
    refine rj hG .le (7) 234 227 (by decide +kernel) (by decide) (fun c4 => ?_) (fun c4 => ?_)
    · have hO := ok_pos c4 hO
      refine rb hG 4 234 235 [.ldc_w 0] [3] [] [(0, .ref 251), (2, .int x2)] [.int (3 : Int32), .ref 251] h [] (by decide +kernel) rfl trivial ?_
      refine rs hG [] [] rfl ?_
      exact j235 (3 : Int32) h hO
    · have hO := ok_neg c4 hO
      refine rb hG 5 230 235 [.ldc_w 0] [1] [] [(0, .ref 251), (2, .int x2)] [.int (1 : Int32), .ref 251] h [] (by decide +kernel) rfl trivial ?_
      refine rs hG [] [] rfl ?_
      exact j235 (1 : Int32) h hO
  have l163 : ∀ (x2 : Int32) (h : Hp), Okk (M_token_l163 x2 h) P → G 163 [(0, .ref 251), (2, .int x2)] [] h := by
    intro x2 h hO
    obtain ⟨H163, eH163⟩ : ∃ q : (Int32 × Hp) → Prop, q = fun s => G 163 [(0, .ref 251), (2, .int (s.1))] [] (s.2) := ⟨_, rfl⟩
    have w9 : H163 (x2, h) := by
      refine lp_wp (f := fun s : (Int32 × Hp) => M_token_b163 s.1 s.2) (H := H163) (Q := P) ?_ (x2, h) hO
      rintro ⟨x2, h⟩ hO
      rw [eH163]
      show G 163 [(0, .ref 251), (2, .int x2)] [] h
      have k163 : ∀ s : (Int32 × Hp), H163 s → G 163 [(0, .ref 251), (2, .int (s.1))] [] (s.2) := fun s q => by rw [eH163] at q; exact q
      replace hO : Okk (M_token_b163 x2 h) (Sum.elim H163 P) := hO
      clear eH163
      have j205 : ∀ (x2 : Int32) (s1 : Int32) (h : Hp), Okk (M_token_j205 x2 s1 h) (Sum.elim H163 P) → G 205 [(0, .ref 251), (2, .int x2)] [.int s1, .ref 251] h := by
        intro x2 s1 h hO
        unfold M_token_j205 at hO
        refine rbx hG 4 205 208 [.putfield 1214] [] [] (wr h 251 14 s1) (fun h5 => [(0, .ref 251), (2, .int x2)]) (fun h5 => []) (fun h5 => h5) [kd 251 = 12] (by decide +kernel) rfl kd_251 hO (fun h5 hO => ?_)
        refine rbx hG 9 208 218 [.aload 0, .dup, .getfield 1210, .ldc_w 0, .iadd, .putfield 1210] [1] [] (wr h5 251 10 ((h5.1 251 10) + (1 : Int32))) (fun h6 => [(0, .ref 251), (2, .int x2)]) (fun h6 => []) (fun h6 => h6) [kd 251 = 12, kd 251 = 12] (by decide +kernel) rfl ⟨kd_251, kd_251⟩ hO (fun h6 hO => ?_)
        refine rbx hG 4 218 221 [.iinc 2 0] [1] [] ((x2 + (1 : Int32))) (fun y7 => [(2, .int y7), (0, .ref 251)]) (fun y7 => []) (fun y7 => h6) [] (by decide +kernel) rfl trivial hO (fun y7 hO => ?_)
        refine rb hG 4 221 163 [] [] [] [(2, .int y7), (0, .ref 251)] [] h6 [] (by decide +kernel) rfl trivial ?_
        refine rs hG [(0, .ref 251), (2, .int y7)] [1, 0] rfl ?_
        exact k163 (y7, h6) (ok_some (Q := (Sum.elim H163 P)) hO)
      unfold M_token_b163 at hO
      refine rb hG 4 163 164 [.aload 0] [] [] [(0, .ref 251), (2, .int x2)] [.ref 251] h [] (by decide +kernel) rfl trivial ?_
      refine rv hG z_M_see 125 0 164 251 [] [] (by decide +kernel) mk_M_see lk_12_125 rcv_251 rfl ⟨rfl, Nat.le_of_ble_eq_true rfl⟩ (c_M_see (d := d) h (ok_bind hO)) ?_
      rintro _ _ ⟨r8, rfl, rfl, hO⟩
      refine rb hG 5 167 171 [.ldc_w 0, .ldc_w 1] [48, 57] [] [(0, .ref 251), (2, .int x2)] [.int (57 : Int32), .int (48 : Int32), .int r8] h [] (by decide +kernel) rfl trivial ?_
      refine rt hG z_M_in 111 3 171 [.int r8, .int (48 : Int32), .int (57 : Int32)] [] (by decide +kernel) mk_M_in lk_12_111 rfl ⟨rfl, Nat.le_of_ble_eq_true rfl⟩ (c_M_in (d := d) h r8 (48 : Int32) (57 : Int32) (ok_bind hO)) ?_
      rintro _ _ ⟨r9, rfl, rfl, hO⟩
      refine ri hG .eq (50) 224 174 (by decide +kernel) (by decide) (fun c10 => ?_) (fun c10 => ?_)
      · have hO := ok_pos c10 hO
        exact j224 x2 h (ok_inr hO)
      · have hO := ok_neg c10 hO
        refine rb hG 6 177 180 [.aload 0, .iload 2, .ldc_w 0] [2] [] [(0, .ref 251), (2, .int x2)] [.int (2 : Int32), .int x2, .ref 251] h [] (by decide +kernel) rfl trivial ?_
        refine rj hG .ge (21) 201 180 (by decide +kernel) (by decide) (fun c11 => ?_) (fun c11 => ?_)
        · have hO := ok_pos c11 hO
          refine rb hG 5 201 205 [.aload 0, .getfield 1214] [] [] [(0, .ref 251), (2, .int x2)] [.int (h.1 251 14), .ref 251] h [kd 251 = 12] (by decide +kernel) rfl kd_251 ?_
          exact j205 x2 (h.1 251 14) h hO
        · have hO := ok_neg c11 hO
          refine rb hG 8 183 191 [.ldc_w 0, .aload 0, .getfield 1214, .imul, .aload 0] [10] [] [(0, .ref 251), (2, .int x2)] [.ref 251, .int ((10 : Int32) * (h.1 251 14)), .ref 251] h [kd 251 = 12] (by decide +kernel) rfl kd_251 ?_
          refine rv hG z_M_see 125 0 191 251 [] [.int ((10 : Int32) * (h.1 251 14)), .ref 251] (by decide +kernel) mk_M_see lk_12_125 rcv_251 rfl ⟨rfl, Nat.le_of_ble_eq_true rfl⟩ (c_M_see (d := d) h (ok_bind hO)) ?_
          rintro _ _ ⟨r12, rfl, rfl, hO⟩
          refine rb hG 7 194 205 [.iadd, .ldc_w 0, .isub] [48] [] [(0, .ref 251), (2, .int x2)] [.int ((((10 : Int32) * (h.1 251 14)) + r12) - (48 : Int32)), .ref 251] h [] (by decide +kernel) rfl trivial ?_
          exact j205 x2 ((((10 : Int32) * (h.1 251 14)) + r12) - (48 : Int32)) h hO
    rw [eH163] at w9
    exact w9
  have j136 : ∀ (s1 : Int64) (h : Hp), Okk (M_token_j136 s1 h) P → G 136 [(0, .ref 251)] [.long s1, .ref 251] h := by
    intro s1 h hO
    unfold M_token_j136 at hO
    refine rbx hG 4 136 139 [.putstatic 1215] [] [] (wL h s1) (fun h13 => [(0, .ref 251)]) (fun h13 => []) (fun h13 => h13) [kd 251 = 12] (by decide +kernel) rfl kd_251 hO (fun h13 hO => ?_)
    refine rbx hG 6 139 144 [.aload 0, .ldc_w 0, .putfield 1213] [2] [] (wr h13 251 13 (2 : Int32)) (fun h14 => [(0, .ref 251)]) (fun h14 => []) (fun h14 => h14) [kd 251 = 12] (by decide +kernel) rfl kd_251 hO (fun h14 hO => ?_)
    refine rb hG 4 144 266 [] [] [] [(0, .ref 251)] [] h14 [] (by decide +kernel) rfl trivial ?_
    refine rs hG [] [] rfl ?_
    exact j266 h14 hO
  have j121 : ∀ (x2 : Int32) (h : Hp), Okk (M_token_j121 x2 h) P → G 121 [(0, .ref 251), (2, .int x2)] [] h := by
    intro x2 h hO
    unfold M_token_j121 at hO
    refine rb hG 6 121 125 [.aload 0, .iload 2, .ldc_w 0] [8] [] [(0, .ref 251), (2, .int x2)] [.int (8 : Int32), .int x2, .ref 251] h [] (by decide +kernel) rfl trivial ?_
    refine rj hG .le (7) 132 125 (by decide +kernel) (by decide) (fun c15 => ?_) (fun c15 => ?_)
    · have hO := ok_pos c15 hO
      refine rb hG 5 132 136 [.aload 0, .getstatic 1215] [] [] [(0, .ref 251), (2, .int x2)] [.long h.2, .ref 251] h [kd 251 = 12] (by decide +kernel) rfl kd_251 ?_
      refine rs hG [(0, .ref 251)] [0] rfl ?_
      exact j136 h.2 h hO
    · have hO := ok_neg c15 hO
      refine rb hG 5 128 136 [.ldc2_w 0] [] [0] [(0, .ref 251), (2, .int x2)] [.long (0 : Int64), .ref 251] h [] (by decide +kernel) rfl trivial ?_
      refine rs hG [(0, .ref 251)] [0] rfl ?_
      exact j136 (0 : Int64) h hO
  have l74 : ∀ (x2 : Int32) (h : Hp), Okk (M_token_l74 x2 h) P → G 74 [(0, .ref 251), (2, .int x2)] [] h := by
    intro x2 h hO
    obtain ⟨H74, eH74⟩ : ∃ q : (Int32 × Hp) → Prop, q = fun s => G 74 [(0, .ref 251), (2, .int (s.1))] [] (s.2) := ⟨_, rfl⟩
    have w9 : H74 (x2, h) := by
      refine lp_wp (f := fun s : (Int32 × Hp) => M_token_b74 s.1 s.2) (H := H74) (Q := P) ?_ (x2, h) hO
      rintro ⟨x2, h⟩ hO
      rw [eH74]
      show G 74 [(0, .ref 251), (2, .int x2)] [] h
      have k74 : ∀ s : (Int32 × Hp), H74 s → G 74 [(0, .ref 251), (2, .int (s.1))] [] (s.2) := fun s q => by rw [eH74] at q; exact q
      replace hO : Okk (M_token_b74 x2 h) (Sum.elim H74 P) := hO
      clear eH74
      unfold M_token_b74 at hO
      refine rb hG 4 74 75 [.aload 0] [] [] [(0, .ref 251), (2, .int x2)] [.ref 251] h [] (by decide +kernel) rfl trivial ?_
      refine rv hG z_M_see 125 0 75 251 [] [] (by decide +kernel) mk_M_see lk_12_125 rcv_251 rfl ⟨rfl, Nat.le_of_ble_eq_true rfl⟩ (c_M_see (d := d) h (ok_bind hO)) ?_
      rintro _ _ ⟨r16, rfl, rfl, hO⟩
      refine rb hG 5 78 82 [.ldc_w 0, .ldc_w 1] [97, 122] [] [(0, .ref 251), (2, .int x2)] [.int (122 : Int32), .int (97 : Int32), .int r16] h [] (by decide +kernel) rfl trivial ?_
      refine rt hG z_M_in 111 3 82 [.int r16, .int (97 : Int32), .int (122 : Int32)] [] (by decide +kernel) mk_M_in lk_12_111 rfl ⟨rfl, Nat.le_of_ble_eq_true rfl⟩ (c_M_in (d := d) h r16 (97 : Int32) (122 : Int32) (ok_bind hO)) ?_
      rintro _ _ ⟨r17, rfl, rfl, hO⟩
      refine ri hG .eq (36) 121 85 (by decide +kernel) (by decide) (fun c18 => ?_) (fun c18 => ?_)
      · have hO := ok_pos c18 hO
        exact j121 x2 h (ok_inr hO)
      · have hO := ok_neg c18 hO
        refine rb hG 9 88 97 [.aload 0, .aload 0, .getstatic 1215, .ldc_w 0, .lshl, .aload 0] [8] [] [(0, .ref 251), (2, .int x2)] [.ref 251, .long (h.2 <<< (Int32.toInt64 (8 : Int32) &&& 63)), .ref 251] h [kd 251 = 12] (by decide +kernel) rfl kd_251 ?_
        refine rv hG z_M_see 125 0 97 251 [] [.long (h.2 <<< (Int32.toInt64 (8 : Int32) &&& 63)), .ref 251] (by decide +kernel) mk_M_see lk_12_125 rcv_251 rfl ⟨rfl, Nat.le_of_ble_eq_true rfl⟩ (c_M_see (d := d) h (ok_bind hO)) ?_
        rintro _ _ ⟨r19, rfl, rfl, hO⟩
        refine rbx hG 6 100 105 [.i2l, .lor, .putstatic 1215] [] [] (wL h ((h.2 <<< (Int32.toInt64 (8 : Int32) &&& 63)) ||| (Int32.toInt64 r19))) (fun h20 => [(0, .ref 251), (2, .int x2)]) (fun h20 => []) (fun h20 => h20) [kd 251 = 12] (by decide +kernel) rfl kd_251 hO (fun h20 hO => ?_)
        refine rbx hG 9 105 115 [.aload 0, .dup, .getfield 1210, .ldc_w 0, .iadd, .putfield 1210] [1] [] (wr h20 251 10 ((h20.1 251 10) + (1 : Int32))) (fun h21 => [(0, .ref 251), (2, .int x2)]) (fun h21 => []) (fun h21 => h21) [kd 251 = 12, kd 251 = 12] (by decide +kernel) rfl ⟨kd_251, kd_251⟩ hO (fun h21 hO => ?_)
        refine rbx hG 4 115 118 [.iinc 2 0] [1] [] ((x2 + (1 : Int32))) (fun y22 => [(2, .int y22), (0, .ref 251)]) (fun y22 => []) (fun y22 => h21) [] (by decide +kernel) rfl trivial hO (fun y22 hO => ?_)
        refine rb hG 4 118 74 [] [] [] [(2, .int y22), (0, .ref 251)] [] h21 [] (by decide +kernel) rfl trivial ?_
        refine rs hG [(0, .ref 251), (2, .int y22)] [1, 0] rfl ?_
        exact k74 (y22, h21) (ok_some (Q := (Sum.elim H74 P)) hO)
    rw [eH74] at w9
    exact w9
  have j31 : ∀ (h : Hp), Okk (M_token_j31 h) P → G 31 [(0, .ref 251)] [] h := by
    intro h hO
    unfold M_token_j31 at hO
    refine rbx hG 7 31 39 [.aload 0, .aload 0, .getfield 1210, .putfield 1212] [] [] (wr h 251 12 (h.1 251 10)) (fun h23 => [(0, .ref 251)]) (fun h23 => []) (fun h23 => h23) [kd 251 = 12, kd 251 = 12] (by decide +kernel) rfl ⟨kd_251, kd_251⟩ hO (fun h23 hO => ?_)
    refine rb hG 4 39 40 [.aload 0] [] [] [(0, .ref 251)] [.ref 251] h23 [] (by decide +kernel) rfl trivial ?_
    refine rv hG z_M_see 125 0 40 251 [] [] (by decide +kernel) mk_M_see lk_12_125 rcv_251 rfl ⟨rfl, Nat.le_of_ble_eq_true rfl⟩ (c_M_see (d := d) h23 (ok_bind hO)) ?_
    rintro _ _ ⟨r24, rfl, rfl, hO⟩
    refine rbx hG 7 43 49 [.istore 1, .aload 0, .ldc2_w 0, .putstatic 1215] [] [0] (wL h23 (0 : Int64)) (fun h25 => [(1, .int r24), (0, .ref 251)]) (fun h25 => []) (fun h25 => h25) [kd 251 = 12] (by decide +kernel) rfl kd_251 hO (fun h25 hO => ?_)
    refine rb hG 6 49 52 [.ldc_w 0, .istore 2, .iload 1] [0] [] [(2, .int (0 : Int32)), (1, .int r24), (0, .ref 251)] [.int r24] h25 [] (by decide +kernel) rfl trivial ?_
    refine ri hG .ge (11) 63 52 (by decide +kernel) (by decide) (fun c26 => ?_) (fun c26 => ?_)
    · have hO := ok_pos c26 hO
      refine rb hG 6 63 68 [.iload 1, .ldc_w 0, .ldc_w 1] [97, 122] [] [(2, .int (0 : Int32)), (1, .int r24), (0, .ref 251)] [.int (122 : Int32), .int (97 : Int32), .int r24] h25 [] (by decide +kernel) rfl trivial ?_
      refine rt hG z_M_in 111 3 68 [.int r24, .int (97 : Int32), .int (122 : Int32)] [] (by decide +kernel) mk_M_in lk_12_111 rfl ⟨rfl, Nat.le_of_ble_eq_true rfl⟩ (c_M_in (d := d) h25 r24 (97 : Int32) (122 : Int32) (ok_bind hO)) ?_
      rintro _ _ ⟨r27, rfl, rfl, hO⟩
      refine ri hG .eq (76) 147 71 (by decide +kernel) (by decide) (fun c28 => ?_) (fun c28 => ?_)
      · have hO := ok_pos c28 hO
        refine rb hG 6 147 152 [.iload 1, .ldc_w 0, .ldc_w 1] [48, 57] [] [(2, .int (0 : Int32)), (1, .int r24), (0, .ref 251)] [.int (57 : Int32), .int (48 : Int32), .int r24] h25 [] (by decide +kernel) rfl trivial ?_
        refine rt hG z_M_in 111 3 152 [.int r24, .int (48 : Int32), .int (57 : Int32)] [] (by decide +kernel) mk_M_in lk_12_111 rfl ⟨rfl, Nat.le_of_ble_eq_true rfl⟩ (c_M_in (d := d) h25 r24 (48 : Int32) (57 : Int32) (ok_bind hO)) ?_
        rintro _ _ ⟨r29, rfl, rfl, hO⟩
        refine ri hG .eq (86) 241 155 (by decide +kernel) (by decide) (fun c30 => ?_) (fun c30 => ?_)
        · have hO := ok_pos c30 hO
          refine rbx hG 9 241 251 [.aload 0, .dup, .getfield 1210, .ldc_w 0, .iadd, .putfield 1210] [1] [] (wr h25 251 10 ((h25.1 251 10) + (1 : Int32))) (fun h31 => [(2, .int (0 : Int32)), (1, .int r24), (0, .ref 251)]) (fun h31 => []) (fun h31 => h31) [kd 251 = 12, kd 251 = 12] (by decide +kernel) rfl ⟨kd_251, kd_251⟩ hO (fun h31 hO => ?_)
          refine rb hG 6 251 255 [.aload 0, .iload 1, .ldc_w 0] [59] [] [(2, .int (0 : Int32)), (1, .int r24), (0, .ref 251)] [.int (59 : Int32), .int r24, .ref 251] h31 [] (by decide +kernel) rfl trivial ?_
          refine rjN hG (7) 262 255 (by decide +kernel) (by decide) (fun c32 => ?_) (fun c32 => ?_)
          · have hO := ok_pos c32 hO
            refine rb hG 5 258 263 [.ldc_w 0] [4] [] [(2, .int (0 : Int32)), (1, .int r24), (0, .ref 251)] [.int (4 : Int32), .ref 251] h31 [] (by decide +kernel) rfl trivial ?_
            refine rs hG [] [] rfl ?_
            exact j263 (4 : Int32) h31 hO
          · have hO := ok_neg c32 hO
            refine rb hG 4 262 263 [.ldc_w 0] [1] [] [(2, .int (0 : Int32)), (1, .int r24), (0, .ref 251)] [.int (1 : Int32), .ref 251] h31 [] (by decide +kernel) rfl trivial ?_
            refine rs hG [] [] rfl ?_
            exact j263 (1 : Int32) h31 hO
        · have hO := ok_neg c30 hO
          refine rbx hG 6 158 163 [.aload 0, .ldc_w 0, .putfield 1214] [0] [] (wr h25 251 14 (0 : Int32)) (fun h33 => [(2, .int (0 : Int32)), (1, .int r24), (0, .ref 251)]) (fun h33 => []) (fun h33 => h33) [kd 251 = 12] (by decide +kernel) rfl kd_251 hO (fun h33 hO => ?_)
          refine rs hG [(0, .ref 251), (2, .int (0 : Int32))] [2, 0] rfl ?_
          exact l163 (0 : Int32) h33 hO
      · have hO := ok_neg c28 hO
        refine rs hG [(0, .ref 251), (2, .int (0 : Int32))] [2, 0] rfl ?_
        exact l74 (0 : Int32) h25 hO
    · have hO := ok_neg c26 hO
      refine rbx hG 6 55 60 [.aload 0, .ldc_w 0, .putfield 1213] [0] [] (wr h25 251 13 (0 : Int32)) (fun h34 => [(2, .int (0 : Int32)), (1, .int r24), (0, .ref 251)]) (fun h34 => []) (fun h34 => h34) [kd 251 = 12] (by decide +kernel) rfl kd_251 hO (fun h34 hO => ?_)
      refine rb hG 4 60 266 [] [] [] [(2, .int (0 : Int32)), (1, .int r24), (0, .ref 251)] [] h34 [] (by decide +kernel) rfl trivial ?_
      refine rs hG [] [] rfl ?_
      exact j266 h34 hO
  have l0 : ∀ (h : Hp), Okk (M_token_l0 h) P → G 0 [(0, .ref 251)] [] h := by
    intro h hO
    obtain ⟨H0, eH0⟩ : ∃ q : (Hp) → Prop, q = fun s => G 0 [(0, .ref 251)] [] (s) := ⟨_, rfl⟩
    have w9 : H0 (h) := by
      refine lp_wp (f := fun s : (Hp) => M_token_b0 s) (H := H0) (Q := P) ?_ (h) hO
      intro h hO
      rw [eH0]
      show G 0 [(0, .ref 251)] [] h
      have k0 : ∀ s : (Hp), H0 s → G 0 [(0, .ref 251)] [] (s) := fun s q => by rw [eH0] at q; exact q
      replace hO : Okk (M_token_b0 h) (Sum.elim H0 P) := hO
      clear eH0
      have j18 : ∀ (h : Hp), Okk (M_token_j18 h) (Sum.elim H0 P) → G 18 [(0, .ref 251)] [] h := by
        intro h hO
        unfold M_token_j18 at hO
        refine rbx hG 9 18 28 [.aload 0, .dup, .getfield 1210, .ldc_w 0, .iadd, .putfield 1210] [1] [] (wr h 251 10 ((h.1 251 10) + (1 : Int32))) (fun h1 => [(0, .ref 251)]) (fun h1 => []) (fun h1 => h1) [kd 251 = 12, kd 251 = 12] (by decide +kernel) rfl ⟨kd_251, kd_251⟩ hO (fun h1 hO => ?_)
        refine rb hG 4 28 0 [] [] [] [(0, .ref 251)] [] h1 [] (by decide +kernel) rfl trivial ?_
        exact k0 h1 (ok_some (Q := (Sum.elim H0 P)) hO)
      unfold M_token_b0 at hO
      refine rb hG 4 0 1 [.aload 0] [] [] [(0, .ref 251)] [.ref 251] h [] (by decide +kernel) rfl trivial ?_
      refine rv hG z_M_see 125 0 1 251 [] [] (by decide +kernel) mk_M_see lk_12_125 rcv_251 rfl ⟨rfl, Nat.le_of_ble_eq_true rfl⟩ (c_M_see (d := d) h (ok_bind hO)) ?_
      rintro _ _ ⟨r35, rfl, rfl, hO⟩
      refine rb hG 4 4 6 [.ldc_w 0] [10] [] [(0, .ref 251)] [.int (10 : Int32), .int r35] h [] (by decide +kernel) rfl trivial ?_
      refine rj hG .eq (12) 18 6 (by decide +kernel) (by decide) (fun c36 => ?_) (fun c36 => ?_)
      · have hO := ok_pos c36 hO
        exact j18 h hO
      · have hO := ok_neg c36 hO
        refine rb hG 4 9 10 [.aload 0] [] [] [(0, .ref 251)] [.ref 251] h [] (by decide +kernel) rfl trivial ?_
        refine rv hG z_M_see 125 0 10 251 [] [] (by decide +kernel) mk_M_see lk_12_125 rcv_251 rfl ⟨rfl, Nat.le_of_ble_eq_true rfl⟩ (c_M_see (d := d) h (ok_bind hO)) ?_
        rintro _ _ ⟨r37, rfl, rfl, hO⟩
        refine rb hG 4 13 15 [.ldc_w 0] [32] [] [(0, .ref 251)] [.int (32 : Int32), .int r37] h [] (by decide +kernel) rfl trivial ?_
        refine rjN hG (16) 31 15 (by decide +kernel) (by decide) (fun c38 => ?_) (fun c38 => ?_)
        · have hO := ok_pos c38 hO
          exact j18 h hO
        · have hO := ok_neg c38 hO
          exact j31 h (ok_inr hO)
    rw [eH0] at w9
    exact w9
  exact l0 h hO
/-! GrainInnModel.fails()Z -/
noncomputable def M_fails (h : Hp) : Option (Int32 × Hp) := bnd (wr h 251 16 (h.1 251 12)) fun h1 => some ((0 : Int32), h1)
set_option maxRecDepth 100000 in
set_option maxHeartbeats 4000000 in
theorem c_M_fails {E : En} {d : Nat} (h : Hp) {P : (Int32 × Hp) → Prop} (hO : Okk (M_fails h) P) : Cn E (d + 1) z_M_fails [.ref 251] h (RI P) := by
  refine cn_of (on := 12) (d := d + 0) ⟨rfl, by decide +kernel, Nat.le_of_ble_eq_true rfl⟩ (fun G hG => ?_)
  unfold M_fails at hO
  show G 0 [(0, .ref 251)] [] h
  refine rbx hG 7 0 8 [.aload 0, .aload 0, .getfield 1212, .putfield 1216] [] [] (wr h 251 16 (h.1 251 12)) (fun h1 => [(0, .ref 251)]) (fun h1 => []) (fun h1 => h1) [kd 251 = 12, kd 251 = 12] (by decide +kernel) rfl ⟨kd_251, kd_251⟩ hO (fun h1 hO => ?_)
  refine rb hG 4 8 9 [.ldc_w 0] [0] [] [(0, .ref 251)] [.int (0 : Int32)] h1 [] (by decide +kernel) rfl trivial ?_
  exact eZ hG 9 (by decide +kernel) rfl (Or.inl rfl) ⟨(0 : Int32), rfl, ok_some (Q := P) hO⟩
/-! GrainInnModel.later(II)V -/
noncomputable def M_later_j41 (h : Hp) : Option Hp := some h
noncomputable def M_later_j31 (x1 : Int32) (x2 : Int32) (h : Hp) : Option Hp := bnd (wr h 251 17 x1) fun h1 => bnd (wr h1 251 18 x2) fun h2 => (M_later_j41 h2)
noncomputable def M_later (h : Hp) (x1 : Int32) (x2 : Int32) : Option Hp := if (h.1 251 17) = 0 then ((M_later_j31 x1 x2 h)) else (if x2 < (h.1 251 18) then ((M_later_j31 x1 x2 h)) else (if x2 = (h.1 251 18) then (if (h.1 251 17) ≤ x1 then ((M_later_j41 h)) else ((M_later_j31 x1 x2 h))) else ((M_later_j41 h))))
set_option maxRecDepth 100000 in
set_option maxHeartbeats 4000000 in
theorem c_M_later {E : En} {d : Nat} (h : Hp) (x1 : Int32) (x2 : Int32) {P : Hp → Prop} (hO : Okk (M_later h x1 x2) P) : Cn E (d + 1) z_M_later [.ref 251, .int x1, .int x2] h (RV P) := by
  refine cn_of (on := 12) (d := d + 0) ⟨rfl, by decide +kernel, Nat.le_of_ble_eq_true rfl⟩ (fun G hG => ?_)
  unfold M_later at hO
  show G 0 [(0, .ref 251), (1, .int x1), (2, .int x2)] [] h
  have j41 : ∀ (h : Hp), Okk (M_later_j41 h) P → G 41 [] [] h := by
    intro h hO
    unfold M_later_j41 at hO
    exact eV hG 41 (by decide +kernel) rfl ⟨rfl, ok_some (Q := P) hO⟩
  have j31 : ∀ (h : Hp), Okk (M_later_j31 x1 x2 h) P → G 31 [(0, .ref 251), (1, .int x1), (2, .int x2)] [] h := by
    intro h hO
    unfold M_later_j31 at hO
    refine rbx hG 6 31 36 [.aload 0, .iload 1, .putfield 1217] [] [] (wr h 251 17 x1) (fun h1 => [(0, .ref 251), (1, .int x1), (2, .int x2)]) (fun h1 => []) (fun h1 => h1) [kd 251 = 12] (by decide +kernel) rfl kd_251 hO (fun h1 hO => ?_)
    refine rbx hG 6 36 41 [.aload 0, .iload 2, .putfield 1218] [] [] (wr h1 251 18 x2) (fun h2 => [(0, .ref 251), (1, .int x1), (2, .int x2)]) (fun h2 => []) (fun h2 => h2) [kd 251 = 12] (by decide +kernel) rfl kd_251 hO (fun h2 hO => ?_)
    refine rs hG [] [] rfl ?_
    exact j41 h2 hO
  refine rb hG 5 0 4 [.aload 0, .getfield 1217] [] [] [(0, .ref 251), (1, .int x1), (2, .int x2)] [.int (h.1 251 17)] h [kd 251 = 12] (by decide +kernel) rfl kd_251 ?_
  refine ri hG .eq (27) 31 4 (by decide +kernel) (by decide) (fun c3 => ?_) (fun c3 => ?_)
  · have hO := ok_pos c3 hO
    exact j31 h hO
  · have hO := ok_neg c3 hO
    refine rb hG 6 7 12 [.iload 2, .aload 0, .getfield 1218] [] [] [(0, .ref 251), (1, .int x1), (2, .int x2)] [.int (h.1 251 18), .int x2] h [kd 251 = 12] (by decide +kernel) rfl kd_251 ?_
    refine rj hG .lt (19) 31 12 (by decide +kernel) (by decide) (fun c4 => ?_) (fun c4 => ?_)
    · have hO := ok_pos c4 hO
      exact j31 h hO
    · have hO := ok_neg c4 hO
      refine rb hG 6 15 20 [.iload 2, .aload 0, .getfield 1218] [] [] [(0, .ref 251), (1, .int x1), (2, .int x2)] [.int (h.1 251 18), .int x2] h [kd 251 = 12] (by decide +kernel) rfl kd_251 ?_
      refine rjN hG (21) 41 20 (by decide +kernel) (by decide) (fun c5 => ?_) (fun c5 => ?_)
      · have hO := ok_pos c5 hO
        refine rb hG 6 23 28 [.iload 1, .aload 0, .getfield 1217] [] [] [(0, .ref 251), (1, .int x1), (2, .int x2)] [.int (h.1 251 17), .int x1] h [kd 251 = 12] (by decide +kernel) rfl kd_251 ?_
        refine rj hG .ge (13) 41 28 (by decide +kernel) (by decide) (fun c6 => ?_) (fun c6 => ?_)
        · have hO := ok_pos c6 hO
          refine rs hG [] [] rfl ?_
          exact j41 h hO
        · have hO := ok_neg c6 hO
          exact j31 h hO
      · have hO := ok_neg c5 hO
        refine rs hG [] [] rfl ?_
        exact j41 h hO
/-! GrainInnModel.full(III)V -/
noncomputable def M_full_j16 (h : Hp) : Option Hp := some h
noncomputable def M_full (h : Hp) (x1 : Int32) (x2 : Int32) (x3 : Int32) : Option Hp := if inb x1 (ln 261) then (if (h.1 261 (Int32.toNatClampNeg x1)) = x2 then ((M_later h (3 : Int32) x3).bind fun h3 => (M_full_j16 h3)) else ((M_full_j16 h))) else none
set_option maxRecDepth 100000 in
set_option maxHeartbeats 4000000 in
theorem c_M_full {E : En} {d : Nat} (h : Hp) (x1 : Int32) (x2 : Int32) (x3 : Int32) {P : Hp → Prop} (hO : Okk (M_full h x1 x2 x3) P) : Cn E (d + 2) z_M_full [.ref 251, .int x1, .int x2, .int x3] h (RV P) := by
  refine cn_of (on := 12) (d := d + 1) ⟨rfl, by decide +kernel, Nat.le_of_ble_eq_true rfl⟩ (fun G hG => ?_)
  unfold M_full at hO
  show G 0 [(0, .ref 251), (1, .int x1), (2, .int x2), (3, .int x3)] [] h
  have j16 : ∀ (h : Hp), Okk (M_full_j16 h) P → G 16 [] [] h := by
    intro h hO
    unfold M_full_j16 at hO
    exact eV hG 16 (by decide +kernel) rfl ⟨rfl, ok_some (Q := P) hO⟩
  obtain ⟨g1, hO⟩ := ok_if hO
  refine rb hG 8 0 7 [.aload 0, .invokeinterface 1219 10, .iload 1, .iaload, .iload 2] [] [] [(0, .ref 251), (1, .int x1), (2, .int x2), (3, .int x3)] [.int x2, .int (h.1 261 (Int32.toNatClampNeg x1))] h [kd 251 = 12, kd 261 = 20 ∧ inb x1 (ln 261)] (by decide +kernel) rfl ⟨kd_251, ⟨kd_261, g1⟩⟩ ?_
  refine rjN hG (9) 16 7 (by decide +kernel) (by decide) (fun c2 => ?_) (fun c2 => ?_)
  · have hO := ok_pos c2 hO
    refine rb hG 6 10 13 [.aload 0, .ldc_w 0, .iload 3] [3] [] [(0, .ref 251), (1, .int x1), (2, .int x2), (3, .int x3)] [.int x3, .int (3 : Int32), .ref 251] h [] (by decide +kernel) rfl trivial ?_
    refine rv hG z_M_later 155 2 13 251 [.int (3 : Int32), .int x3] [] (by decide +kernel) mk_M_later lk_12_155 rcv_251 rfl ⟨rfl, Nat.le_of_ble_eq_true rfl⟩ (c_M_later (d := d) h (3 : Int32) x3 (ok_bind hO)) ?_
    rintro _ h3 ⟨rfl, hO⟩
    refine rs hG [] [] rfl ?_
    exact j16 h3 hO
  · have hO := ok_neg c2 hO
    refine rs hG [] [] rfl ?_
    exact j16 h hO
/-! GrainInnModel.takeBut(IIII)Z -/
noncomputable def M_takeBut_j58 (h : Hp) : Option (Int32 × Hp) := (M_token h).bind fun h1 => some ((1 : Int32), h1)
noncomputable def M_takeBut_j44 (h : Hp) : Option (Int32 × Hp) := (M_later h (2 : Int32) (h.1 251 12)).bind fun h2 => bnd (wr h2 251 22 (0 : Int32)) fun h3 => (M_takeBut_j58 h3)
noncomputable def M_takeBut (h : Hp) (x1 : Int32) (x2 : Int32) (x3 : Int32) (x4 : Int32) : Option (Int32 × Hp) := if (h.1 251 13) = (3 : Int32) then (if inb x1 (ln 262) then (bnd (wr h 262 (Int32.toNatClampNeg x1) (h.1 251 14)) fun h6 => (M_in (h6.1 251 14) x2 x3).bind fun r7 => if r7 = 0 then ((M_takeBut_j44 h6)) else (if (h6.1 251 14) = x4 then ((M_takeBut_j44 h6)) else ((M_takeBut_j58 h6)))) else none) else ((M_fails h).bind fun (r10, h11) => if r10 = 0 ∨ r10 = 1 then (some (r10, h11)) else none)
set_option maxRecDepth 100000 in
set_option maxHeartbeats 4000000 in
theorem c_M_takeBut {E : En} {d : Nat} (h : Hp) (x1 : Int32) (x2 : Int32) (x3 : Int32) (x4 : Int32) {P : (Int32 × Hp) → Prop} (hO : Okk (M_takeBut h x1 x2 x3 x4) P) : Cn E (d + 3) z_M_takeBut [.ref 251, .int x1, .int x2, .int x3, .int x4] h (RI P) := by
  refine cn_of (on := 12) (d := d + 2) ⟨rfl, by decide +kernel, Nat.le_of_ble_eq_true rfl⟩ (fun G hG => ?_)
  unfold M_takeBut at hO
  show G 0 [(0, .ref 251), (1, .int x1), (2, .int x2), (3, .int x3), (4, .int x4)] [] h
  have j58 : ∀ (h : Hp), Okk (M_takeBut_j58 h) P → G 58 [(0, .ref 251)] [] h := by
    intro h hO
    unfold M_takeBut_j58 at hO
    refine rb hG 4 58 59 [.aload 0] [] [] [(0, .ref 251)] [.ref 251] h [] (by decide +kernel) rfl trivial ?_
    refine rv hG z_M_token 163 0 59 251 [] [] (by decide +kernel) mk_M_token lk_12_163 rcv_251 rfl ⟨rfl, Nat.le_of_ble_eq_true rfl⟩ (c_M_token (d := d) h (ok_bind hO)) ?_
    rintro _ h1 ⟨rfl, hO⟩
    refine rb hG 4 62 63 [.ldc_w 0] [1] [] [(0, .ref 251)] [.int (1 : Int32)] h1 [] (by decide +kernel) rfl trivial ?_
    exact eZ hG 63 (by decide +kernel) rfl (Or.inr rfl) ⟨(1 : Int32), rfl, ok_some (Q := P) hO⟩
  have j44 : ∀ (h : Hp), Okk (M_takeBut_j44 h) P → G 44 [(0, .ref 251)] [] h := by
    intro h hO
    unfold M_takeBut_j44 at hO
    refine rb hG 7 44 50 [.aload 0, .ldc_w 0, .aload 0, .getfield 1212] [2] [] [(0, .ref 251)] [.int (h.1 251 12), .int (2 : Int32), .ref 251] h [kd 251 = 12] (by decide +kernel) rfl kd_251 ?_
    refine rv hG z_M_later 155 2 50 251 [.int (2 : Int32), .int (h.1 251 12)] [] (by decide +kernel) mk_M_later lk_12_155 rcv_251 rfl ⟨rfl, Nat.le_of_ble_eq_true rfl⟩ (c_M_later (d := d + 1) h (2 : Int32) (h.1 251 12) (ok_bind hO)) ?_
    rintro _ h2 ⟨rfl, hO⟩
    refine rbx hG 6 53 58 [.aload 0, .ldc_w 0, .checkcast 1222] [0] [] (wr h2 251 22 (0 : Int32)) (fun h3 => [(0, .ref 251)]) (fun h3 => []) (fun h3 => h3) [kd 251 = 12 ∧ ((0 : Int32) = 0 ∨ (0 : Int32) = 1)] (by decide +kernel) rfl ⟨kd_251, Or.inl rfl⟩ hO (fun h3 hO => ?_)
    exact j58 h3 hO
  refine rb hG 6 0 5 [.aload 0, .getfield 1213, .ldc_w 0] [3] [] [(0, .ref 251), (1, .int x1), (2, .int x2), (3, .int x3), (4, .int x4)] [.int (3 : Int32), .int (h.1 251 13)] h [kd 251 = 12] (by decide +kernel) rfl kd_251 ?_
  refine rj hG .eq (8) 13 5 (by decide +kernel) (by decide) (fun c4 => ?_) (fun c4 => ?_)
  · have hO := ok_pos c4 hO
    obtain ⟨g5, hO⟩ := ok_if hO
    refine rbx hG 9 13 23 [.aload 0, .invokeinterface 1220 11, .iload 1, .aload 0, .getfield 1214, .iastore] [] [] (wr h 262 (Int32.toNatClampNeg x1) (h.1 251 14)) (fun h6 => [(0, .ref 251), (1, .int x1), (2, .int x2), (3, .int x3), (4, .int x4)]) (fun h6 => []) (fun h6 => h6) [kd 251 = 12, kd 251 = 12, kd 262 = 20 ∧ inb x1 (ln 262)] (by decide +kernel) rfl ⟨kd_251, kd_251, ⟨kd_262, g5⟩⟩ hO (fun h6 hO => ?_)
    refine rb hG 7 23 29 [.aload 0, .getfield 1214, .iload 2, .iload 3] [] [] [(0, .ref 251), (1, .int x1), (2, .int x2), (3, .int x3), (4, .int x4)] [.int x3, .int x2, .int (h6.1 251 14)] h6 [kd 251 = 12] (by decide +kernel) rfl kd_251 ?_
    refine rt hG z_M_in 111 3 29 [.int (h6.1 251 14), .int x2, .int x3] [] (by decide +kernel) mk_M_in lk_12_111 rfl ⟨rfl, Nat.le_of_ble_eq_true rfl⟩ (c_M_in (d := d + 1) h6 (h6.1 251 14) x2 x3 (ok_bind hO)) ?_
    rintro _ _ ⟨r7, rfl, rfl, hO⟩
    refine ri hG .eq (12) 44 32 (by decide +kernel) (by decide) (fun c8 => ?_) (fun c8 => ?_)
    · have hO := ok_pos c8 hO
      refine rs hG [(0, .ref 251)] [0] rfl ?_
      exact j44 h6 hO
    · have hO := ok_neg c8 hO
      refine rb hG 6 35 41 [.aload 0, .getfield 1214, .iload 4] [] [] [(0, .ref 251), (1, .int x1), (2, .int x2), (3, .int x3), (4, .int x4)] [.int x4, .int (h6.1 251 14)] h6 [kd 251 = 12] (by decide +kernel) rfl kd_251 ?_
      refine rjN hG (17) 58 41 (by decide +kernel) (by decide) (fun c9 => ?_) (fun c9 => ?_)
      · have hO := ok_pos c9 hO
        refine rs hG [(0, .ref 251)] [0] rfl ?_
        exact j44 h6 hO
      · have hO := ok_neg c9 hO
        refine rs hG [(0, .ref 251)] [0] rfl ?_
        exact j58 h6 hO
  · have hO := ok_neg c4 hO
    refine rb hG 4 8 9 [.aload 0] [] [] [(0, .ref 251), (1, .int x1), (2, .int x2), (3, .int x3), (4, .int x4)] [.ref 251] h [] (by decide +kernel) rfl trivial ?_
    refine rv hG z_M_fails 151 0 9 251 [] [] (by decide +kernel) mk_M_fails lk_12_151 rcv_251 rfl ⟨rfl, Nat.le_of_ble_eq_true rfl⟩ (c_M_fails (d := d + 1) h (ok_bind hO)) ?_
    rintro _ h11 ⟨r10, rfl, hO⟩
    obtain ⟨g12, hO⟩ := ok_if hO
    exact eZ hG 12 (by decide +kernel) rfl g12 ⟨r10, rfl, ok_some (Q := P) hO⟩
/-! GrainInnModel.take(III)Z -/
noncomputable def M_take (h : Hp) (x1 : Int32) (x2 : Int32) (x3 : Int32) : Option (Int32 × Hp) := (M_takeBut h x1 x2 x3 (-1 : Int32)).bind fun (r1, h2) => if r1 = 0 ∨ r1 = 1 then (some (r1, h2)) else none
set_option maxRecDepth 100000 in
set_option maxHeartbeats 4000000 in
theorem c_M_take {E : En} {d : Nat} (h : Hp) (x1 : Int32) (x2 : Int32) (x3 : Int32) {P : (Int32 × Hp) → Prop} (hO : Okk (M_take h x1 x2 x3) P) : Cn E (d + 4) z_M_take [.ref 251, .int x1, .int x2, .int x3] h (RI P) := by
  refine cn_of (on := 12) (d := d + 3) ⟨rfl, by decide +kernel, Nat.le_of_ble_eq_true rfl⟩ (fun G hG => ?_)
  unfold M_take at hO
  show G 0 [(0, .ref 251), (1, .int x1), (2, .int x2), (3, .int x3)] [] h
  refine rb hG 8 0 5 [.aload 0, .iload 1, .iload 2, .iload 3, .ldc_w 0] [-1] [] [(0, .ref 251), (1, .int x1), (2, .int x2), (3, .int x3)] [.int (-1 : Int32), .int x3, .int x2, .int x1, .ref 251] h [] (by decide +kernel) rfl trivial ?_
  refine rv hG z_M_takeBut 166 4 5 251 [.int x1, .int x2, .int x3, .int (-1 : Int32)] [] (by decide +kernel) mk_M_takeBut lk_12_166 rcv_251 rfl ⟨rfl, Nat.le_of_ble_eq_true rfl⟩ (c_M_takeBut (d := d) h x1 x2 x3 (-1 : Int32) (ok_bind hO)) ?_
  rintro _ h2 ⟨r1, rfl, hO⟩
  obtain ⟨g3, hO⟩ := ok_if hO
  exact eZ hG 8 (by decide +kernel) rfl g3 ⟨r1, rfl, ok_some (Q := P) hO⟩
/-! GrainInnModel.greater(II)I -/
noncomputable def M_greater_j10 (s0 : Int32) : Option Int32 := some s0
noncomputable def M_greater (x0 : Int32) (x1 : Int32) : Option Int32 := if x0 ≤ x1 then ((M_greater_j10 x1)) else ((M_greater_j10 x0))
set_option maxRecDepth 100000 in
set_option maxHeartbeats 4000000 in
theorem c_M_greater {E : En} {d : Nat} (h : Hp) (x0 : Int32) (x1 : Int32) {P : Int32 → Prop} (hO : Okk (M_greater x0 x1) P) : Cn E (d + 1) z_M_greater [.int x0, .int x1] h (RIp h P) := by
  refine cn_of (on := 12) (d := d + 0) ⟨rfl, by decide +kernel, Nat.le_of_ble_eq_true rfl⟩ (fun G hG => ?_)
  unfold M_greater at hO
  show G 0 [(0, .int x0), (1, .int x1)] [] h
  have j10 : ∀ (s0 : Int32), Okk (M_greater_j10 s0) P → G 10 [] [.int s0] h := by
    intro s0 hO
    unfold M_greater_j10 at hO
    exact eI hG 10 (by decide +kernel) rfl ⟨s0, rfl, rfl, ok_some (Q := P) hO⟩
  refine rb hG 5 0 2 [.iload 0, .iload 1] [] [] [(0, .int x0), (1, .int x1)] [.int x1, .int x0] h [] (by decide +kernel) rfl trivial ?_
  refine rj hG .le (7) 9 2 (by decide +kernel) (by decide) (fun c1 => ?_) (fun c1 => ?_)
  · have hO := ok_pos c1 hO
    refine rb hG 4 9 10 [.iload 1] [] [] [(0, .int x0), (1, .int x1)] [.int x1] h [] (by decide +kernel) rfl trivial ?_
    refine rs hG [] [] rfl ?_
    exact j10 x1 hO
  · have hO := ok_neg c1 hO
    refine rb hG 5 5 10 [.iload 0] [] [] [(0, .int x0), (1, .int x1)] [.int x0] h [] (by decide +kernel) rfl trivial ?_
    refine rs hG [] [] rfl ?_
    exact j10 x0 hO
/-! GrainInnModel.coupleLine(I)Z -/
noncomputable def M_coupleLine_j28 (h : Hp) : Option (Int32 × Hp) := some ((0 : Int32), h)
noncomputable def M_coupleLine_j111 (h : Hp) : Option (Int32 × Hp) := some ((1 : Int32), h)
noncomputable def M_coupleLine (h : Hp) (x1 : Int32) : Option (Int32 × Hp) := (M_take h (0 : Int32) (0 : Int32) (7 : Int32)).bind fun (r1, h2) => if r1 = 0 then ((M_coupleLine_j28 h2)) else ((M_takeBut h2 (1 : Int32) (0 : Int32) (7 : Int32) (h2.1 262 (Int32.toNatClampNeg (0 : Int32)))).bind fun (r4, h5) => if r4 = 0 then ((M_coupleLine_j28 h5)) else ((M_greater (h5.1 262 (Int32.toNatClampNeg (0 : Int32))) (h5.1 262 (Int32.toNatClampNeg (1 : Int32)))).bind fun r7 => (M_greater (h5.1 251 21) r7).bind fun r8 => bnd (wr h5 251 21 r8) fun h9 => if (h9.1 251 22) = 0 then ((M_coupleLine_j111 h9)) else (if inb (x1 + (h9.1 262 (Int32.toNatClampNeg (0 : Int32)))) (ln 261) then (if inb (x1 + (h9.1 262 (Int32.toNatClampNeg (0 : Int32)))) (ln 261) then (bnd (wr h9 261 (Int32.toNatClampNeg (x1 + (h9.1 262 (Int32.toNatClampNeg (0 : Int32))))) ((h9.1 261 (Int32.toNatClampNeg (x1 + (h9.1 262 (Int32.toNatClampNeg (0 : Int32)))))) ||| (sh (1 : Int32) (h9.1 262 (Int32.toNatClampNeg (1 : Int32)))))) fun h13 => if inb (x1 + (h13.1 262 (Int32.toNatClampNeg (1 : Int32)))) (ln 261) then (if inb (x1 + (h13.1 262 (Int32.toNatClampNeg (1 : Int32)))) (ln 261) then (bnd (wr h13 261 (Int32.toNatClampNeg (x1 + (h13.1 262 (Int32.toNatClampNeg (1 : Int32))))) ((h13.1 261 (Int32.toNatClampNeg (x1 + (h13.1 262 (Int32.toNatClampNeg (1 : Int32)))))) ||| (sh (1 : Int32) (h13.1 262 (Int32.toNatClampNeg (0 : Int32)))))) fun h16 => (M_coupleLine_j111 h16)) else none) else none) else none) else none)))
set_option maxRecDepth 100000 in
set_option maxHeartbeats 4000000 in
theorem c_M_coupleLine {E : En} {d : Nat} (h : Hp) (x1 : Int32) {P : (Int32 × Hp) → Prop} (hO : Okk (M_coupleLine h x1) P) : Cn E (d + 5) z_M_coupleLine [.ref 251, .int x1] h (RI P) := by
  refine cn_of (on := 12) (d := d + 4) ⟨rfl, by decide +kernel, Nat.le_of_ble_eq_true rfl⟩ (fun G hG => ?_)
  unfold M_coupleLine at hO
  show G 0 [(0, .ref 251), (1, .int x1)] [] h
  have j28 : ∀ (h : Hp), Okk (M_coupleLine_j28 h) P → G 28 [] [] h := by
    intro h hO
    unfold M_coupleLine_j28 at hO
    refine rb hG 4 28 29 [.ldc_w 0] [0] [] [] [.int (0 : Int32)] h [] (by decide +kernel) rfl trivial ?_
    exact eZ hG 29 (by decide +kernel) rfl (Or.inl rfl) ⟨(0 : Int32), rfl, ok_some (Q := P) hO⟩
  have j111 : ∀ (h : Hp), Okk (M_coupleLine_j111 h) P → G 111 [] [] h := by
    intro h hO
    unfold M_coupleLine_j111 at hO
    refine rb hG 4 111 112 [.ldc_w 0] [1] [] [] [.int (1 : Int32)] h [] (by decide +kernel) rfl trivial ?_
    exact eZ hG 112 (by decide +kernel) rfl (Or.inr rfl) ⟨(1 : Int32), rfl, ok_some (Q := P) hO⟩
  refine rb hG 7 0 5 [.aload 0, .ldc_w 0, .ldc_w 0, .ldc_w 1] [0, 7] [] [(0, .ref 251), (1, .int x1)] [.int (7 : Int32), .int (0 : Int32), .int (0 : Int32), .ref 251] h [] (by decide +kernel) rfl trivial ?_
  refine rv hG z_M_take 170 3 5 251 [.int (0 : Int32), .int (0 : Int32), .int (7 : Int32)] [] (by decide +kernel) mk_M_take lk_12_170 rcv_251 rfl ⟨rfl, Nat.le_of_ble_eq_true rfl⟩ (c_M_take (d := d) h (0 : Int32) (0 : Int32) (7 : Int32) (ok_bind hO)) ?_
  rintro _ h2 ⟨r1, rfl, hO⟩
  refine ri hG .eq (20) 28 8 (by decide +kernel) (by decide) (fun c3 => ?_) (fun c3 => ?_)
  · have hO := ok_pos c3 hO
    refine rs hG [] [] rfl ?_
    exact j28 h2 hO
  · have hO := ok_neg c3 hO
    refine rb hG 11 11 22 [.aload 0, .ldc_w 0, .ldc_w 1, .ldc_w 2, .aload 0, .invokeinterface 1220 11, .ldc_w 1, .iaload] [1, 0, 7] [] [(0, .ref 251), (1, .int x1)] [.int (h2.1 262 (Int32.toNatClampNeg (0 : Int32))), .int (7 : Int32), .int (0 : Int32), .int (1 : Int32), .ref 251] h2 [kd 251 = 12, kd 262 = 20 ∧ inb (0 : Int32) (ln 262)] (by decide +kernel) rfl ⟨kd_251, ⟨kd_262, (by decide +kernel)⟩⟩ ?_
    refine rv hG z_M_takeBut 166 4 22 251 [.int (1 : Int32), .int (0 : Int32), .int (7 : Int32), .int (h2.1 262 (Int32.toNatClampNeg (0 : Int32)))] [] (by decide +kernel) mk_M_takeBut lk_12_166 rcv_251 rfl ⟨rfl, Nat.le_of_ble_eq_true rfl⟩ (c_M_takeBut (d := d + 1) h2 (1 : Int32) (0 : Int32) (7 : Int32) (h2.1 262 (Int32.toNatClampNeg (0 : Int32))) (ok_bind hO)) ?_
    rintro _ h5 ⟨r4, rfl, hO⟩
    refine riN hG (5) 30 25 (by decide +kernel) (by decide) (fun c6 => ?_) (fun c6 => ?_)
    · have hO := ok_pos c6 hO
      refine rs hG [] [] rfl ?_
      exact j28 h5 hO
    · have hO := ok_neg c6 hO
      refine rb hG 14 30 47 [.aload 0, .aload 0, .getfield 1221, .aload 0, .invokeinterface 1220 11, .ldc_w 0, .iaload, .aload 0, .invokeinterface 1220 11, .ldc_w 1, .iaload] [0, 1] [] [(0, .ref 251), (1, .int x1)] [.int (h5.1 262 (Int32.toNatClampNeg (1 : Int32))), .int (h5.1 262 (Int32.toNatClampNeg (0 : Int32))), .int (h5.1 251 21), .ref 251] h5 [kd 251 = 12, kd 251 = 12, kd 262 = 20 ∧ inb (0 : Int32) (ln 262), kd 251 = 12, kd 262 = 20 ∧ inb (1 : Int32) (ln 262)] (by decide +kernel) rfl ⟨kd_251, kd_251, ⟨kd_262, (by decide +kernel)⟩, kd_251, ⟨kd_262, (by decide +kernel)⟩⟩ ?_
      refine rt hG z_M_greater 176 2 47 [.int (h5.1 262 (Int32.toNatClampNeg (0 : Int32))), .int (h5.1 262 (Int32.toNatClampNeg (1 : Int32)))] [.int (h5.1 251 21), .ref 251] (by decide +kernel) mk_M_greater lk_12_176 rfl ⟨rfl, Nat.le_of_ble_eq_true rfl⟩ (c_M_greater (d := d + 3) h5 (h5.1 262 (Int32.toNatClampNeg (0 : Int32))) (h5.1 262 (Int32.toNatClampNeg (1 : Int32))) (ok_bind hO)) ?_
      rintro _ _ ⟨r7, rfl, rfl, hO⟩
      refine rt hG z_M_greater 176 2 50 [.int (h5.1 251 21), .int r7] [.ref 251] (by decide +kernel) mk_M_greater lk_12_176 rfl ⟨rfl, Nat.le_of_ble_eq_true rfl⟩ (c_M_greater (d := d + 3) h5 (h5.1 251 21) r7 (ok_bind hO)) ?_
      rintro _ _ ⟨r8, rfl, rfl, hO⟩
      refine rbx hG 4 53 56 [.putfield 1221] [] [] (wr h5 251 21 r8) (fun h9 => [(0, .ref 251), (1, .int x1)]) (fun h9 => []) (fun h9 => h9) [kd 251 = 12] (by decide +kernel) rfl kd_251 hO (fun h9 hO => ?_)
      refine rb hG 5 56 60 [.aload 0, .getfield 1222] [] [] [(0, .ref 251), (1, .int x1)] [.int (h9.1 251 22)] h9 [kd 251 = 12] (by decide +kernel) rfl kd_251 ?_
      refine ri hG .eq (51) 111 60 (by decide +kernel) (by decide) (fun c10 => ?_) (fun c10 => ?_)
      · have hO := ok_pos c10 hO
        refine rs hG [] [] rfl ?_
        exact j111 h9 hO
      · have hO := ok_neg c10 hO
        obtain ⟨g11, hO⟩ := ok_if hO
        obtain ⟨g12, hO⟩ := ok_if hO
        refine rbx hG 21 63 87 [.aload 0, .invokeinterface 1219 10, .iload 1, .aload 0, .invokeinterface 1220 11, .ldc_w 0, .iaload, .iadd, .dup2, .iaload, .ldc_w 1, .aload 0, .invokeinterface 1220 11, .ldc_w 1, .iaload, .ishl, .ior, .iastore] [0, 1] [] (wr h9 261 (Int32.toNatClampNeg (x1 + (h9.1 262 (Int32.toNatClampNeg (0 : Int32))))) ((h9.1 261 (Int32.toNatClampNeg (x1 + (h9.1 262 (Int32.toNatClampNeg (0 : Int32)))))) ||| (sh (1 : Int32) (h9.1 262 (Int32.toNatClampNeg (1 : Int32)))))) (fun h13 => [(0, .ref 251), (1, .int x1)]) (fun h13 => []) (fun h13 => h13) [kd 251 = 12, kd 251 = 12, kd 262 = 20 ∧ inb (0 : Int32) (ln 262), kd 261 = 20 ∧ inb (x1 + (h9.1 262 (Int32.toNatClampNeg (0 : Int32)))) (ln 261), kd 251 = 12, kd 262 = 20 ∧ inb (1 : Int32) (ln 262), kd 261 = 20 ∧ inb (x1 + (h9.1 262 (Int32.toNatClampNeg (0 : Int32)))) (ln 261)] (by decide +kernel) rfl ⟨kd_251, kd_251, ⟨kd_262, (by decide +kernel)⟩, ⟨kd_261, g11⟩, kd_251, ⟨kd_262, (by decide +kernel)⟩, ⟨kd_261, g12⟩⟩ hO (fun h13 hO => ?_)
        obtain ⟨g14, hO⟩ := ok_if hO
        obtain ⟨g15, hO⟩ := ok_if hO
        refine rbx hG 21 87 111 [.aload 0, .invokeinterface 1219 10, .iload 1, .aload 0, .invokeinterface 1220 11, .ldc_w 0, .iaload, .iadd, .dup2, .iaload, .ldc_w 0, .aload 0, .invokeinterface 1220 11, .ldc_w 1, .iaload, .ishl, .ior, .iastore] [1, 0] [] (wr h13 261 (Int32.toNatClampNeg (x1 + (h13.1 262 (Int32.toNatClampNeg (1 : Int32))))) ((h13.1 261 (Int32.toNatClampNeg (x1 + (h13.1 262 (Int32.toNatClampNeg (1 : Int32)))))) ||| (sh (1 : Int32) (h13.1 262 (Int32.toNatClampNeg (0 : Int32)))))) (fun h16 => [(0, .ref 251), (1, .int x1)]) (fun h16 => []) (fun h16 => h16) [kd 251 = 12, kd 251 = 12, kd 262 = 20 ∧ inb (1 : Int32) (ln 262), kd 261 = 20 ∧ inb (x1 + (h13.1 262 (Int32.toNatClampNeg (1 : Int32)))) (ln 261), kd 251 = 12, kd 262 = 20 ∧ inb (0 : Int32) (ln 262), kd 261 = 20 ∧ inb (x1 + (h13.1 262 (Int32.toNatClampNeg (1 : Int32)))) (ln 261)] (by decide +kernel) rfl ⟨kd_251, kd_251, ⟨kd_262, (by decide +kernel)⟩, ⟨kd_261, g14⟩, kd_251, ⟨kd_262, (by decide +kernel)⟩, ⟨kd_261, g15⟩⟩ hO (fun h16 hO => ?_)
        refine rs hG [] [] rfl ?_
        exact j111 h16 hO
/-! GrainInnModel.keep(IIII)V -/
noncomputable def M_keep_j52 (x1 : Int32) (h : Hp) : Option Hp := if inb x1 (ln 261) then (if inb x1 (ln 261) then (bnd (wr h 261 (Int32.toNatClampNeg x1) ((h.1 261 (Int32.toNatClampNeg x1)) + (1 : Int32))) fun h3 => some h3) else none) else none
noncomputable def M_keep_b19 (x1 : Int32) (x2 : Int32) (x3 : Int32) (x5 : Int32) (x6 : Int32) (h : Hp) : Option ((Int32 × Hp) ⊕ Hp) := if x3 ≤ x6 then (((M_keep_j52 x1 h).map Sum.inr)) else (if inb x6 (ln 262) then (if inb ((x2 + (x3 * x5)) + x6) (ln 261) then (bnd (wr h 261 (Int32.toNatClampNeg ((x2 + (x3 * x5)) + x6)) (h.1 262 (Int32.toNatClampNeg x6))) fun h7 => bnd ((x6 + (1 : Int32))) fun y8 => some (.inl (y8, h7))) else none) else none)
noncomputable def M_keep_l19 (x1 : Int32) (x2 : Int32) (x3 : Int32) (x5 : Int32) (x6 : Int32) (h : Hp) : Option Hp := lp (fun s : (Int32 × Hp) => M_keep_b19 x1 x2 x3 x5 s.1 s.2) (x6, h)
theorem M_keep_l19_eq (x1 : Int32) (x2 : Int32) (x3 : Int32) (x5 : Int32) (x6 : Int32) (h : Hp) : M_keep_l19 x1 x2 x3 x5 x6 h = (M_keep_b19 x1 x2 x3 x5 x6 h).bind (Sum.elim (fun q : (Int32 × Hp) => M_keep_l19 x1 x2 x3 x5 q.1 q.2) some) := lp_eq _ _
noncomputable def M_keep (h : Hp) (x1 : Int32) (x2 : Int32) (x3 : Int32) (x4 : Int32) : Option Hp := if inb x1 (ln 261) then (bnd ((h.1 261 (Int32.toNatClampNeg x1))) fun y10 => if y10 = x4 then (some h) else ((M_keep_l19 x1 x2 x3 y10 (0 : Int32) h))) else none
set_option maxRecDepth 100000 in
set_option maxHeartbeats 4000000 in
theorem c_M_keep {E : En} {d : Nat} (h : Hp) (x1 : Int32) (x2 : Int32) (x3 : Int32) (x4 : Int32) {P : Hp → Prop} (hO : Okk (M_keep h x1 x2 x3 x4) P) : Cn E (d + 1) z_M_keep [.ref 251, .int x1, .int x2, .int x3, .int x4] h (RV P) := by
  refine cn_of (on := 12) (d := d + 0) ⟨rfl, by decide +kernel, Nat.le_of_ble_eq_true rfl⟩ (fun G hG => ?_)
  unfold M_keep at hO
  show G 0 [(0, .ref 251), (1, .int x1), (2, .int x2), (3, .int x3), (4, .int x4)] [] h
  have j52 : ∀ (h : Hp), Okk (M_keep_j52 x1 h) P → G 52 [(0, .ref 251), (1, .int x1)] [] h := by
    intro h hO
    unfold M_keep_j52 at hO
    obtain ⟨g1, hO⟩ := ok_if hO
    obtain ⟨g2, hO⟩ := ok_if hO
    refine rbx hG 11 52 62 [.aload 0, .invokeinterface 1219 10, .iload 1, .dup2, .iaload, .ldc_w 0, .iadd, .iastore] [1] [] (wr h 261 (Int32.toNatClampNeg x1) ((h.1 261 (Int32.toNatClampNeg x1)) + (1 : Int32))) (fun h3 => [(0, .ref 251), (1, .int x1)]) (fun h3 => []) (fun h3 => h3) [kd 251 = 12, kd 261 = 20 ∧ inb x1 (ln 261), kd 261 = 20 ∧ inb x1 (ln 261)] (by decide +kernel) rfl ⟨kd_251, ⟨kd_261, g1⟩, ⟨kd_261, g2⟩⟩ hO (fun h3 hO => ?_)
    exact eV hG 62 (by decide +kernel) rfl ⟨rfl, ok_some (Q := P) hO⟩
  have l19 : ∀ (x5 : Int32) (x6 : Int32) (h : Hp), Okk (M_keep_l19 x1 x2 x3 x5 x6 h) P → G 19 [(0, .ref 251), (1, .int x1), (2, .int x2), (3, .int x3), (5, .int x5), (6, .int x6)] [] h := by
    intro x5 x6 h hO
    obtain ⟨H19, eH19⟩ : ∃ q : (Int32 × Hp) → Prop, q = fun s => G 19 [(0, .ref 251), (1, .int x1), (2, .int x2), (3, .int x3), (5, .int x5), (6, .int (s.1))] [] (s.2) := ⟨_, rfl⟩
    have w9 : H19 (x6, h) := by
      refine lp_wp (f := fun s : (Int32 × Hp) => M_keep_b19 x1 x2 x3 x5 s.1 s.2) (H := H19) (Q := P) ?_ (x6, h) hO
      rintro ⟨x6, h⟩ hO
      rw [eH19]
      show G 19 [(0, .ref 251), (1, .int x1), (2, .int x2), (3, .int x3), (5, .int x5), (6, .int x6)] [] h
      have k19 : ∀ s : (Int32 × Hp), H19 s → G 19 [(0, .ref 251), (1, .int x1), (2, .int x2), (3, .int x3), (5, .int x5), (6, .int (s.1))] [] (s.2) := fun s q => by rw [eH19] at q; exact q
      replace hO : Okk (M_keep_b19 x1 x2 x3 x5 x6 h) (Sum.elim H19 P) := hO
      clear eH19
      unfold M_keep_b19 at hO
      refine rb hG 5 19 22 [.iload 6, .iload 3] [] [] [(0, .ref 251), (1, .int x1), (2, .int x2), (3, .int x3), (5, .int x5), (6, .int x6)] [.int x3, .int x6] h [] (by decide +kernel) rfl trivial ?_
      refine rj hG .ge (30) 52 22 (by decide +kernel) (by decide) (fun c4 => ?_) (fun c4 => ?_)
      · have hO := ok_pos c4 hO
        refine rs hG [(0, .ref 251), (1, .int x1)] [0, 1] rfl ?_
        exact j52 h (ok_inr hO)
      · have hO := ok_neg c4 hO
        obtain ⟨g5, hO⟩ := ok_if hO
        obtain ⟨g6, hO⟩ := ok_if hO
        refine rbx hG 17 25 46 [.aload 0, .invokeinterface 1219 10, .iload 2, .iload 3, .iload 5, .imul, .iadd, .iload 6, .iadd, .aload 0, .invokeinterface 1220 11, .iload 6, .iaload, .iastore] [] [] (wr h 261 (Int32.toNatClampNeg ((x2 + (x3 * x5)) + x6)) (h.1 262 (Int32.toNatClampNeg x6))) (fun h7 => [(0, .ref 251), (1, .int x1), (2, .int x2), (3, .int x3), (5, .int x5), (6, .int x6)]) (fun h7 => []) (fun h7 => h7) [kd 251 = 12, kd 251 = 12, kd 262 = 20 ∧ inb x6 (ln 262), kd 261 = 20 ∧ inb ((x2 + (x3 * x5)) + x6) (ln 261)] (by decide +kernel) rfl ⟨kd_251, kd_251, ⟨kd_262, g5⟩, ⟨kd_261, g6⟩⟩ hO (fun h7 hO => ?_)
        refine rbx hG 4 46 49 [.iinc 6 0] [1] [] ((x6 + (1 : Int32))) (fun y8 => [(6, .int y8), (0, .ref 251), (1, .int x1), (2, .int x2), (3, .int x3), (5, .int x5)]) (fun y8 => []) (fun y8 => h7) [] (by decide +kernel) rfl trivial hO (fun y8 hO => ?_)
        refine rb hG 4 49 19 [] [] [] [(6, .int y8), (0, .ref 251), (1, .int x1), (2, .int x2), (3, .int x3), (5, .int x5)] [] h7 [] (by decide +kernel) rfl trivial ?_
        refine rs hG [(0, .ref 251), (1, .int x1), (2, .int x2), (3, .int x3), (5, .int x5), (6, .int y8)] [1, 2, 3, 4, 5, 0] rfl ?_
        exact k19 (y8, h7) (ok_some (Q := (Sum.elim H19 P)) hO)
    rw [eH19] at w9
    exact w9
  obtain ⟨g9, hO⟩ := ok_if hO
  refine rbx hG 8 0 8 [.aload 0, .invokeinterface 1219 10, .iload 1, .iaload, .istore 5] [] [] ((h.1 261 (Int32.toNatClampNeg x1))) (fun y10 => [(5, .int y10), (0, .ref 251), (1, .int x1), (2, .int x2), (3, .int x3), (4, .int x4)]) (fun y10 => []) (fun y10 => h) [kd 251 = 12, kd 261 = 20 ∧ inb x1 (ln 261)] (by decide +kernel) rfl ⟨kd_251, ⟨kd_261, g9⟩⟩ hO (fun y10 hO => ?_)
  refine rb hG 5 8 12 [.iload 5, .iload 4] [] [] [(5, .int y10), (0, .ref 251), (1, .int x1), (2, .int x2), (3, .int x3), (4, .int x4)] [.int x4, .int y10] h [] (by decide +kernel) rfl trivial ?_
  refine rjN hG (4) 16 12 (by decide +kernel) (by decide) (fun c11 => ?_) (fun c11 => ?_)
  · have hO := ok_pos c11 hO
    exact eV hG 15 (by decide +kernel) rfl ⟨rfl, ok_some (Q := P) hO⟩
  · have hO := ok_neg c11 hO
    refine rb hG 5 16 19 [.ldc_w 0, .istore 6] [0] [] [(6, .int (0 : Int32)), (5, .int y10), (0, .ref 251), (1, .int x1), (2, .int x2), (3, .int x3), (4, .int x4)] [] h [] (by decide +kernel) rfl trivial ?_
    refine rs hG [(0, .ref 251), (1, .int x1), (2, .int x2), (3, .int x3), (5, .int y10), (6, .int (0 : Int32))] [2, 3, 4, 5, 1, 0] rfl ?_
    exact l19 y10 (0 : Int32) h hO
/-! GrainInnModel.innLine(JI)Z -/
noncomputable def M_innLine_j88 (s1 : Int32) (h : Hp) : Option (Int32 × Hp) := (M_coupleLine h s1).bind fun (r1, h2) => if r1 = 0 ∨ r1 = 1 then (some (r1, h2)) else none
noncomputable def M_innLine_j72 (x1 : Int64) (h : Hp) : Option (Int32 × Hp) := if (lg_cmp x1 (31935733760681324 : Int64)) = 0 then ((M_innLine_j88 (17 : Int32) h)) else ((M_innLine_j88 (25 : Int32) h))
noncomputable def M_innLine_j160 (h : Hp) : Option (Int32 × Hp) := some ((0 : Int32), h)
noncomputable def M_innLine_j52 (x1 : Int64) (h : Hp) : Option (Int32 × Hp) := (M_token h).bind fun h5 => if (lg_cmp x1 (31935733760681324 : Int64)) = 0 then ((M_innLine_j72 x1 h5)) else (if (lg_cmp x1 (1819244133 : Int64)) = 0 then ((M_innLine_j72 x1 h5)) else (if (lg_cmp x1 (113753910899827 : Int64)) = 0 then ((M_take h5 (0 : Int32) (1 : Int32) (8 : Int32)).bind fun (r9, h10) => if r9 = 0 then (some ((0 : Int32), h10)) else (bnd (wr h10 261 (Int32.toNatClampNeg (1 : Int32)) (h10.1 262 (Int32.toNatClampNeg (0 : Int32)))) fun h12 => some ((1 : Int32), h12))) else ((M_take h5 (0 : Int32) (1 : Int32) (8 : Int32)).bind fun (r13, h14) => if r13 = 0 then ((M_innLine_j160 h14)) else ((M_take h14 (1 : Int32) (1 : Int32) (6 : Int32)).bind fun (r16, h17) => if r16 = 0 then ((M_innLine_j160 h17)) else ((M_take h17 (2 : Int32) (0 : Int32) (9 : Int32)).bind fun (r19, h20) => if r19 = 0 then ((M_innLine_j160 h20)) else ((M_keep h20 (0 : Int32) (2 : Int32) (3 : Int32) (5 : Int32)).bind fun h22 => some ((1 : Int32), h22)))))))
noncomputable def M_innLine_j37 (x1 : Int64) (x3 : Int32) (h : Hp) : Option (Int32 × Hp) := if (lg_cmp x1 (499850046565 : Int64)) = 0 then ((M_full h (0 : Int32) (5 : Int32) x3).bind fun h24 => (M_innLine_j52 x1 h24)) else ((M_innLine_j52 x1 h))
noncomputable def M_innLine (h : Hp) (x1 : Int64) (x3 : Int32) : Option (Int32 × Hp) := if (lg_cmp x1 (499850046565 : Int64)) = 0 then ((M_innLine_j37 x1 x3 h)) else (if (lg_cmp x1 (113753910899827 : Int64)) = 0 then ((M_innLine_j37 x1 x3 h)) else (if (lg_cmp x1 (31935733760681324 : Int64)) = 0 then ((M_innLine_j37 x1 x3 h)) else (if (lg_cmp x1 (1819244133 : Int64)) = 0 then ((M_innLine_j37 x1 x3 h)) else ((M_fails h).bind fun (r29, h30) => if r29 = 0 ∨ r29 = 1 then (some (r29, h30)) else none))))
set_option maxRecDepth 100000 in
set_option maxHeartbeats 4000000 in
theorem c_M_innLine {E : En} {d : Nat} (h : Hp) (x1 : Int64) (x3 : Int32) {P : (Int32 × Hp) → Prop} (hO : Okk (M_innLine h x1 x3) P) : Cn E (d + 6) z_M_innLine [.ref 251, .long x1, .int x3] h (RI P) := by
  refine cn_of (on := 12) (d := d + 5) ⟨rfl, by decide +kernel, Nat.le_of_ble_eq_true rfl⟩ (fun G hG => ?_)
  unfold M_innLine at hO
  show G 0 [(0, .ref 251), (1, .long x1), (3, .int x3)] [] h
  have j88 : ∀ (s1 : Int32) (h : Hp), Okk (M_innLine_j88 s1 h) P → G 88 [] [.int s1, .ref 251] h := by
    intro s1 h hO
    unfold M_innLine_j88 at hO
    refine rv hG z_M_coupleLine 192 1 88 251 [.int s1] [] (by decide +kernel) mk_M_coupleLine lk_12_192 rcv_251 rfl ⟨rfl, Nat.le_of_ble_eq_true rfl⟩ (c_M_coupleLine (d := d) h s1 (ok_bind hO)) ?_
    rintro _ h2 ⟨r1, rfl, hO⟩
    obtain ⟨g3, hO⟩ := ok_if hO
    exact eZ hG 91 (by decide +kernel) rfl g3 ⟨r1, rfl, ok_some (Q := P) hO⟩
  have j72 : ∀ (h : Hp), Okk (M_innLine_j72 x1 h) P → G 72 [(0, .ref 251), (1, .long x1)] [] h := by
    intro h hO
    unfold M_innLine_j72 at hO
    refine rb hG 7 72 78 [.aload 0, .lload 1, .ldc2_w 0, .lcmp] [] [31935733760681324] [(0, .ref 251), (1, .long x1)] [.int (lg_cmp x1 (31935733760681324 : Int64)), .ref 251] h [] (by decide +kernel) rfl trivial ?_
    refine riN hG (8) 86 78 (by decide +kernel) (by decide) (fun c4 => ?_) (fun c4 => ?_)
    · have hO := ok_pos c4 hO
      refine rb hG 5 81 88 [.ldc_w 0] [17] [] [(0, .ref 251), (1, .long x1)] [.int (17 : Int32), .ref 251] h [] (by decide +kernel) rfl trivial ?_
      refine rs hG [] [] rfl ?_
      exact j88 (17 : Int32) h hO
    · have hO := ok_neg c4 hO
      refine rb hG 4 86 88 [.ldc_w 0] [25] [] [(0, .ref 251), (1, .long x1)] [.int (25 : Int32), .ref 251] h [] (by decide +kernel) rfl trivial ?_
      refine rs hG [] [] rfl ?_
      exact j88 (25 : Int32) h hO
  have j160 : ∀ (h : Hp), Okk (M_innLine_j160 h) P → G 160 [] [] h := by
    intro h hO
    unfold M_innLine_j160 at hO
    refine rb hG 4 160 161 [.ldc_w 0] [0] [] [] [.int (0 : Int32)] h [] (by decide +kernel) rfl trivial ?_
    exact eZ hG 161 (by decide +kernel) rfl (Or.inl rfl) ⟨(0 : Int32), rfl, ok_some (Q := P) hO⟩
  have j52 : ∀ (h : Hp), Okk (M_innLine_j52 x1 h) P → G 52 [(0, .ref 251), (1, .long x1)] [] h := by
    intro h hO
    unfold M_innLine_j52 at hO
    refine rb hG 4 52 53 [.aload 0] [] [] [(0, .ref 251), (1, .long x1)] [.ref 251] h [] (by decide +kernel) rfl trivial ?_
    refine rv hG z_M_token 163 0 53 251 [] [] (by decide +kernel) mk_M_token lk_12_163 rcv_251 rfl ⟨rfl, Nat.le_of_ble_eq_true rfl⟩ (c_M_token (d := d + 3) h (ok_bind hO)) ?_
    rintro _ h5 ⟨rfl, hO⟩
    refine rb hG 6 56 61 [.lload 1, .ldc2_w 0, .lcmp] [] [31935733760681324] [(0, .ref 251), (1, .long x1)] [.int (lg_cmp x1 (31935733760681324 : Int64))] h5 [] (by decide +kernel) rfl trivial ?_
    refine ri hG .eq (11) 72 61 (by decide +kernel) (by decide) (fun c6 => ?_) (fun c6 => ?_)
    · have hO := ok_pos c6 hO
      exact j72 h5 hO
    · have hO := ok_neg c6 hO
      refine rb hG 6 64 69 [.lload 1, .ldc2_w 0, .lcmp] [] [1819244133] [(0, .ref 251), (1, .long x1)] [.int (lg_cmp x1 (1819244133 : Int64))] h5 [] (by decide +kernel) rfl trivial ?_
      refine riN hG (23) 92 69 (by decide +kernel) (by decide) (fun c7 => ?_) (fun c7 => ?_)
      · have hO := ok_pos c7 hO
        exact j72 h5 hO
      · have hO := ok_neg c7 hO
        refine rb hG 6 92 97 [.lload 1, .ldc2_w 0, .lcmp] [] [113753910899827] [(0, .ref 251), (1, .long x1)] [.int (lg_cmp x1 (113753910899827 : Int64))] h5 [] (by decide +kernel) rfl trivial ?_
        refine riN hG (30) 127 97 (by decide +kernel) (by decide) (fun c8 => ?_) (fun c8 => ?_)
        · have hO := ok_pos c8 hO
          refine rb hG 7 100 105 [.aload 0, .ldc_w 0, .ldc_w 1, .ldc_w 2] [0, 1, 8] [] [(0, .ref 251), (1, .long x1)] [.int (8 : Int32), .int (1 : Int32), .int (0 : Int32), .ref 251] h5 [] (by decide +kernel) rfl trivial ?_
          refine rv hG z_M_take 170 3 105 251 [.int (0 : Int32), .int (1 : Int32), .int (8 : Int32)] [] (by decide +kernel) mk_M_take lk_12_170 rcv_251 rfl ⟨rfl, Nat.le_of_ble_eq_true rfl⟩ (c_M_take (d := d + 1) h5 (0 : Int32) (1 : Int32) (8 : Int32) (ok_bind hO)) ?_
          rintro _ h10 ⟨r9, rfl, hO⟩
          refine riN hG (5) 113 108 (by decide +kernel) (by decide) (fun c11 => ?_) (fun c11 => ?_)
          · have hO := ok_pos c11 hO
            refine rb hG 4 111 112 [.ldc_w 0] [0] [] [(0, .ref 251), (1, .long x1)] [.int (0 : Int32)] h10 [] (by decide +kernel) rfl trivial ?_
            exact eZ hG 112 (by decide +kernel) rfl (Or.inl rfl) ⟨(0 : Int32), rfl, ok_some (Q := P) hO⟩
          · have hO := ok_neg c11 hO
            refine rbx hG 11 113 125 [.aload 0, .invokeinterface 1219 10, .ldc_w 0, .aload 0, .invokeinterface 1220 11, .ldc_w 1, .iaload, .iastore] [1, 0] [] (wr h10 261 (Int32.toNatClampNeg (1 : Int32)) (h10.1 262 (Int32.toNatClampNeg (0 : Int32)))) (fun h12 => [(0, .ref 251), (1, .long x1)]) (fun h12 => []) (fun h12 => h12) [kd 251 = 12, kd 251 = 12, kd 262 = 20 ∧ inb (0 : Int32) (ln 262), kd 261 = 20 ∧ inb (1 : Int32) (ln 261)] (by decide +kernel) rfl ⟨kd_251, kd_251, ⟨kd_262, (by decide +kernel)⟩, ⟨kd_261, (by decide +kernel)⟩⟩ hO (fun h12 hO => ?_)
            refine rb hG 4 125 126 [.ldc_w 0] [1] [] [(0, .ref 251), (1, .long x1)] [.int (1 : Int32)] h12 [] (by decide +kernel) rfl trivial ?_
            exact eZ hG 126 (by decide +kernel) rfl (Or.inr rfl) ⟨(1 : Int32), rfl, ok_some (Q := P) hO⟩
        · have hO := ok_neg c8 hO
          refine rb hG 7 127 132 [.aload 0, .ldc_w 0, .ldc_w 1, .ldc_w 2] [0, 1, 8] [] [(0, .ref 251), (1, .long x1)] [.int (8 : Int32), .int (1 : Int32), .int (0 : Int32), .ref 251] h5 [] (by decide +kernel) rfl trivial ?_
          refine rv hG z_M_take 170 3 132 251 [.int (0 : Int32), .int (1 : Int32), .int (8 : Int32)] [] (by decide +kernel) mk_M_take lk_12_170 rcv_251 rfl ⟨rfl, Nat.le_of_ble_eq_true rfl⟩ (c_M_take (d := d + 1) h5 (0 : Int32) (1 : Int32) (8 : Int32) (ok_bind hO)) ?_
          rintro _ h14 ⟨r13, rfl, hO⟩
          refine ri hG .eq (25) 160 135 (by decide +kernel) (by decide) (fun c15 => ?_) (fun c15 => ?_)
          · have hO := ok_pos c15 hO
            refine rs hG [] [] rfl ?_
            exact j160 h14 hO
          · have hO := ok_neg c15 hO
            refine rb hG 7 138 143 [.aload 0, .ldc_w 0, .ldc_w 0, .ldc_w 1] [1, 6] [] [(0, .ref 251), (1, .long x1)] [.int (6 : Int32), .int (1 : Int32), .int (1 : Int32), .ref 251] h14 [] (by decide +kernel) rfl trivial ?_
            refine rv hG z_M_take 170 3 143 251 [.int (1 : Int32), .int (1 : Int32), .int (6 : Int32)] [] (by decide +kernel) mk_M_take lk_12_170 rcv_251 rfl ⟨rfl, Nat.le_of_ble_eq_true rfl⟩ (c_M_take (d := d + 1) h14 (1 : Int32) (1 : Int32) (6 : Int32) (ok_bind hO)) ?_
            rintro _ h17 ⟨r16, rfl, hO⟩
            refine ri hG .eq (14) 160 146 (by decide +kernel) (by decide) (fun c18 => ?_) (fun c18 => ?_)
            · have hO := ok_pos c18 hO
              refine rs hG [] [] rfl ?_
              exact j160 h17 hO
            · have hO := ok_neg c18 hO
              refine rb hG 7 149 154 [.aload 0, .ldc_w 0, .ldc_w 1, .ldc_w 2] [2, 0, 9] [] [(0, .ref 251), (1, .long x1)] [.int (9 : Int32), .int (0 : Int32), .int (2 : Int32), .ref 251] h17 [] (by decide +kernel) rfl trivial ?_
              refine rv hG z_M_take 170 3 154 251 [.int (2 : Int32), .int (0 : Int32), .int (9 : Int32)] [] (by decide +kernel) mk_M_take lk_12_170 rcv_251 rfl ⟨rfl, Nat.le_of_ble_eq_true rfl⟩ (c_M_take (d := d + 1) h17 (2 : Int32) (0 : Int32) (9 : Int32) (ok_bind hO)) ?_
              rintro _ h20 ⟨r19, rfl, hO⟩
              refine riN hG (5) 162 157 (by decide +kernel) (by decide) (fun c21 => ?_) (fun c21 => ?_)
              · have hO := ok_pos c21 hO
                refine rs hG [] [] rfl ?_
                exact j160 h20 hO
              · have hO := ok_neg c21 hO
                refine rb hG 8 162 167 [.aload 0, .ldc_w 0, .ldc_w 1, .ldc_w 2, .ldc_w 3] [0, 2, 3, 5] [] [(0, .ref 251), (1, .long x1)] [.int (5 : Int32), .int (3 : Int32), .int (2 : Int32), .int (0 : Int32), .ref 251] h20 [] (by decide +kernel) rfl trivial ?_
                refine rv hG z_M_keep 196 4 167 251 [.int (0 : Int32), .int (2 : Int32), .int (3 : Int32), .int (5 : Int32)] [] (by decide +kernel) mk_M_keep lk_12_196 rcv_251 rfl ⟨rfl, Nat.le_of_ble_eq_true rfl⟩ (c_M_keep (d := d + 4) h20 (0 : Int32) (2 : Int32) (3 : Int32) (5 : Int32) (ok_bind hO)) ?_
                rintro _ h22 ⟨rfl, hO⟩
                refine rb hG 4 170 171 [.ldc_w 0] [1] [] [(0, .ref 251), (1, .long x1)] [.int (1 : Int32)] h22 [] (by decide +kernel) rfl trivial ?_
                exact eZ hG 171 (by decide +kernel) rfl (Or.inr rfl) ⟨(1 : Int32), rfl, ok_some (Q := P) hO⟩
  have j37 : ∀ (h : Hp), Okk (M_innLine_j37 x1 x3 h) P → G 37 [(0, .ref 251), (1, .long x1), (3, .int x3)] [] h := by
    intro h hO
    unfold M_innLine_j37 at hO
    refine rb hG 6 37 42 [.lload 1, .ldc2_w 0, .lcmp] [] [499850046565] [(0, .ref 251), (1, .long x1), (3, .int x3)] [.int (lg_cmp x1 (499850046565 : Int64))] h [] (by decide +kernel) rfl trivial ?_
    refine riN hG (10) 52 42 (by decide +kernel) (by decide) (fun c23 => ?_) (fun c23 => ?_)
    · have hO := ok_pos c23 hO
      refine rb hG 7 45 49 [.aload 0, .ldc_w 0, .ldc_w 1, .iload 3] [0, 5] [] [(0, .ref 251), (1, .long x1), (3, .int x3)] [.int x3, .int (5 : Int32), .int (0 : Int32), .ref 251] h [] (by decide +kernel) rfl trivial ?_
      refine rv hG z_M_full 188 3 49 251 [.int (0 : Int32), .int (5 : Int32), .int x3] [] (by decide +kernel) mk_M_full lk_12_188 rcv_251 rfl ⟨rfl, Nat.le_of_ble_eq_true rfl⟩ (c_M_full (d := d + 3) h (0 : Int32) (5 : Int32) x3 (ok_bind hO)) ?_
      rintro _ h24 ⟨rfl, hO⟩
      refine rs hG [(0, .ref 251), (1, .long x1)] [0, 1] rfl ?_
      exact j52 h24 hO
    · have hO := ok_neg c23 hO
      refine rs hG [(0, .ref 251), (1, .long x1)] [0, 1] rfl ?_
      exact j52 h hO
  refine rb hG 6 0 5 [.lload 1, .ldc2_w 0, .lcmp] [] [499850046565] [(0, .ref 251), (1, .long x1), (3, .int x3)] [.int (lg_cmp x1 (499850046565 : Int64))] h [] (by decide +kernel) rfl trivial ?_
  refine ri hG .eq (32) 37 5 (by decide +kernel) (by decide) (fun c25 => ?_) (fun c25 => ?_)
  · have hO := ok_pos c25 hO
    exact j37 h hO
  · have hO := ok_neg c25 hO
    refine rb hG 6 8 13 [.lload 1, .ldc2_w 0, .lcmp] [] [113753910899827] [(0, .ref 251), (1, .long x1), (3, .int x3)] [.int (lg_cmp x1 (113753910899827 : Int64))] h [] (by decide +kernel) rfl trivial ?_
    refine ri hG .eq (24) 37 13 (by decide +kernel) (by decide) (fun c26 => ?_) (fun c26 => ?_)
    · have hO := ok_pos c26 hO
      exact j37 h hO
    · have hO := ok_neg c26 hO
      refine rb hG 6 16 21 [.lload 1, .ldc2_w 0, .lcmp] [] [31935733760681324] [(0, .ref 251), (1, .long x1), (3, .int x3)] [.int (lg_cmp x1 (31935733760681324 : Int64))] h [] (by decide +kernel) rfl trivial ?_
      refine ri hG .eq (16) 37 21 (by decide +kernel) (by decide) (fun c27 => ?_) (fun c27 => ?_)
      · have hO := ok_pos c27 hO
        exact j37 h hO
      · have hO := ok_neg c27 hO
        refine rb hG 6 24 29 [.lload 1, .ldc2_w 0, .lcmp] [] [1819244133] [(0, .ref 251), (1, .long x1), (3, .int x3)] [.int (lg_cmp x1 (1819244133 : Int64))] h [] (by decide +kernel) rfl trivial ?_
        refine ri hG .eq (8) 37 29 (by decide +kernel) (by decide) (fun c28 => ?_) (fun c28 => ?_)
        · have hO := ok_pos c28 hO
          exact j37 h hO
        · have hO := ok_neg c28 hO
          refine rb hG 4 32 33 [.aload 0] [] [] [(0, .ref 251), (1, .long x1), (3, .int x3)] [.ref 251] h [] (by decide +kernel) rfl trivial ?_
          refine rv hG z_M_fails 151 0 33 251 [] [] (by decide +kernel) mk_M_fails lk_12_151 rcv_251 rfl ⟨rfl, Nat.le_of_ble_eq_true rfl⟩ (c_M_fails (d := d + 4) h (ok_bind hO)) ?_
          rintro _ h30 ⟨r29, rfl, hO⟩
          obtain ⟨g31, hO⟩ := ok_if hO
          exact eZ hG 36 (by decide +kernel) rfl g31 ⟨r29, rfl, ok_some (Q := P) hO⟩
