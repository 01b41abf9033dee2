/-! GrainInn.State.seatDrawn(II)I -/
noncomputable def S_seatDrawn_j100 (x2 : Int32) (x3 : Int32) (h : Hp) : Option (Int32 × Hp) := (J_bitCount x2).bind fun r1 => (J_bitCount x3).bind fun r2 => some ((r1 - r2), h)
noncomputable def S_seatDrawn_j94 (x2 : Int32) (x3 : Int32) (x4 : Int32) (h : Hp) : Option ((Int32 × Hp) ⊕ (Int32 × Hp)) := bnd ((x4 + (1 : Int32))) fun y3 => some (.inl (y3, h))
noncomputable def S_seatDrawn_b64 (x2 : Int32) (x3 : Int32) (x4 : Int32) (h : Hp) : Option ((Int32 × Hp) ⊕ (Int32 × Hp)) := if kd (Int32.toNatClampNeg (h.1 57 6)) = 1 then (if (h.1 (Int32.toNatClampNeg (h.1 57 6)) 6) ≤ x4 then (((S_seatDrawn_j100 x2 x3 h).map Sum.inr)) else ((K_isIn x3 x4).bind fun r6 => if r6 = 0 then ((S_seatDrawn_j94 x2 x3 x4 h)) else ((S_speak h x4 x4).bind fun (r8, h9) => (S_seatDrawn_j94 x2 x3 x4 h9)))) else none
noncomputable def S_seatDrawn_l64 (x2 : Int32) (x3 : Int32) (x4 : Int32) (h : Hp) : Option (Int32 × Hp) := lp (fun s : (Int32 × Hp) => S_seatDrawn_b64 x2 x3 s.1 s.2) (x4, h)
theorem S_seatDrawn_l64_eq (x2 : Int32) (x3 : Int32) (x4 : Int32) (h : Hp) : S_seatDrawn_l64 x2 x3 x4 h = (S_seatDrawn_b64 x2 x3 x4 h).bind (Sum.elim (fun q : (Int32 × Hp) => S_seatDrawn_l64 x2 x3 q.1 q.2) some) := lp_eq _ _
noncomputable def S_seatDrawn_j54 (x1 : Int32) (x2 : Int32) (x3 : Int32) (h : Hp) : Option (Int32 × Hp) := (S_sitDown h x1 x3).bind fun (r10, h11) => (S_seatDrawn_l64 x2 x3 (0 : Int32) h11)
noncomputable def S_seatDrawn_j48 (x1 : Int32) (x2 : Int32) (x3 : Int32) (x4 : Int32) (h : Hp) : Option ((Int32 × Int32) ⊕ (Int32 × Hp)) := bnd ((x4 + (1 : Int32))) fun y12 => some (.inl (x3, y12))
noncomputable def S_seatDrawn_b5 (x1 : Int32) (x2 : Int32) (x3 : Int32) (x4 : Int32) (h : Hp) : Option ((Int32 × Int32) ⊕ (Int32 × Hp)) := if kd (Int32.toNatClampNeg (h.1 57 6)) = 1 then (if (h.1 (Int32.toNatClampNeg (h.1 57 6)) 6) ≤ x4 then (((S_seatDrawn_j54 x1 x2 x3 h).map Sum.inr)) else ((K_isIn x2 x4).bind fun r15 => if r15 = 0 then ((S_seatDrawn_j48 x1 x2 x3 x4 h)) else ((J_bitCount x3).bind fun r17 => (H_seatsOf h (Int32.toNatClampNeg (h.1 57 6)) x1).bind fun r18 => if r18 ≤ r17 then ((S_seatDrawn_j48 x1 x2 x3 x4 h)) else (bnd ((x3 ||| (sh (1 : Int32) x4))) fun y20 => (S_seatDrawn_j48 x1 x2 y20 x4 h))))) else none
noncomputable def S_seatDrawn_l5 (x1 : Int32) (x2 : Int32) (x3 : Int32) (x4 : Int32) (h : Hp) : Option (Int32 × Hp) := lp (fun s : (Int32 × Int32) => S_seatDrawn_b5 x1 x2 s.1 s.2 h) (x3, x4)
theorem S_seatDrawn_l5_eq (x1 : Int32) (x2 : Int32) (x3 : Int32) (x4 : Int32) (h : Hp) : S_seatDrawn_l5 x1 x2 x3 x4 h = (S_seatDrawn_b5 x1 x2 x3 x4 h).bind (Sum.elim (fun q : (Int32 × Int32) => S_seatDrawn_l5 x1 x2 q.1 q.2 h) some) := lp_eq _ _
noncomputable def S_seatDrawn (h : Hp) (x1 : Int32) (x2 : Int32) : Option (Int32 × Hp) := (S_seatDrawn_l5 x1 x2 (0 : Int32) (0 : Int32) h)
set_option maxRecDepth 100000 in
set_option maxHeartbeats 4000000 in
theorem c_S_seatDrawn {E : En} {d : Nat} (h : Hp) (x1 : Int32) (x2 : Int32) {P : (Int32 × Hp) → Prop} (hO : Okk (S_seatDrawn h x1 x2) P) : Cn E (d + 5) z_S_seatDrawn [.ref 57, .int x1, .int x2] h (RI P) := by
  refine cn_of (on := 7) (d := d + 4) ⟨rfl, by decide +kernel, Nat.le_of_ble_eq_true rfl⟩ (fun G hG => ?_)
  unfold S_seatDrawn at hO
  show G 0 [(0, .ref 57), (1, .int x1), (2, .int x2)] [] h
  have j100 : ∀ (x3 : Int32) (h : Hp), Okk (S_seatDrawn_j100 x2 x3 h) P → G 100 [(2, .int x2), (3, .int x3)] [] h := by
    intro x3 h hO
    unfold S_seatDrawn_j100 at hO
    refine rb hG 4 100 101 [.iload 2] [] [] [(2, .int x2), (3, .int x3)] [.int x2] h [] (by decide +kernel) rfl trivial ?_
    refine rt hG z_J_bitCount 118 1 101 [.int x2] [] (by decide +kernel) mk_J_bitCount lk_7_118 rfl ⟨rfl, Nat.le_of_ble_eq_true rfl⟩ (c_J_bitCount (d := d + 3) h x2 (ok_bind hO)) ?_
    rintro _ _ ⟨r1, rfl, rfl, hO⟩
    refine rb hG 4 104 105 [.iload 3] [] [] [(2, .int x2), (3, .int x3)] [.int x3, .int r1] h [] (by decide +kernel) rfl trivial ?_
    refine rt hG z_J_bitCount 118 1 105 [.int x3] [.int r1] (by decide +kernel) mk_J_bitCount lk_7_118 rfl ⟨rfl, Nat.le_of_ble_eq_true rfl⟩ (c_J_bitCount (d := d + 3) h x3 (ok_bind hO)) ?_
    rintro _ _ ⟨r2, rfl, rfl, hO⟩
    refine rb hG 4 108 109 [.isub] [] [] [(2, .int x2), (3, .int x3)] [.int (r1 - r2)] h [] (by decide +kernel) rfl trivial ?_
    exact eI hG 109 (by decide +kernel) rfl ⟨(r1 - r2), rfl, ok_some (Q := P) hO⟩
  have l64 : ∀ (x3 : Int32) (x4 : Int32) (h : Hp), Okk (S_seatDrawn_l64 x2 x3 x4 h) P → G 64 [(0, .ref 57), (2, .int x2), (3, .int x3), (4, .int x4)] [] h := by
    intro x3 x4 h hO
    obtain ⟨H64, eH64⟩ : ∃ q : (Int32 × Hp) → Prop, q = fun s => G 64 [(0, .ref 57), (2, .int x2), (3, .int x3), (4, .int (s.1))] [] (s.2) := ⟨_, rfl⟩
    have w9 : H64 (x4, h) := by
      refine lp_wp (f := fun s : (Int32 × Hp) => S_seatDrawn_b64 x2 x3 s.1 s.2) (H := H64) (Q := P) ?_ (x4, h) hO
      rintro ⟨x4, h⟩ hO
      rw [eH64]
      show G 64 [(0, .ref 57), (2, .int x2), (3, .int x3), (4, .int x4)] [] h
      have k64 : ∀ s : (Int32 × Hp), H64 s → G 64 [(0, .ref 57), (2, .int x2), (3, .int x3), (4, .int (s.1))] [] (s.2) := fun s q => by rw [eH64] at q; exact q
      replace hO : Okk (S_seatDrawn_b64 x2 x3 x4 h) (Sum.elim H64 P) := hO
      clear eH64
      have j94 : ∀ (x4 : Int32) (h : Hp), Okk (S_seatDrawn_j94 x2 x3 x4 h) (Sum.elim H64 P) → G 94 [(0, .ref 57), (2, .int x2), (3, .int x3), (4, .int x4)] [] h := by
        intro x4 h hO
        unfold S_seatDrawn_j94 at hO
        refine rbx hG 4 94 97 [.iinc 4 0] [1] [] ((x4 + (1 : Int32))) (fun y3 => [(4, .int y3), (0, .ref 57), (2, .int x2), (3, .int x3)]) (fun y3 => []) (fun y3 => h) [] (by decide +kernel) rfl trivial hO (fun y3 hO => ?_)
        refine rb hG 4 97 64 [] [] [] [(4, .int y3), (0, .ref 57), (2, .int x2), (3, .int x3)] [] h [] (by decide +kernel) rfl trivial ?_
        refine rs hG [(0, .ref 57), (2, .int x2), (3, .int x3), (4, .int y3)] [1, 2, 3, 0] rfl ?_
        exact k64 (y3, h) (ok_some (Q := (Sum.elim H64 P)) hO)
      unfold S_seatDrawn_b64 at hO
      obtain ⟨g4, hO⟩ := ok_if hO
      refine rb hG 7 64 73 [.iload 4, .aload 0, .instanceof 706, .getfield 106] [] [] [(0, .ref 57), (2, .int x2), (3, .int x3), (4, .int x4)] [.int (h.1 (Int32.toNatClampNeg (h.1 57 6)) 6), .int x4] h [kd 57 = 7, kd (Int32.toNatClampNeg (h.1 57 6)) = 1] (by decide +kernel) rfl ⟨kd_57, g4⟩ ?_
      refine rj hG .ge (27) 100 73 (by decide +kernel) (by decide) (fun c5 => ?_) (fun c5 => ?_)
      · have hO := ok_pos c5 hO
        refine rs hG [(2, .int x2), (3, .int x3)] [1, 2] rfl ?_
        exact j100 x3 h (ok_inr hO)
      · have hO := ok_neg c5 hO
        refine rb hG 5 76 79 [.iload 3, .iload 4] [] [] [(0, .ref 57), (2, .int x2), (3, .int x3), (4, .int x4)] [.int x4, .int x3] h [] (by decide +kernel) rfl trivial ?_
        refine rt hG z_K_isIn 73 2 79 [.int x3, .int x4] [] (by decide +kernel) mk_K_isIn lk_7_73 rfl ⟨rfl, Nat.le_of_ble_eq_true rfl⟩ (c_K_isIn (d := d + 3) h x3 x4 (ok_bind hO)) ?_
        rintro _ _ ⟨r6, rfl, rfl, hO⟩
        refine ri hG .eq (12) 94 82 (by decide +kernel) (by decide) (fun c7 => ?_) (fun c7 => ?_)
        · have hO := ok_pos c7 hO
          exact j94 x4 h hO
        · have hO := ok_neg c7 hO
          refine rb hG 6 85 90 [.aload 0, .iload 4, .iload 4] [] [] [(0, .ref 57), (2, .int x2), (3, .int x3), (4, .int x4)] [.int x4, .int x4, .ref 57] h [] (by decide +kernel) rfl trivial ?_
          refine rv hG z_S_speak 92 2 90 57 [.int x4, .int x4] [] (by decide +kernel) mk_S_speak lk_7_92 rcv_57 rfl ⟨rfl, Nat.le_of_ble_eq_true rfl⟩ (c_S_speak (d := d + 1) h x4 x4 (ok_bind hO)) ?_
          rintro _ h9 ⟨r8, rfl, hO⟩
          refine rb hG 4 93 94 [.pop] [] [] [(0, .ref 57), (2, .int x2), (3, .int x3), (4, .int x4)] [] h9 [] (by decide +kernel) rfl trivial ?_
          exact j94 x4 h9 hO
    rw [eH64] at w9
    exact w9
  have j54 : ∀ (x3 : Int32) (h : Hp), Okk (S_seatDrawn_j54 x1 x2 x3 h) P → G 54 [(0, .ref 57), (1, .int x1), (2, .int x2), (3, .int x3)] [] h := by
    intro x3 h hO
    unfold S_seatDrawn_j54 at hO
    refine rb hG 6 54 57 [.aload 0, .iload 1, .iload 3] [] [] [(0, .ref 57), (1, .int x1), (2, .int x2), (3, .int x3)] [.int x3, .int x1, .ref 57] h [] (by decide +kernel) rfl trivial ?_
    refine rv hG z_S_sitDown 89 2 57 57 [.int x1, .int x3] [] (by decide +kernel) mk_S_sitDown lk_7_89 rcv_57 rfl ⟨rfl, Nat.le_of_ble_eq_true rfl⟩ (c_S_sitDown (d := d) h x1 x3 (ok_bind hO)) ?_
    rintro _ h11 ⟨r10, rfl, hO⟩
    refine rb hG 6 60 64 [.pop, .ldc_w 0, .istore 4] [0] [] [(4, .int (0 : Int32)), (0, .ref 57), (1, .int x1), (2, .int x2), (3, .int x3)] [] h11 [] (by decide +kernel) rfl trivial ?_
    refine rs hG [(0, .ref 57), (2, .int x2), (3, .int x3), (4, .int (0 : Int32))] [1, 3, 4, 0] rfl ?_
    exact l64 x3 (0 : Int32) h11 hO
  have l5 : ∀ (x3 : Int32) (x4 : Int32) (h : Hp), Okk (S_seatDrawn_l5 x1 x2 x3 x4 h) P → G 5 [(0, .ref 57), (1, .int x1), (2, .int x2), (3, .int x3), (4, .int x4)] [] h := by
    intro x3 x4 h hO
    obtain ⟨H5, eH5⟩ : ∃ q : (Int32 × Int32) → Prop, q = fun s => G 5 [(0, .ref 57), (1, .int x1), (2, .int x2), (3, .int (s.1)), (4, .int (s.2))] [] (h) := ⟨_, rfl⟩
    have w9 : H5 (x3, x4) := by
      refine lp_wp (f := fun s : (Int32 × Int32) => S_seatDrawn_b5 x1 x2 s.1 s.2 h) (H := H5) (Q := P) ?_ (x3, x4) hO
      rintro ⟨x3, x4⟩ hO
      rw [eH5]
      show G 5 [(0, .ref 57), (1, .int x1), (2, .int x2), (3, .int x3), (4, .int x4)] [] h
      have k5 : ∀ s : (Int32 × Int32), H5 s → G 5 [(0, .ref 57), (1, .int x1), (2, .int x2), (3, .int (s.1)), (4, .int (s.2))] [] (h) := fun s q => by rw [eH5] at q; exact q
      replace hO : Okk (S_seatDrawn_b5 x1 x2 x3 x4 h) (Sum.elim H5 P) := hO
      clear eH5
      have j48 : ∀ (x3 : Int32) (x4 : Int32), Okk (S_seatDrawn_j48 x1 x2 x3 x4 h) (Sum.elim H5 P) → G 48 [(0, .ref 57), (1, .int x1), (2, .int x2), (3, .int x3), (4, .int x4)] [] h := by
        intro x3 x4 hO
        unfold S_seatDrawn_j48 at hO
        refine rbx hG 4 48 51 [.iinc 4 0] [1] [] ((x4 + (1 : Int32))) (fun y12 => [(4, .int y12), (0, .ref 57), (1, .int x1), (2, .int x2), (3, .int x3)]) (fun y12 => []) (fun y12 => h) [] (by decide +kernel) rfl trivial hO (fun y12 hO => ?_)
        refine rb hG 4 51 5 [] [] [] [(4, .int y12), (0, .ref 57), (1, .int x1), (2, .int x2), (3, .int x3)] [] h [] (by decide +kernel) rfl trivial ?_
        refine rs hG [(0, .ref 57), (1, .int x1), (2, .int x2), (3, .int x3), (4, .int y12)] [1, 2, 3, 4, 0] rfl ?_
        exact k5 (x3, y12) (ok_some (Q := (Sum.elim H5 P)) hO)
      unfold S_seatDrawn_b5 at hO
      obtain ⟨g13, hO⟩ := ok_if hO
      refine rb hG 7 5 14 [.iload 4, .aload 0, .instanceof 706, .getfield 106] [] [] [(0, .ref 57), (1, .int x1), (2, .int x2), (3, .int x3), (4, .int x4)] [.int (h.1 (Int32.toNatClampNeg (h.1 57 6)) 6), .int x4] h [kd 57 = 7, kd (Int32.toNatClampNeg (h.1 57 6)) = 1] (by decide +kernel) rfl ⟨kd_57, g13⟩ ?_
      refine rj hG .ge (40) 54 14 (by decide +kernel) (by decide) (fun c14 => ?_) (fun c14 => ?_)
      · have hO := ok_pos c14 hO
        refine rs hG [(0, .ref 57), (1, .int x1), (2, .int x2), (3, .int x3)] [0, 1, 2, 3] rfl ?_
        exact j54 x3 h (ok_inr hO)
      · have hO := ok_neg c14 hO
        refine rb hG 5 17 20 [.iload 2, .iload 4] [] [] [(0, .ref 57), (1, .int x1), (2, .int x2), (3, .int x3), (4, .int x4)] [.int x4, .int x2] h [] (by decide +kernel) rfl trivial ?_
        refine rt hG z_K_isIn 73 2 20 [.int x2, .int x4] [] (by decide +kernel) mk_K_isIn lk_7_73 rfl ⟨rfl, Nat.le_of_ble_eq_true rfl⟩ (c_K_isIn (d := d + 3) h x2 x4 (ok_bind hO)) ?_
        rintro _ _ ⟨r15, rfl, rfl, hO⟩
        refine ri hG .eq (25) 48 23 (by decide +kernel) (by decide) (fun c16 => ?_) (fun c16 => ?_)
        · have hO := ok_pos c16 hO
          exact j48 x3 x4 hO
        · have hO := ok_neg c16 hO
          refine rb hG 4 26 27 [.iload 3] [] [] [(0, .ref 57), (1, .int x1), (2, .int x2), (3, .int x3), (4, .int x4)] [.int x3] h [] (by decide +kernel) rfl trivial ?_
          refine rt hG z_J_bitCount 118 1 27 [.int x3] [] (by decide +kernel) mk_J_bitCount lk_7_118 rfl ⟨rfl, Nat.le_of_ble_eq_true rfl⟩ (c_J_bitCount (d := d + 3) h x3 (ok_bind hO)) ?_
          rintro _ _ ⟨r17, rfl, rfl, hO⟩
          refine rb hG 6 30 35 [.aload 0, .instanceof 706, .iload 1] [] [] [(0, .ref 57), (1, .int x1), (2, .int x2), (3, .int x3), (4, .int x4)] [.int x1, .ref (Int32.toNatClampNeg (h.1 57 6)), .int r17] h [kd 57 = 7] (by decide +kernel) rfl kd_57 ?_
          refine rv hG z_H_seatsOf 123 1 35 (Int32.toNatClampNeg (h.1 57 6)) [.int x1] [.int r17] (by decide +kernel) mk_H_seatsOf lk_7_123 (rcv_H g13) rfl ⟨rfl, Nat.le_of_ble_eq_true rfl⟩ (c_H_seatsOf (d := d + 2) h (Int32.toNatClampNeg (h.1 57 6)) x1 (ok_bind hO)) ?_
          rintro _ _ ⟨r18, rfl, rfl, hO⟩
          refine rj hG .ge (10) 48 38 (by decide +kernel) (by decide) (fun c19 => ?_) (fun c19 => ?_)
          · have hO := ok_pos c19 hO
            exact j48 x3 x4 hO
          · have hO := ok_neg c19 hO
            refine rbx hG 9 41 48 [.iload 3, .ldc_w 0, .iload 4, .ishl, .ior, .istore 3] [1] [] ((x3 ||| (sh (1 : Int32) x4))) (fun y20 => [(3, .int y20), (0, .ref 57), (1, .int x1), (2, .int x2), (4, .int x4)]) (fun y20 => []) (fun y20 => h) [] (by decide +kernel) rfl trivial hO (fun y20 hO => ?_)
            refine rs hG [(0, .ref 57), (1, .int x1), (2, .int x2), (3, .int y20), (4, .int x4)] [1, 2, 3, 0, 4] rfl ?_
            exact j48 y20 x4 hO
    rw [eH5] at w9
    exact w9
  refine rb hG 7 0 5 [.ldc_w 0, .istore 3, .ldc_w 0, .istore 4] [0] [] [(4, .int (0 : Int32)), (3, .int (0 : Int32)), (0, .ref 57), (1, .int x1), (2, .int x2)] [] h [] (by decide +kernel) rfl trivial ?_
  refine rs hG [(0, .ref 57), (1, .int x1), (2, .int x2), (3, .int (0 : Int32)), (4, .int (0 : Int32))] [2, 3, 4, 1, 0] rfl ?_
  exact l5 (0 : Int32) (0 : Int32) h hO
/-! GrainInn.State.draw(LGrainInn$House;II)I -/
noncomputable def S_draw_j148 (x1 : Nat) (x5 : Int32) (h : Hp) : Option (Int32 × Hp) := some (x5, h)
noncomputable def S_draw_j138 (x1 : Nat) (x3 : Int32) (x4 : Int32) (x5 : Int32) (x6 : Int32) (h : Hp) : Option ((Int32 × Int32 × Int32 × Hp) ⊕ (Int32 × Hp)) := (S_endNight h).bind fun h1 => bnd ((x6 + (1 : Int32))) fun y2 => some (.inl (x4, x5, y2, h1))
noncomputable def S_draw_b102 (x1 : Nat) (x3 : Int32) (x4 : Int32) (x5 : Int32) (x6 : Int32) (x7 : Int32) (h : Hp) : Option ((Int32 × Int32 × Hp) ⊕ ((Int32 × Int32 × Int32 × Hp) ⊕ (Int32 × Hp))) := if kd (Int32.toNatClampNeg (h.1 57 6)) = 1 then (if (h.1 (Int32.toNatClampNeg (h.1 57 6)) 5) ≤ x7 then (((S_draw_j138 x1 x3 x4 x5 x6 h).map Sum.inr)) else (if inb x7 (ln 63) then ((S_seatDrawn h x7 (h.1 63 (Int32.toNatClampNeg x7))).bind fun (r6, h7) => bnd ((x5 + r6)) fun y8 => bnd ((x7 + (1 : Int32))) fun y9 => some (.inl (y8, y9, h7))) else none)) else none
noncomputable def S_draw_l102 (x1 : Nat) (x3 : Int32) (x4 : Int32) (x5 : Int32) (x6 : Int32) (x7 : Int32) (h : Hp) : Option ((Int32 × Int32 × Int32 × Hp) ⊕ (Int32 × Hp)) := lp (fun s : (Int32 × Int32 × Hp) => S_draw_b102 x1 x3 x4 s.1 x6 s.2.1 s.2.2) (x5, x7, h)
theorem S_draw_l102_eq (x1 : Nat) (x3 : Int32) (x4 : Int32) (x5 : Int32) (x6 : Int32) (x7 : Int32) (h : Hp) : S_draw_l102 x1 x3 x4 x5 x6 x7 h = (S_draw_b102 x1 x3 x4 x5 x6 x7 h).bind (Sum.elim (fun q : (Int32 × Int32 × Hp) => S_draw_l102 x1 x3 x4 q.1 x6 q.2.1 q.2.2) some) := lp_eq _ _
noncomputable def S_draw_j99 (x1 : Nat) (x3 : Int32) (x4 : Int32) (x5 : Int32) (x6 : Int32) (h : Hp) : Option ((Int32 × Int32 × Int32 × Hp) ⊕ (Int32 × Hp)) := (S_draw_l102 x1 x3 x4 x5 x6 (0 : Int32) h)
noncomputable def S_draw_b41 (x1 : Nat) (x3 : Int32) (x4 : Int32) (x5 : Int32) (x6 : Int32) (x7 : Int32) (h : Hp) : Option ((Int32 × Int32 × Hp) ⊕ ((Int32 × Int32 × Int32 × Hp) ⊕ (Int32 × Hp))) := if kd (Int32.toNatClampNeg (h.1 57 6)) = 1 then (if (h.1 (Int32.toNatClampNeg (h.1 57 6)) 6) ≤ x7 then (((S_draw_j99 x1 x3 x4 x5 x6 h).map Sum.inr)) else (bnd (((x4 * (1103515245 : Int32)) + (12345 : Int32))) fun y12 => if ¬ (h.1 (Int32.toNatClampNeg (h.1 57 6)) 5) = 0 then (bnd ((rm (us y12 (16 : Int32)) (h.1 (Int32.toNatClampNeg (h.1 57 6)) 5))) fun y14 => if inb y14 (ln 63) then (if inb y14 (ln 63) then (bnd (wr h 63 (Int32.toNatClampNeg y14) ((h.1 63 (Int32.toNatClampNeg y14)) ||| (sh (1 : Int32) x7))) fun h17 => bnd ((x7 + (1 : Int32))) fun y18 => some (.inl (y12, y18, h17))) else none) else none) else none)) else none
noncomputable def S_draw_l41 (x1 : Nat) (x3 : Int32) (x4 : Int32) (x5 : Int32) (x6 : Int32) (x7 : Int32) (h : Hp) : Option ((Int32 × Int32 × Int32 × Hp) ⊕ (Int32 × Hp)) := lp (fun s : (Int32 × Int32 × Hp) => S_draw_b41 x1 x3 s.1 x5 x6 s.2.1 s.2.2) (x4, x7, h)
theorem S_draw_l41_eq (x1 : Nat) (x3 : Int32) (x4 : Int32) (x5 : Int32) (x6 : Int32) (x7 : Int32) (h : Hp) : S_draw_l41 x1 x3 x4 x5 x6 x7 h = (S_draw_b41 x1 x3 x4 x5 x6 x7 h).bind (Sum.elim (fun q : (Int32 × Int32 × Hp) => S_draw_l41 x1 x3 q.1 x5 x6 q.2.1 q.2.2) some) := lp_eq _ _
noncomputable def S_draw_b14 (x1 : Nat) (x3 : Int32) (x4 : Int32) (x5 : Int32) (x6 : Int32) (h : Hp) : Option ((Int32 × Int32 × Int32 × Hp) ⊕ (Int32 × Hp)) := if x3 ≤ x6 then (((S_draw_j148 x1 x5 h).map Sum.inr)) else (if kd (Int32.toNatClampNeg (h.1 57 6)) = 1 then (if (h.1 (Int32.toNatClampNeg (h.1 57 6)) 5) ≤ 0 then (((S_draw_j148 x1 x5 h).map Sum.inr)) else ((J_fill h 63 (0 : Int32)).bind fun h22 => (S_draw_l41 x1 x3 x4 x5 x6 (0 : Int32) h22))) else none)
noncomputable def S_draw_l14 (x1 : Nat) (x3 : Int32) (x4 : Int32) (x5 : Int32) (x6 : Int32) (h : Hp) : Option (Int32 × Hp) := lp (fun s : (Int32 × Int32 × Int32 × Hp) => S_draw_b14 x1 x3 s.1 s.2.1 s.2.2.1 s.2.2.2) (x4, x5, x6, h)
theorem S_draw_l14_eq (x1 : Nat) (x3 : Int32) (x4 : Int32) (x5 : Int32) (x6 : Int32) (h : Hp) : S_draw_l14 x1 x3 x4 x5 x6 h = (S_draw_b14 x1 x3 x4 x5 x6 h).bind (Sum.elim (fun q : (Int32 × Int32 × Int32 × Hp) => S_draw_l14 x1 x3 q.1 q.2.1 q.2.2.1 q.2.2.2) some) := lp_eq _ _
noncomputable def S_draw (h : Hp) (x1 : Nat) (x2 : Int32) (x3 : Int32) : Option (Int32 × Hp) := (S_begin h x1).bind fun h23 => (S_draw_l14 x1 x3 x2 (0 : Int32) (0 : Int32) h23)
set_option maxRecDepth 100000 in
set_option maxHeartbeats 4000000 in
theorem c_S_draw {E : En} {d : Nat} (h : Hp) (x1 : Nat) (x2 : Int32) (x3 : Int32) {P : (Int32 × Hp) → Prop} (hO : Okk (S_draw h x1 x2 x3) P) : Cn E (d + 6) z_S_draw [.ref 57, .ref x1, .int x2, .int x3] h (RI P) := by
  refine cn_of (on := 7) (d := d + 5) ⟨rfl, by decide +kernel, Nat.le_of_ble_eq_true rfl⟩ (fun G hG => ?_)
  unfold S_draw at hO
  show G 0 [(0, .ref 57), (1, .ref x1), (2, .int x2), (3, .int x3)] [] h
  have j148 : ∀ (x5 : Int32) (h : Hp), Okk (S_draw_j148 x1 x5 h) P → G 148 [(5, .int x5)] [] h := by
    intro x5 h hO
    unfold S_draw_j148 at hO
    refine rb hG 4 148 150 [.iload 5] [] [] [(5, .int x5)] [.int x5] h [] (by decide +kernel) rfl trivial ?_
    exact eI hG 150 (by decide +kernel) rfl ⟨x5, rfl, ok_some (Q := P) hO⟩
  have l14 : ∀ (x4 : Int32) (x5 : Int32) (x6 : Int32) (h : Hp), Okk (S_draw_l14 x1 x3 x4 x5 x6 h) P → G 14 [(0, .ref 57), (3, .int x3), (4, .int x4), (5, .int x5), (6, .int x6)] [] h := by
    intro x4 x5 x6 h hO
    obtain ⟨H14, eH14⟩ : ∃ q : (Int32 × Int32 × Int32 × Hp) → Prop, q = fun s => G 14 [(0, .ref 57), (3, .int x3), (4, .int (s.1)), (5, .int (s.2.1)), (6, .int (s.2.2.1))] [] (s.2.2.2) := ⟨_, rfl⟩
    have w9 : H14 (x4, x5, x6, h) := by
      refine lp_wp (f := fun s : (Int32 × Int32 × Int32 × Hp) => S_draw_b14 x1 x3 s.1 s.2.1 s.2.2.1 s.2.2.2) (H := H14) (Q := P) ?_ (x4, x5, x6, h) hO
      rintro ⟨x4, x5, x6, h⟩ hO
      rw [eH14]
      show G 14 [(0, .ref 57), (3, .int x3), (4, .int x4), (5, .int x5), (6, .int x6)] [] h
      have k14 : ∀ s : (Int32 × Int32 × Int32 × Hp), H14 s → G 14 [(0, .ref 57), (3, .int x3), (4, .int (s.1)), (5, .int (s.2.1)), (6, .int (s.2.2.1))] [] (s.2.2.2) := fun s q => by rw [eH14] at q; exact q
      replace hO : Okk (S_draw_b14 x1 x3 x4 x5 x6 h) (Sum.elim H14 P) := hO
      clear eH14
      have j138 : ∀ (x4 : Int32) (x5 : Int32) (x6 : Int32) (h : Hp), Okk (S_draw_j138 x1 x3 x4 x5 x6 h) (Sum.elim H14 P) → G 138 [(0, .ref 57), (3, .int x3), (4, .int x4), (5, .int x5), (6, .int x6)] [] h := by
        intro x4 x5 x6 h hO
        unfold S_draw_j138 at hO
        refine rb hG 4 138 139 [.aload 0] [] [] [(0, .ref 57), (3, .int x3), (4, .int x4), (5, .int x5), (6, .int x6)] [.ref 57] h [] (by decide +kernel) rfl trivial ?_
        refine rv hG z_S_endNight 95 0 139 57 [] [] (by decide +kernel) mk_S_endNight lk_7_95 rcv_57 rfl ⟨rfl, Nat.le_of_ble_eq_true rfl⟩ (c_S_endNight (d := d + 2) h (ok_bind hO)) ?_
        rintro _ h1 ⟨rfl, hO⟩
        refine rbx hG 4 142 145 [.iinc 6 0] [1] [] ((x6 + (1 : Int32))) (fun y2 => [(6, .int y2), (0, .ref 57), (3, .int x3), (4, .int x4), (5, .int x5)]) (fun y2 => []) (fun y2 => h1) [] (by decide +kernel) rfl trivial hO (fun y2 hO => ?_)
        refine rb hG 4 145 14 [] [] [] [(6, .int y2), (0, .ref 57), (3, .int x3), (4, .int x4), (5, .int x5)] [] h1 [] (by decide +kernel) rfl trivial ?_
        refine rs hG [(0, .ref 57), (3, .int x3), (4, .int x4), (5, .int x5), (6, .int y2)] [1, 2, 3, 4, 0] rfl ?_
        exact k14 (x4, x5, y2, h1) (ok_some (Q := (Sum.elim H14 P)) hO)
      have l102 : ∀ (x4 : Int32) (x5 : Int32) (x6 : Int32) (x7 : Int32) (h : Hp), Okk (S_draw_l102 x1 x3 x4 x5 x6 x7 h) (Sum.elim H14 P) → G 102 [(0, .ref 57), (3, .int x3), (4, .int x4), (5, .int x5), (6, .int x6), (7, .int x7)] [] h := by
        intro x4 x5 x6 x7 h hO
        obtain ⟨H102, eH102⟩ : ∃ q : (Int32 × Int32 × Hp) → Prop, q = fun s => G 102 [(0, .ref 57), (3, .int x3), (4, .int x4), (5, .int (s.1)), (6, .int x6), (7, .int (s.2.1))] [] (s.2.2) := ⟨_, rfl⟩
        have w9 : H102 (x5, x7, h) := by
          refine lp_wp (f := fun s : (Int32 × Int32 × Hp) => S_draw_b102 x1 x3 x4 s.1 x6 s.2.1 s.2.2) (H := H102) (Q := (Sum.elim H14 P)) ?_ (x5, x7, h) hO
          rintro ⟨x5, x7, h⟩ hO
          rw [eH102]
          show G 102 [(0, .ref 57), (3, .int x3), (4, .int x4), (5, .int x5), (6, .int x6), (7, .int x7)] [] h
          have k102 : ∀ s : (Int32 × Int32 × Hp), H102 s → G 102 [(0, .ref 57), (3, .int x3), (4, .int x4), (5, .int (s.1)), (6, .int x6), (7, .int (s.2.1))] [] (s.2.2) := fun s q => by rw [eH102] at q; exact q
          replace hO : Okk (S_draw_b102 x1 x3 x4 x5 x6 x7 h) (Sum.elim H102 (Sum.elim H14 P)) := hO
          clear eH102
          unfold S_draw_b102 at hO
          obtain ⟨g3, hO⟩ := ok_if hO
          refine rb hG 7 102 111 [.iload 7, .aload 0, .instanceof 706, .getfield 105] [] [] [(0, .ref 57), (3, .int x3), (4, .int x4), (5, .int x5), (6, .int x6), (7, .int x7)] [.int (h.1 (Int32.toNatClampNeg (h.1 57 6)) 5), .int x7] h [kd 57 = 7, kd (Int32.toNatClampNeg (h.1 57 6)) = 1] (by decide +kernel) rfl ⟨kd_57, g3⟩ ?_
          refine rj hG .ge (27) 138 111 (by decide +kernel) (by decide) (fun c4 => ?_) (fun c4 => ?_)
          · have hO := ok_pos c4 hO
            refine rs hG [(0, .ref 57), (3, .int x3), (4, .int x4), (5, .int x5), (6, .int x6)] [0, 1, 2, 3, 4] rfl ?_
            exact j138 x4 x5 x6 h (ok_inr hO)
          · have hO := ok_neg c4 hO
            obtain ⟨g5, hO⟩ := ok_if hO
            refine rb hG 10 114 126 [.iload 5, .aload 0, .iload 7, .aload 0, .invokeinterface 705 6, .iload 7, .iaload] [] [] [(0, .ref 57), (3, .int x3), (4, .int x4), (5, .int x5), (6, .int x6), (7, .int x7)] [.int (h.1 63 (Int32.toNatClampNeg x7)), .int x7, .ref 57, .int x5] h [kd 57 = 7, kd 63 = 20 ∧ inb x7 (ln 63)] (by decide +kernel) rfl ⟨kd_57, ⟨kd_63, g5⟩⟩ ?_
            refine rv hG z_S_seatDrawn 204 2 126 57 [.int x7, .int (h.1 63 (Int32.toNatClampNeg x7))] [.int x5] (by decide +kernel) mk_S_seatDrawn lk_7_204 rcv_57 rfl ⟨rfl, Nat.le_of_ble_eq_true rfl⟩ (c_S_seatDrawn (d := d) h x7 (h.1 63 (Int32.toNatClampNeg x7)) (ok_bind hO)) ?_
            rintro _ h7 ⟨r6, rfl, hO⟩
            refine rbx hG 5 129 132 [.iadd, .istore 5] [] [] ((x5 + r6)) (fun y8 => [(5, .int y8), (0, .ref 57), (3, .int x3), (4, .int x4), (6, .int x6), (7, .int x7)]) (fun y8 => []) (fun y8 => h7) [] (by decide +kernel) rfl trivial hO (fun y8 hO => ?_)
            refine rbx hG 4 132 135 [.iinc 7 0] [1] [] ((x7 + (1 : Int32))) (fun y9 => [(7, .int y9), (5, .int y8), (0, .ref 57), (3, .int x3), (4, .int x4), (6, .int x6)]) (fun y9 => []) (fun y9 => h7) [] (by decide +kernel) rfl trivial hO (fun y9 hO => ?_)
            refine rb hG 4 135 102 [] [] [] [(7, .int y9), (5, .int y8), (0, .ref 57), (3, .int x3), (4, .int x4), (6, .int x6)] [] h7 [] (by decide +kernel) rfl trivial ?_
            refine rs hG [(0, .ref 57), (3, .int x3), (4, .int x4), (5, .int y8), (6, .int x6), (7, .int y9)] [2, 3, 4, 1, 5, 0] rfl ?_
            exact k102 (y8, y9, h7) (ok_some (Q := (Sum.elim H102 (Sum.elim H14 P))) hO)
        rw [eH102] at w9
        exact w9
      have j99 : ∀ (x4 : Int32) (x5 : Int32) (x6 : Int32) (h : Hp), Okk (S_draw_j99 x1 x3 x4 x5 x6 h) (Sum.elim H14 P) → G 99 [(0, .ref 57), (3, .int x3), (4, .int x4), (5, .int x5), (6, .int x6)] [] h := by
        intro x4 x5 x6 h hO
        unfold S_draw_j99 at hO
        refine rb hG 5 99 102 [.ldc_w 0, .istore 7] [0] [] [(7, .int (0 : Int32)), (0, .ref 57), (3, .int x3), (4, .int x4), (5, .int x5), (6, .int x6)] [] h [] (by decide +kernel) rfl trivial ?_
        refine rs hG [(0, .ref 57), (3, .int x3), (4, .int x4), (5, .int x5), (6, .int x6), (7, .int (0 : Int32))] [1, 2, 3, 4, 5, 0] rfl ?_
        exact l102 x4 x5 x6 (0 : Int32) h hO
      have l41 : ∀ (x4 : Int32) (x5 : Int32) (x6 : Int32) (x7 : Int32) (h : Hp), Okk (S_draw_l41 x1 x3 x4 x5 x6 x7 h) (Sum.elim H14 P) → G 41 [(0, .ref 57), (3, .int x3), (4, .int x4), (5, .int x5), (6, .int x6), (7, .int x7)] [] h := by
        intro x4 x5 x6 x7 h hO
        obtain ⟨H41, eH41⟩ : ∃ q : (Int32 × Int32 × Hp) → Prop, q = fun s => G 41 [(0, .ref 57), (3, .int x3), (4, .int (s.1)), (5, .int x5), (6, .int x6), (7, .int (s.2.1))] [] (s.2.2) := ⟨_, rfl⟩
        have w9 : H41 (x4, x7, h) := by
          refine lp_wp (f := fun s : (Int32 × Int32 × Hp) => S_draw_b41 x1 x3 s.1 x5 x6 s.2.1 s.2.2) (H := H41) (Q := (Sum.elim H14 P)) ?_ (x4, x7, h) hO
          rintro ⟨x4, x7, h⟩ hO
          rw [eH41]
          show G 41 [(0, .ref 57), (3, .int x3), (4, .int x4), (5, .int x5), (6, .int x6), (7, .int x7)] [] h
          have k41 : ∀ s : (Int32 × Int32 × Hp), H41 s → G 41 [(0, .ref 57), (3, .int x3), (4, .int (s.1)), (5, .int x5), (6, .int x6), (7, .int (s.2.1))] [] (s.2.2) := fun s q => by rw [eH41] at q; exact q
          replace hO : Okk (S_draw_b41 x1 x3 x4 x5 x6 x7 h) (Sum.elim H41 (Sum.elim H14 P)) := hO
          clear eH41
          unfold S_draw_b41 at hO
          obtain ⟨g10, hO⟩ := ok_if hO
          refine rb hG 7 41 50 [.iload 7, .aload 0, .instanceof 706, .getfield 106] [] [] [(0, .ref 57), (3, .int x3), (4, .int x4), (5, .int x5), (6, .int x6), (7, .int x7)] [.int (h.1 (Int32.toNatClampNeg (h.1 57 6)) 6), .int x7] h [kd 57 = 7, kd (Int32.toNatClampNeg (h.1 57 6)) = 1] (by decide +kernel) rfl ⟨kd_57, g10⟩ ?_
          refine rj hG .ge (49) 99 50 (by decide +kernel) (by decide) (fun c11 => ?_) (fun c11 => ?_)
          · have hO := ok_pos c11 hO
            refine rs hG [(0, .ref 57), (3, .int x3), (4, .int x4), (5, .int x5), (6, .int x6)] [0, 1, 2, 3, 4] rfl ?_
            exact j99 x4 x5 x6 h (ok_inr hO)
          · have hO := ok_neg c11 hO
            refine rbx hG 9 53 64 [.iload 4, .ldc_w 0, .imul, .ldc_w 1, .iadd, .istore 4] [1103515245, 12345] [] (((x4 * (1103515245 : Int32)) + (12345 : Int32))) (fun y12 => [(4, .int y12), (0, .ref 57), (3, .int x3), (5, .int x5), (6, .int x6), (7, .int x7)]) (fun y12 => []) (fun y12 => h) [] (by decide +kernel) rfl trivial hO (fun y12 hO => ?_)
            obtain ⟨g13, hO⟩ := ok_if hO
            refine rbx hG 11 64 79 [.iload 4, .ldc_w 0, .iushr, .aload 0, .instanceof 706, .getfield 105, .irem, .istore 8] [16] [] ((rm (us y12 (16 : Int32)) (h.1 (Int32.toNatClampNeg (h.1 57 6)) 5))) (fun y14 => [(8, .int y14), (4, .int y12), (0, .ref 57), (3, .int x3), (5, .int x5), (6, .int x6), (7, .int x7)]) (fun y14 => []) (fun y14 => h) [kd 57 = 7, kd (Int32.toNatClampNeg (h.1 57 6)) = 1, ¬ (h.1 (Int32.toNatClampNeg (h.1 57 6)) 5) = 0] (by decide +kernel) rfl ⟨kd_57, g10, g13⟩ hO (fun y14 hO => ?_)
            obtain ⟨g15, hO⟩ := ok_if hO
            obtain ⟨g16, hO⟩ := ok_if hO
            refine rbx hG 13 79 93 [.aload 0, .invokeinterface 705 6, .iload 8, .dup2, .iaload, .ldc_w 0, .iload 7, .ishl, .ior, .iastore] [1] [] (wr h 63 (Int32.toNatClampNeg y14) ((h.1 63 (Int32.toNatClampNeg y14)) ||| (sh (1 : Int32) x7))) (fun h17 => [(8, .int y14), (4, .int y12), (0, .ref 57), (3, .int x3), (5, .int x5), (6, .int x6), (7, .int x7)]) (fun h17 => []) (fun h17 => h17) [kd 57 = 7, kd 63 = 20 ∧ inb y14 (ln 63), kd 63 = 20 ∧ inb y14 (ln 63)] (by decide +kernel) rfl ⟨kd_57, ⟨kd_63, g15⟩, ⟨kd_63, g16⟩⟩ hO (fun h17 hO => ?_)
            refine rbx hG 4 93 96 [.iinc 7 0] [1] [] ((x7 + (1 : Int32))) (fun y18 => [(7, .int y18), (8, .int y14), (4, .int y12), (0, .ref 57), (3, .int x3), (5, .int x5), (6, .int x6)]) (fun y18 => []) (fun y18 => h17) [] (by decide +kernel) rfl trivial hO (fun y18 hO => ?_)
            refine rb hG 4 96 41 [] [] [] [(7, .int y18), (8, .int y14), (4, .int y12), (0, .ref 57), (3, .int x3), (5, .int x5), (6, .int x6)] [] h17 [] (by decide +kernel) rfl trivial ?_
            refine rs hG [(0, .ref 57), (3, .int x3), (4, .int y12), (5, .int x5), (6, .int x6), (7, .int y18)] [3, 4, 2, 5, 6, 0] rfl ?_
            exact k41 (y12, y18, h17) (ok_some (Q := (Sum.elim H41 (Sum.elim H14 P))) hO)
        rw [eH41] at w9
        exact w9
      unfold S_draw_b14 at hO
      refine rb hG 5 14 17 [.iload 6, .iload 3] [] [] [(0, .ref 57), (3, .int x3), (4, .int x4), (5, .int x5), (6, .int x6)] [.int x3, .int x6] h [] (by decide +kernel) rfl trivial ?_
      refine rj hG .ge (131) 148 17 (by decide +kernel) (by decide) (fun c19 => ?_) (fun c19 => ?_)
      · have hO := ok_pos c19 hO
        refine rs hG [(5, .int x5)] [3] rfl ?_
        exact j148 x5 h (ok_inr hO)
      · have hO := ok_neg c19 hO
        obtain ⟨g20, hO⟩ := ok_if hO
        refine rb hG 6 20 27 [.aload 0, .instanceof 706, .getfield 105] [] [] [(0, .ref 57), (3, .int x3), (4, .int x4), (5, .int x5), (6, .int x6)] [.int (h.1 (Int32.toNatClampNeg (h.1 57 6)) 5)] h [kd 57 = 7, kd (Int32.toNatClampNeg (h.1 57 6)) = 1] (by decide +kernel) rfl ⟨kd_57, g20⟩ ?_
        refine ri hG .le (121) 148 27 (by decide +kernel) (by decide) (fun c21 => ?_) (fun c21 => ?_)
        · have hO := ok_pos c21 hO
          refine rs hG [(5, .int x5)] [3] rfl ?_
          exact j148 x5 h (ok_inr hO)
        · have hO := ok_neg c21 hO
          refine rb hG 6 30 35 [.aload 0, .invokeinterface 705 6, .ldc_w 0] [0] [] [(0, .ref 57), (3, .int x3), (4, .int x4), (5, .int x5), (6, .int x6)] [.int (0 : Int32), .ref 63] h [kd 57 = 7] (by decide +kernel) rfl kd_57 ?_
          refine rt hG z_J_fill 57 2 35 [.ref 63, .int (0 : Int32)] [] (by decide +kernel) mk_J_fill lk_7_57 rfl ⟨rfl, Nat.le_of_ble_eq_true rfl⟩ (c_J_fill (d := d + 4) h 63 (0 : Int32) (ok_bind hO)) ?_
          rintro _ h22 ⟨rfl, hO⟩
          refine rb hG 5 38 41 [.ldc_w 0, .istore 7] [0] [] [(7, .int (0 : Int32)), (0, .ref 57), (3, .int x3), (4, .int x4), (5, .int x5), (6, .int x6)] [] h22 [] (by decide +kernel) rfl trivial ?_
          refine rs hG [(0, .ref 57), (3, .int x3), (4, .int x4), (5, .int x5), (6, .int x6), (7, .int (0 : Int32))] [1, 2, 3, 4, 5, 0] rfl ?_
          exact l41 x4 x5 x6 (0 : Int32) h22 hO
    rw [eH14] at w9
    exact w9
  refine rb hG 5 0 2 [.aload 0, .aload 1] [] [] [(0, .ref 57), (1, .ref x1), (2, .int x2), (3, .int x3)] [.ref x1, .ref 57] h [] (by decide +kernel) rfl trivial ?_
  refine rv hG z_S_begin 193 1 2 57 [.ref x1] [] (by decide +kernel) mk_S_begin lk_7_193 rcv_57 rfl ⟨rfl, Nat.le_of_ble_eq_true rfl⟩ (c_S_begin (d := d + 3) h x1 (ok_bind hO)) ?_
  rintro _ h23 ⟨rfl, hO⟩
  refine rb hG 9 5 14 [.iload 2, .istore 4, .ldc_w 0, .istore 5, .ldc_w 0, .istore 6] [0] [] [(6, .int (0 : Int32)), (5, .int (0 : Int32)), (4, .int x2), (0, .ref 57), (1, .ref x1), (2, .int x2), (3, .int x3)] [] h23 [] (by decide +kernel) rfl trivial ?_
  refine rs hG [(0, .ref 57), (3, .int x3), (4, .int x2), (5, .int (0 : Int32)), (6, .int (0 : Int32))] [3, 6, 2, 1, 0] rfl ?_
  exact l14 x2 (0 : Int32) (0 : Int32) h23 hO
/-! GrainInn.drawnFact(LGrainInn$State;I)I -/
noncomputable def K_drawnFact_j110 (x0 : Nat) (s0 : Int32) (h : Hp) : Option Int32 := some s0
noncomputable def K_drawnFact_j97 (x0 : Nat) (x2 : Nat) (h : Hp) : Option Int32 := if x2 = 0 then ((K_drawnFact_j110 x0 (-2 : Int32) h)) else (if kd x2 = 0 then ((K_drawnFact_j110 x0 (h.1 x2 4) h)) else none)
noncomputable def K_drawnFact_j71 (x0 : Nat) (s0 : Int32) (h : Hp) : Option Int32 := some s0
noncomputable def K_drawnFact (h : Hp) (x0 : Nat) (x1 : Int32) : Option Int32 := if x0 = 57 then (if kd (Int32.toNatClampNeg (h.1 57 6)) = 1 then ((K_isOf x1 (10 : Int32) (h.1 (Int32.toNatClampNeg (h.1 57 6)) 6)).bind fun r5 => if r5 = 0 then ((K_isOf x1 (20 : Int32) (h.1 (Int32.toNatClampNeg (h.1 57 6)) 5)).bind fun r7 => if r7 = 0 then ((K_isOf x1 (30 : Int32) (h.1 (Int32.toNatClampNeg (h.1 57 6)) 5)).bind fun r9 => if r9 = 0 then ((K_drawnFact_j97 x0 0 h)) else ((S_benchAt h (x1 - (30 : Int32))).bind fun r11 => (K_drawnFact_j97 x0 r11 h))) else ((S_benchAt h (x1 - (20 : Int32))).bind fun r12 => if r12 = 0 then ((K_drawnFact_j71 x0 (-2 : Int32) h)) else (if kd r12 = 0 then ((B_guestsOf h r12 ((h.1 r12 3) - (1 : Int32))).bind fun r15 => (K_drawnFact_j71 x0 r15 h)) else none))) else ((S_heardBy h (x1 - (10 : Int32))).bind fun r16 => some r16)) else none) else none
set_option maxRecDepth 100000 in
set_option maxHeartbeats 4000000 in
theorem c_K_drawnFact {E : En} {d : Nat} (h : Hp) (x0 : Nat) (x1 : Int32) {P : Int32 → Prop} (hO : Okk (K_drawnFact h x0 x1) P) : Cn E (d + 3) z_K_drawnFact [.ref x0, .int x1] h (RIp h P) := by
  refine cn_of (on := 11) (d := d + 2) ⟨rfl, by decide +kernel, Nat.le_of_ble_eq_true rfl⟩ (fun G hG => ?_)
  unfold K_drawnFact at hO
  show G 0 [(0, .ref x0), (1, .int x1)] [] h
  have j110 : ∀ (s0 : Int32), Okk (K_drawnFact_j110 x0 s0 h) P → G 110 [] [.int s0] h := by
    intro s0 hO
    unfold K_drawnFact_j110 at hO
    exact eI hG 110 (by decide +kernel) rfl ⟨s0, rfl, rfl, ok_some (Q := P) hO⟩
  have j97 : ∀ (x2 : Nat), Okk (K_drawnFact_j97 x0 x2 h) P → G 97 [(2, .ref x2)] [] h := by
    intro x2 hO
    unfold K_drawnFact_j97 at hO
    refine rb hG 4 97 98 [.aload 2] [] [] [(2, .ref x2)] [.ref x2] h [] (by decide +kernel) rfl trivial ?_
    refine rnn hG (8) 106 98 (by decide +kernel) (by decide) (fun c1 => ?_) (fun c1 => ?_)
    · have hO := ok_pos c1 hO
      refine rb hG 5 101 110 [.ldc_w 0] [-2] [] [(2, .ref x2)] [.int (-2 : Int32)] h [] (by decide +kernel) rfl trivial ?_
      refine rs hG [] [] rfl ?_
      exact j110 (-2 : Int32) hO
    · have hO := ok_neg c1 hO
      obtain ⟨g2, hO⟩ := ok_if hO
      refine rb hG 5 106 110 [.aload 2, .getfield 4] [] [] [(2, .ref x2)] [.int (h.1 x2 4)] h [kd x2 = 0] (by decide +kernel) rfl g2 ?_
      refine rs hG [] [] rfl ?_
      exact j110 (h.1 x2 4) hO
  have j71 : ∀ (s0 : Int32), Okk (K_drawnFact_j71 x0 s0 h) P → G 71 [] [.int s0] h := by
    intro s0 hO
    unfold K_drawnFact_j71 at hO
    exact eI hG 71 (by decide +kernel) rfl ⟨s0, rfl, rfl, ok_some (Q := P) hO⟩
  obtain ⟨g3, hOg3⟩ := ok_if hO
  subst g3
  have hO := hOg3
  obtain ⟨g4, hO⟩ := ok_if hO
  refine rb hG 10 0 12 [.aconst_null, .astore 2, .iload 1, .ldc_w 0, .aload 0, .instanceof 706, .getfield 106] [10] [] [(2, .ref 0), (0, .ref 57), (1, .int x1)] [.int (h.1 (Int32.toNatClampNeg (h.1 57 6)) 6), .int (10 : Int32), .int x1] h [kd 57 = 7, kd (Int32.toNatClampNeg (h.1 57 6)) = 1] (by decide +kernel) rfl ⟨kd_57, g4⟩ ?_
  refine rt hG z_K_isOf 119 3 12 [.int x1, .int (10 : Int32), .int (h.1 (Int32.toNatClampNeg (h.1 57 6)) 6)] [] (by decide +kernel) mk_K_isOf lk_11_119 rfl ⟨rfl, Nat.le_of_ble_eq_true rfl⟩ (c_K_isOf (d := d + 1) h x1 (10 : Int32) (h.1 (Int32.toNatClampNeg (h.1 57 6)) 6) (ok_bind hO)) ?_
  rintro _ _ ⟨r5, rfl, rfl, hO⟩
  refine ri hG .eq (12) 27 15 (by decide +kernel) (by decide) (fun c6 => ?_) (fun c6 => ?_)
  · have hO := ok_pos c6 hO
    refine rb hG 8 27 37 [.iload 1, .ldc_w 0, .aload 0, .instanceof 706, .getfield 105] [20] [] [(2, .ref 0), (0, .ref 57), (1, .int x1)] [.int (h.1 (Int32.toNatClampNeg (h.1 57 6)) 5), .int (20 : Int32), .int x1] h [kd 57 = 7, kd (Int32.toNatClampNeg (h.1 57 6)) = 1] (by decide +kernel) rfl ⟨kd_57, g4⟩ ?_
    refine rt hG z_K_isOf 119 3 37 [.int x1, .int (20 : Int32), .int (h.1 (Int32.toNatClampNeg (h.1 57 6)) 5)] [] (by decide +kernel) mk_K_isOf lk_11_119 rfl ⟨rfl, Nat.le_of_ble_eq_true rfl⟩ (c_K_isOf (d := d + 1) h x1 (20 : Int32) (h.1 (Int32.toNatClampNeg (h.1 57 6)) 5) (ok_bind hO)) ?_
    rintro _ _ ⟨r7, rfl, rfl, hO⟩
    refine ri hG .eq (32) 72 40 (by decide +kernel) (by decide) (fun c8 => ?_) (fun c8 => ?_)
    · have hO := ok_pos c8 hO
      refine rb hG 8 72 82 [.iload 1, .ldc_w 0, .aload 0, .instanceof 706, .getfield 105] [30] [] [(2, .ref 0), (0, .ref 57), (1, .int x1)] [.int (h.1 (Int32.toNatClampNeg (h.1 57 6)) 5), .int (30 : Int32), .int x1] h [kd 57 = 7, kd (Int32.toNatClampNeg (h.1 57 6)) = 1] (by decide +kernel) rfl ⟨kd_57, g4⟩ ?_
      refine rt hG z_K_isOf 119 3 82 [.int x1, .int (30 : Int32), .int (h.1 (Int32.toNatClampNeg (h.1 57 6)) 5)] [] (by decide +kernel) mk_K_isOf lk_11_119 rfl ⟨rfl, Nat.le_of_ble_eq_true rfl⟩ (c_K_isOf (d := d + 1) h x1 (30 : Int32) (h.1 (Int32.toNatClampNeg (h.1 57 6)) 5) (ok_bind hO)) ?_
      rintro _ _ ⟨r9, rfl, rfl, hO⟩
      refine ri hG .eq (12) 97 85 (by decide +kernel) (by decide) (fun c10 => ?_) (fun c10 => ?_)
      · have hO := ok_pos c10 hO
        refine rs hG [(2, .ref 0)] [0] rfl ?_
        exact j97 0 hO
      · have hO := ok_neg c10 hO
        refine rb hG 7 88 93 [.aload 0, .iload 1, .ldc_w 0, .isub] [30] [] [(2, .ref 0), (0, .ref 57), (1, .int x1)] [.int (x1 - (30 : Int32)), .ref 57] h [] (by decide +kernel) rfl trivial ?_
        refine rv hG z_S_benchAt 213 1 93 57 [.int (x1 - (30 : Int32))] [] (by decide +kernel) mk_S_benchAt lk_11_213 rcv_57 rfl ⟨rfl, Nat.le_of_ble_eq_true rfl⟩ (c_S_benchAt (d := d) h (x1 - (30 : Int32)) (ok_bind hO)) ?_
        rintro _ _ ⟨r11, rfl, rfl, hO⟩
        refine rb hG 4 96 97 [.astore 2] [] [] [(2, .ref r11), (0, .ref 57), (1, .int x1)] [] h [] (by decide +kernel) rfl trivial ?_
        refine rs hG [(2, .ref r11)] [0] rfl ?_
        exact j97 r11 hO
    · have hO := ok_neg c8 hO
      refine rb hG 7 43 48 [.aload 0, .iload 1, .ldc_w 0, .isub] [20] [] [(2, .ref 0), (0, .ref 57), (1, .int x1)] [.int (x1 - (20 : Int32)), .ref 57] h [] (by decide +kernel) rfl trivial ?_
      refine rv hG z_S_benchAt 213 1 48 57 [.int (x1 - (20 : Int32))] [] (by decide +kernel) mk_S_benchAt lk_11_213 rcv_57 rfl ⟨rfl, Nat.le_of_ble_eq_true rfl⟩ (c_S_benchAt (d := d) h (x1 - (20 : Int32)) (ok_bind hO)) ?_
      rintro _ _ ⟨r12, rfl, rfl, hO⟩
      refine rb hG 5 51 53 [.astore 2, .aload 2] [] [] [(2, .ref r12), (0, .ref 57), (1, .int x1)] [.ref r12] h [] (by decide +kernel) rfl trivial ?_
      refine rnn hG (8) 61 53 (by decide +kernel) (by decide) (fun c13 => ?_) (fun c13 => ?_)
      · have hO := ok_pos c13 hO
        refine rb hG 5 56 71 [.ldc_w 0] [-2] [] [(2, .ref r12), (0, .ref 57), (1, .int x1)] [.int (-2 : Int32)] h [] (by decide +kernel) rfl trivial ?_
        refine rs hG [] [] rfl ?_
        exact j71 (-2 : Int32) hO
      · have hO := ok_neg c13 hO
        obtain ⟨g14, hO⟩ := ok_if hO
        refine rb hG 8 61 68 [.aload 2, .aload 2, .getfield 3, .ldc_w 0, .isub] [1] [] [(2, .ref r12), (0, .ref 57), (1, .int x1)] [.int ((h.1 r12 3) - (1 : Int32)), .ref r12] h [kd r12 = 0] (by decide +kernel) rfl g14 ?_
        refine rv hG z_B_guestsOf 220 1 68 r12 [.int ((h.1 r12 3) - (1 : Int32))] [] (by decide +kernel) mk_B_guestsOf lk_11_220 (rcv_B g14) rfl ⟨rfl, Nat.le_of_ble_eq_true rfl⟩ (c_B_guestsOf (d := d + 1) h r12 ((h.1 r12 3) - (1 : Int32)) (ok_bind hO)) ?_
        rintro _ _ ⟨r15, rfl, rfl, hO⟩
        refine rs hG [] [] rfl ?_
        exact j71 r15 hO
  · have hO := ok_neg c6 hO
    refine rb hG 7 18 23 [.aload 0, .iload 1, .ldc_w 0, .isub] [10] [] [(2, .ref 0), (0, .ref 57), (1, .int x1)] [.int (x1 - (10 : Int32)), .ref 57] h [] (by decide +kernel) rfl trivial ?_
    refine rv hG z_S_heardBy 188 1 23 57 [.int (x1 - (10 : Int32))] [] (by decide +kernel) mk_S_heardBy lk_11_188 rcv_57 rfl ⟨rfl, Nat.le_of_ble_eq_true rfl⟩ (c_S_heardBy (d := d) h (x1 - (10 : Int32)) (ok_bind hO)) ?_
    rintro _ _ ⟨r16, rfl, rfl, hO⟩
    exact eI hG 26 (by decide +kernel) rfl ⟨r16, rfl, rfl, ok_some (Q := P) hO⟩
/-! GrainInn.drawn(IIII)I -/
noncomputable def K_drawn_j34 (h : Hp) : Option (Int32 × Hp) := some ((-2 : Int32), h)
noncomputable def K_drawn (h : Hp) (x1 : Int32) (x2 : Int32) (x3 : Int32) (x4 : Int32) : Option (Int32 × Hp) := (D_innAt h 2 x1).bind fun r1 => if r1 = 0 then ((K_drawn_j34 h)) else (if kd r1 = 1 then (if (h.1 r1 5) = 0 then ((K_drawn_j34 h)) else (if x3 < (1 : Int32) then ((K_drawn_j34 h)) else (if x3 ≤ (40 : Int32) then ((S_draw h r1 x2 x3).bind fun (r7, h8) => if x4 = (0 : Int32) then (some ((h8.1 57 8), h8)) else (if x4 = (1 : Int32) then (some ((h8.1 57 9), h8)) else (if x4 = (2 : Int32) then ((S_paidByAll h8).bind fun r12 => some (r12, h8)) else (if x4 = (3 : Int32) then (some (r7, h8)) else ((K_drawnFact h8 57 x4).bind fun r14 => some (r14, h8)))))) else ((K_drawn_j34 h))))) else none)
set_option maxRecDepth 100000 in
set_option maxHeartbeats 4000000 in
theorem c_K_drawn {E : En} {d : Nat} (h : Hp) (x1 : Int32) (x2 : Int32) (x3 : Int32) (x4 : Int32) {P : (Int32 × Hp) → Prop} (hO : Okk (K_drawn h x1 x2 x3 x4) P) : Cn E (d + 7) z_K_drawn [.ref 1, .int x1, .int x2, .int x3, .int x4] h (RI P) := by
  refine cn_of (on := 11) (d := d + 6) ⟨rfl, by decide +kernel, Nat.le_of_ble_eq_true rfl⟩ (fun G hG => ?_)
  unfold K_drawn at hO
  show G 0 [(0, .ref 1), (1, .int x1), (2, .int x2), (3, .int x3), (4, .int x4)] [] h
  have j34 : ∀ (h : Hp), Okk (K_drawn_j34 h) P → G 34 [] [] h := by
    intro h hO
    unfold K_drawn_j34 at hO
    refine rb hG 4 34 36 [.ldc_w 0] [-2] [] [] [.int (-2 : Int32)] h [] (by decide +kernel) rfl trivial ?_
    exact eI hG 36 (by decide +kernel) rfl ⟨(-2 : Int32), rfl, ok_some (Q := P) hO⟩
  refine rb hG 6 0 5 [.aload 0, .invokeinterface 1100 1, .iload 1] [] [] [(0, .ref 1), (1, .int x1), (2, .int x2), (3, .int x3), (4, .int x4)] [.int x1, .ref 2] h [kd 1 = 11] (by decide +kernel) rfl kd_1 ?_
  refine rv hG z_D_innAt 107 1 5 2 [.int x1] [] (by decide +kernel) mk_D_innAt lk_11_107 rcv_2 rfl ⟨rfl, Nat.le_of_ble_eq_true rfl⟩ (c_D_innAt (d := d + 2) h 2 x1 (ok_bind hO)) ?_
  rintro _ _ ⟨r1, rfl, rfl, hO⟩
  refine rb hG 5 8 12 [.astore 5, .aload 5] [] [] [(5, .ref r1), (0, .ref 1), (1, .int x1), (2, .int x2), (3, .int x3), (4, .int x4)] [.ref r1] h [] (by decide +kernel) rfl trivial ?_
  refine rn hG (22) 34 12 (by decide +kernel) (by decide) (fun c2 => ?_) (fun c2 => ?_)
  · have hO := ok_pos c2 hO
    refine rs hG [] [] rfl ?_
    exact j34 h hO
  · have hO := ok_neg c2 hO
    obtain ⟨g3, hO⟩ := ok_if hO
    refine rb hG 5 15 20 [.aload 5, .getfield 105] [] [] [(5, .ref r1), (0, .ref 1), (1, .int x1), (2, .int x2), (3, .int x3), (4, .int x4)] [.int (h.1 r1 5)] h [kd r1 = 1] (by decide +kernel) rfl g3 ?_
    refine ri hG .eq (14) 34 20 (by decide +kernel) (by decide) (fun c4 => ?_) (fun c4 => ?_)
    · have hO := ok_pos c4 hO
      refine rs hG [] [] rfl ?_
      exact j34 h hO
    · have hO := ok_neg c4 hO
      refine rb hG 5 23 25 [.iload 3, .ldc_w 0] [1] [] [(5, .ref r1), (0, .ref 1), (1, .int x1), (2, .int x2), (3, .int x3), (4, .int x4)] [.int (1 : Int32), .int x3] h [] (by decide +kernel) rfl trivial ?_
      refine rj hG .lt (9) 34 25 (by decide +kernel) (by decide) (fun c5 => ?_) (fun c5 => ?_)
      · have hO := ok_pos c5 hO
        refine rs hG [] [] rfl ?_
        exact j34 h hO
      · have hO := ok_neg c5 hO
        refine rb hG 5 28 31 [.iload 3, .ldc_w 0] [40] [] [(5, .ref r1), (0, .ref 1), (1, .int x1), (2, .int x2), (3, .int x3), (4, .int x4)] [.int (40 : Int32), .int x3] h [] (by decide +kernel) rfl trivial ?_
        refine rj hG .le (6) 37 31 (by decide +kernel) (by decide) (fun c6 => ?_) (fun c6 => ?_)
        · have hO := ok_pos c6 hO
          refine rb hG 8 37 45 [.aload 0, .invokeinterface 1104 56, .aload 5, .iload 2, .iload 3] [] [] [(5, .ref r1), (0, .ref 1), (1, .int x1), (2, .int x2), (3, .int x3), (4, .int x4)] [.int x3, .int x2, .ref r1, .ref 57] h [kd 1 = 11] (by decide +kernel) rfl kd_1 ?_
          refine rv hG z_S_draw 310 3 45 57 [.ref r1, .int x2, .int x3] [] (by decide +kernel) mk_S_draw lk_11_310 rcv_57 rfl ⟨rfl, Nat.le_of_ble_eq_true rfl⟩ (c_S_draw (d := d) h r1 x2 x3 (ok_bind hO)) ?_
          rintro _ h8 ⟨r7, rfl, hO⟩
          refine rb hG 5 48 52 [.istore 6, .iload 4] [] [] [(6, .int r7), (5, .ref r1), (0, .ref 1), (1, .int x1), (2, .int x2), (3, .int x3), (4, .int x4)] [.int x4] h8 [] (by decide +kernel) rfl trivial ?_
          refine rw9 hG (59) (0) (3) #[(32), (40), (48), (56)] 32 52 [84, 92, 100, 108] 111 (by decide +kernel) (by decide +kernel) ?_
          refine sw_c (0 : Int32) (by decide) (fun c9 => ?_) (fun c9 => ?_)
          · have hO := ok_pos c9 hO
            refine rb hG 6 84 91 [.aload 0, .invokeinterface 1104 56, .getfield 708] [] [] [(6, .int r7), (5, .ref r1), (0, .ref 1), (1, .int x1), (2, .int x2), (3, .int x3), (4, .int x4)] [.int (h8.1 57 8)] h8 [kd 1 = 11, kd 57 = 7] (by decide +kernel) rfl ⟨kd_1, kd_57⟩ ?_
            exact eI hG 91 (by decide +kernel) rfl ⟨(h8.1 57 8), rfl, ok_some (Q := P) hO⟩
          have hO := ok_neg c9 hO
          refine sw_c (1 : Int32) (by decide) (fun c10 => ?_) (fun c10 => ?_)
          · have hO := ok_pos c10 hO
            refine rb hG 6 92 99 [.aload 0, .invokeinterface 1104 56, .getfield 709] [] [] [(6, .int r7), (5, .ref r1), (0, .ref 1), (1, .int x1), (2, .int x2), (3, .int x3), (4, .int x4)] [.int (h8.1 57 9)] h8 [kd 1 = 11, kd 57 = 7] (by decide +kernel) rfl ⟨kd_1, kd_57⟩ ?_
            exact eI hG 99 (by decide +kernel) rfl ⟨(h8.1 57 9), rfl, ok_some (Q := P) hO⟩
          have hO := ok_neg c10 hO
          refine sw_c (2 : Int32) (by decide) (fun c11 => ?_) (fun c11 => ?_)
          · have hO := ok_pos c11 hO
            refine rb hG 5 100 104 [.aload 0, .invokeinterface 1104 56] [] [] [(6, .int r7), (5, .ref r1), (0, .ref 1), (1, .int x1), (2, .int x2), (3, .int x3), (4, .int x4)] [.ref 57] h8 [kd 1 = 11] (by decide +kernel) rfl kd_1 ?_
            refine rv hG z_S_paidByAll 168 0 104 57 [] [] (by decide +kernel) mk_S_paidByAll lk_11_168 rcv_57 rfl ⟨rfl, Nat.le_of_ble_eq_true rfl⟩ (c_S_paidByAll (d := d + 5) h8 (ok_bind hO)) ?_
            rintro _ _ ⟨r12, rfl, rfl, hO⟩
            exact eI hG 107 (by decide +kernel) rfl ⟨r12, rfl, ok_some (Q := P) hO⟩
          have hO := ok_neg c11 hO
          refine sw_c (3 : Int32) (by decide) (fun c13 => ?_) (fun c13 => ?_)
          · have hO := ok_pos c13 hO
            refine rb hG 4 108 110 [.iload 6] [] [] [(6, .int r7), (5, .ref r1), (0, .ref 1), (1, .int x1), (2, .int x2), (3, .int x3), (4, .int x4)] [.int r7] h8 [] (by decide +kernel) rfl trivial ?_
            exact eI hG 110 (by decide +kernel) rfl ⟨r7, rfl, ok_some (Q := P) hO⟩
          have hO := ok_neg c13 hO
          show G 111 _ _ _
          refine rb hG 6 111 117 [.aload 0, .invokeinterface 1104 56, .iload 4] [] [] [(6, .int r7), (5, .ref r1), (0, .ref 1), (1, .int x1), (2, .int x2), (3, .int x3), (4, .int x4)] [.int x4, .ref 57] h8 [kd 1 = 11] (by decide +kernel) rfl kd_1 ?_
          refine rt hG z_K_drawnFact 314 2 117 [.ref 57, .int x4] [] (by decide +kernel) mk_K_drawnFact lk_11_314 rfl ⟨rfl, Nat.le_of_ble_eq_true rfl⟩ (c_K_drawnFact (d := d + 3) h8 57 x4 (ok_bind hO)) ?_
          rintro _ _ ⟨r14, rfl, rfl, hO⟩
          exact eI hG 120 (by decide +kernel) rfl ⟨r14, rfl, ok_some (Q := P) hO⟩
        · have hO := ok_neg c6 hO
          refine rs hG [] [] rfl ?_
          exact j34 h hO
/-! GrainInnModel.draw(I)I -/
noncomputable def M_draw (h : Hp) (x1 : Int32) : Option (Int32 × Hp) := bnd (wr h 251 55 (((h.1 251 55) * (1103515245 : Int32)) + (12345 : Int32))) fun h1 => if ¬ x1 = 0 then (some ((rm (us (h1.1 251 55) (16 : Int32)) x1), h1)) else none
set_option maxRecDepth 100000 in
set_option maxHeartbeats 4000000 in
theorem c_M_draw {E : En} {d : Nat} (h : Hp) (x1 : Int32) {P : (Int32 × Hp) → Prop} (hO : Okk (M_draw h x1) P) : Cn E (d + 1) z_M_draw [.ref 251, .int x1] h (RI P) := by
  refine cn_of (on := 12) (d := d + 0) ⟨rfl, by decide +kernel, Nat.le_of_ble_eq_true rfl⟩ (fun G hG => ?_)
  unfold M_draw at hO
  show G 0 [(0, .ref 251), (1, .int x1)] [] h
  refine rbx hG 11 0 16 [.aload 0, .aload 0, .getfield 1255, .ldc_w 0, .imul, .ldc_w 1, .iadd, .putfield 1255] [1103515245, 12345] [] (wr h 251 55 (((h.1 251 55) * (1103515245 : Int32)) + (12345 : Int32))) (fun h1 => [(0, .ref 251), (1, .int x1)]) (fun h1 => []) (fun h1 => h1) [kd 251 = 12, kd 251 = 12] (by decide +kernel) rfl ⟨kd_251, kd_251⟩ hO (fun h1 hO => ?_)
  obtain ⟨g2, hO⟩ := ok_if hO
  refine rb hG 9 16 25 [.aload 0, .getfield 1255, .ldc_w 0, .iushr, .iload 1, .irem] [16] [] [(0, .ref 251), (1, .int x1)] [.int (rm (us (h1.1 251 55) (16 : Int32)) x1)] h1 [kd 251 = 12, ¬ x1 = 0] (by decide +kernel) rfl ⟨kd_251, g2⟩ ?_
  exact eI hG 25 (by decide +kernel) rfl ⟨(rm (us (h1.1 251 55) (16 : Int32)) x1), rfl, ok_some (Q := P) hO⟩
/-! GrainInnModel.drawNight()V -/
noncomputable def M_drawNight_j178 (h : Hp) : Option Hp := (M_night h).bind fun h1 => some h1
noncomputable def M_drawNight_j172 (x1 : Int32) (h : Hp) : Option ((Int32 × Hp) ⊕ Hp) := bnd ((x1 + (1 : Int32))) fun y2 => some (.inl (y2, h))
noncomputable def M_drawNight_j149 (x1 : Int32) (x2 : Int32) (h : Hp) : Option ((Int32 × Hp) ⊕ Hp) := if x2 = 0 then ((M_drawNight_j172 x1 h)) else ((M_sitsDown h x1 x2).bind fun h4 => if inb x1 (ln 269) then (bnd (wr h4 269 (Int32.toNatClampNeg x1) x2) fun h6 => (M_hears h6 x2 x2).bind fun h7 => (M_drawNight_j172 x1 h7)) else none)
noncomputable def M_drawNight_j141 (x1 : Int32) (x2 : Int32) (x4 : Int32) (s0 : Int32) (s1 : Int32) (h : Hp) : Option ((Int32 × Int32 × Int32 × Hp) ⊕ ((Int32 × Hp) ⊕ Hp)) := bnd ((s0 + s1)) fun y8 => bnd ((x4 + (1 : Int32))) fun y9 => some (.inl (x2, y8, y9, h))
noncomputable def M_drawNight_j128 (x1 : Int32) (x3 : Int32) (x4 : Int32) (x5 : Int32) (s0 : Int32) (s1 : Int32) (h : Hp) : Option ((Int32 × Int32 × Int32 × Hp) ⊕ ((Int32 × Hp) ⊕ Hp)) := bnd ((s0 ||| s1)) fun y10 => if x5 = 0 then ((M_drawNight_j141 x1 y10 x4 x3 (0 : Int32) h)) else ((M_drawNight_j141 x1 y10 x4 x3 (1 : Int32) h))
noncomputable def M_drawNight_j110 (x1 : Int32) (x2 : Int32) (x3 : Int32) (x4 : Int32) (x5 : Int32) (s1 : Int32) (s2 : Int32) (h : Hp) : Option ((Int32 × Int32 × Int32 × Hp) ⊕ ((Int32 × Hp) ⊕ Hp)) := bnd (wr h 251 56 (s1 + s2)) fun h12 => if x5 = 0 then ((M_drawNight_j128 x1 x3 x4 x5 x2 (0 : Int32) h12)) else ((M_drawNight_j128 x1 x3 x4 x5 x2 (sh (1 : Int32) x4) h12))
noncomputable def M_drawNight_j109 (x1 : Int32) (x2 : Int32) (x3 : Int32) (x4 : Int32) (x5 : Int32) (s1 : Int32) (h : Hp) : Option ((Int32 × Int32 × Int32 × Hp) ⊕ ((Int32 × Hp) ⊕ Hp)) := (M_drawNight_j110 x1 x2 x3 x4 x5 s1 (0 : Int32) h)
noncomputable def M_drawNight_j82 (x1 : Int32) (x2 : Int32) (x3 : Int32) (x4 : Int32) (s0 : Int32) (h : Hp) : Option ((Int32 × Int32 × Int32 × Hp) ⊕ ((Int32 × Hp) ⊕ Hp)) := if inb x4 (ln 274) then (if (h.1 274 (Int32.toNatClampNeg x4)) = x1 then (if s0 = 0 then ((M_drawNight_j110 x1 x2 x3 x4 s0 (h.1 251 56) (1 : Int32) h)) else ((M_drawNight_j109 x1 x2 x3 x4 s0 (h.1 251 56) h))) else ((M_drawNight_j109 x1 x2 x3 x4 s0 (h.1 251 56) h))) else none
noncomputable def M_drawNight_j81 (x1 : Int32) (x2 : Int32) (x3 : Int32) (x4 : Int32) (h : Hp) : Option ((Int32 × Int32 × Int32 × Hp) ⊕ ((Int32 × Hp) ⊕ Hp)) := (M_drawNight_j82 x1 x2 x3 x4 (0 : Int32) h)
noncomputable def M_drawNight_b47 (x1 : Int32) (x2 : Int32) (x3 : Int32) (x4 : Int32) (h : Hp) : Option ((Int32 × Int32 × Int32 × Hp) ⊕ ((Int32 × Hp) ⊕ Hp)) := if (h.1 251 25) ≤ x4 then (((M_drawNight_j149 x1 x2 h).map Sum.inr)) else (if inb x4 (ln 274) then (if (h.1 274 (Int32.toNatClampNeg x4)) = x1 then ((M_ofTable h x1 (0 : Int32)).bind fun r20 => if r20 ≤ x3 then ((M_drawNight_j81 x1 x2 x3 x4 h)) else ((M_drawNight_j82 x1 x2 x3 x4 (1 : Int32) h))) else ((M_drawNight_j81 x1 x2 x3 x4 h))) else none)
noncomputable def M_drawNight_l47 (x1 : Int32) (x2 : Int32) (x3 : Int32) (x4 : Int32) (h : Hp) : Option ((Int32 × Hp) ⊕ Hp) := lp (fun s : (Int32 × Int32 × Int32 × Hp) => M_drawNight_b47 x1 s.1 s.2.1 s.2.2.1 s.2.2.2) (x2, x3, x4, h)
theorem M_drawNight_l47_eq (x1 : Int32) (x2 : Int32) (x3 : Int32) (x4 : Int32) (h : Hp) : M_drawNight_l47 x1 x2 x3 x4 h = (M_drawNight_b47 x1 x2 x3 x4 h).bind (Sum.elim (fun q : (Int32 × Int32 × Int32 × Hp) => M_drawNight_l47 x1 q.1 q.2.1 q.2.2.1 q.2.2.2) some) := lp_eq _ _
noncomputable def M_drawNight_b32 (x1 : Int32) (h : Hp) : Option ((Int32 × Hp) ⊕ Hp) := if (h.1 251 24) ≤ x1 then (((M_drawNight_j178 h).map Sum.inr)) else ((M_drawNight_l47 x1 (0 : Int32) (0 : Int32) (0 : Int32) h))
noncomputable def M_drawNight_l32 (x1 : Int32) (h : Hp) : Option Hp := lp (fun s : (Int32 × Hp) => M_drawNight_b32 s.1 s.2) (x1, h)
theorem M_drawNight_l32_eq (x1 : Int32) (h : Hp) : M_drawNight_l32 x1 h = (M_drawNight_b32 x1 h).bind (Sum.elim (fun q : (Int32 × Hp) => M_drawNight_l32 q.1 q.2) some) := lp_eq _ _
noncomputable def M_drawNight_j30 (h : Hp) : Option Hp := (M_drawNight_l32 (0 : Int32) h)
noncomputable def M_drawNight_b2 (x1 : Int32) (h : Hp) : Option ((Int32 × Hp) ⊕ Hp) := if (h.1 251 25) ≤ x1 then (((M_drawNight_j30 h).map Sum.inr)) else ((M_draw h (h.1 251 24)).bind fun (r24, h25) => if inb x1 (ln 274) then (bnd (wr h25 274 (Int32.toNatClampNeg x1) r24) fun h27 => bnd ((x1 + (1 : Int32))) fun y28 => some (.inl (y28, h27))) else none)
noncomputable def M_drawNight_l2 (x1 : Int32) (h : Hp) : Option Hp := lp (fun s : (Int32 × Hp) => M_drawNight_b2 s.1 s.2) (x1, h)
theorem M_drawNight_l2_eq (x1 : Int32) (h : Hp) : M_drawNight_l2 x1 h = (M_drawNight_b2 x1 h).bind (Sum.elim (fun q : (Int32 × Hp) => M_drawNight_l2 q.1 q.2) some) := lp_eq _ _
noncomputable def M_drawNight (h : Hp) : Option Hp := (M_drawNight_l2 (0 : Int32) h)
set_option maxRecDepth 100000 in
set_option maxHeartbeats 4000000 in
theorem c_M_drawNight {E : En} {d : Nat} (h : Hp) {P : Hp → Prop} (hO : Okk (M_drawNight h) P) : Cn E (d + 6) z_M_drawNight [.ref 251] h (RV P) := by
  refine cn_of (on := 12) (d := d + 5) ⟨rfl, by decide +kernel, Nat.le_of_ble_eq_true rfl⟩ (fun G hG => ?_)
  unfold M_drawNight at hO
  show G 0 [(0, .ref 251)] [] h
  have j178 : ∀ (h : Hp), Okk (M_drawNight_j178 h) P → G 178 [(0, .ref 251)] [] h := by
    intro h hO
    unfold M_drawNight_j178 at hO
    refine rb hG 4 178 179 [.aload 0] [] [] [(0, .ref 251)] [.ref 251] h [] (by decide +kernel) rfl trivial ?_
    refine rv hG z_M_night 359 0 179 251 [] [] (by decide +kernel) mk_M_night lk_12_359 rcv_251 rfl ⟨rfl, Nat.le_of_ble_eq_true rfl⟩ (c_M_night (d := d) h (ok_bind hO)) ?_
    rintro _ h1 ⟨rfl, hO⟩
    exact eV hG 182 (by decide +kernel) rfl ⟨rfl, ok_some (Q := P) hO⟩
  have l32 : ∀ (x1 : Int32) (h : Hp), Okk (M_drawNight_l32 x1 h) P → G 32 [(0, .ref 251), (1, .int x1)] [] h := by
    intro x1 h hO
    obtain ⟨H32, eH32⟩ : ∃ q : (Int32 × Hp) → Prop, q = fun s => G 32 [(0, .ref 251), (1, .int (s.1))] [] (s.2) := ⟨_, rfl⟩
    have w9 : H32 (x1, h) := by
      refine lp_wp (f := fun s : (Int32 × Hp) => M_drawNight_b32 s.1 s.2) (H := H32) (Q := P) ?_ (x1, h) hO
      rintro ⟨x1, h⟩ hO
      rw [eH32]
      show G 32 [(0, .ref 251), (1, .int x1)] [] h
      have k32 : ∀ s : (Int32 × Hp), H32 s → G 32 [(0, .ref 251), (1, .int (s.1))] [] (s.2) := fun s q => by rw [eH32] at q; exact q
      replace hO : Okk (M_drawNight_b32 x1 h) (Sum.elim H32 P) := hO
      clear eH32
      have j172 : ∀ (x1 : Int32) (h : Hp), Okk (M_drawNight_j172 x1 h) (Sum.elim H32 P) → G 172 [(0, .ref 251), (1, .int x1)] [] h := by
        intro x1 h hO
        unfold M_drawNight_j172 at hO
        refine rbx hG 4 172 175 [.iinc 1 0] [1] [] ((x1 + (1 : Int32))) (fun y2 => [(1, .int y2), (0, .ref 251)]) (fun y2 => []) (fun y2 => h) [] (by decide +kernel) rfl trivial hO (fun y2 hO => ?_)
        refine rb hG 4 175 32 [] [] [] [(1, .int y2), (0, .ref 251)] [] h [] (by decide +kernel) rfl trivial ?_
        refine rs hG [(0, .ref 251), (1, .int y2)] [1, 0] rfl ?_
        exact k32 (y2, h) (ok_some (Q := (Sum.elim H32 P)) hO)
      have j149 : ∀ (x1 : Int32) (x2 : Int32) (h : Hp), Okk (M_drawNight_j149 x1 x2 h) (Sum.elim H32 P) → G 149 [(0, .ref 251), (1, .int x1), (2, .int x2)] [] h := by
        intro x1 x2 h hO
        unfold M_drawNight_j149 at hO
        refine rb hG 4 149 150 [.iload 2] [] [] [(0, .ref 251), (1, .int x1), (2, .int x2)] [.int x2] h [] (by decide +kernel) rfl trivial ?_
        refine ri hG .eq (22) 172 150 (by decide +kernel) (by decide) (fun c3 => ?_) (fun c3 => ?_)
        · have hO := ok_pos c3 hO
          refine rs hG [(0, .ref 251), (1, .int x1)] [0, 1] rfl ?_
          exact j172 x1 h hO
        · have hO := ok_neg c3 hO
          refine rb hG 6 153 156 [.aload 0, .iload 1, .iload 2] [] [] [(0, .ref 251), (1, .int x1), (2, .int x2)] [.int x2, .int x1, .ref 251] h [] (by decide +kernel) rfl trivial ?_
          refine rv hG z_M_sitsDown 350 2 156 251 [.int x1, .int x2] [] (by decide +kernel) mk_M_sitsDown lk_12_350 rcv_251 rfl ⟨rfl, Nat.le_of_ble_eq_true rfl⟩ (c_M_sitsDown (d := d + 1) h x1 x2 (ok_bind hO)) ?_
          rintro _ h4 ⟨rfl, hO⟩
          obtain ⟨g5, hO⟩ := ok_if hO
          refine rbx hG 8 159 166 [.aload 0, .invokeinterface 1233 18, .iload 1, .iload 2, .iastore] [] [] (wr h4 269 (Int32.toNatClampNeg x1) x2) (fun h6 => [(0, .ref 251), (1, .int x1), (2, .int x2)]) (fun h6 => []) (fun h6 => h6) [kd 251 = 12, kd 269 = 20 ∧ inb x1 (ln 269)] (by decide +kernel) rfl ⟨kd_251, ⟨kd_269, g5⟩⟩ hO (fun h6 hO => ?_)
          refine rb hG 6 166 169 [.aload 0, .iload 2, .iload 2] [] [] [(0, .ref 251), (1, .int x1), (2, .int x2)] [.int x2, .int x2, .ref 251] h6 [] (by decide +kernel) rfl trivial ?_
          refine rv hG z_M_hears 307 2 169 251 [.int x2, .int x2] [] (by decide +kernel) mk_M_hears lk_12_307 rcv_251 rfl ⟨rfl, Nat.le_of_ble_eq_true rfl⟩ (c_M_hears (d := d + 3) h6 x2 x2 (ok_bind hO)) ?_
          rintro _ h7 ⟨rfl, hO⟩
          refine rs hG [(0, .ref 251), (1, .int x1)] [0, 1] rfl ?_
          exact j172 x1 h7 hO
      have l47 : ∀ (x1 : Int32) (x2 : Int32) (x3 : Int32) (x4 : Int32) (h : Hp), Okk (M_drawNight_l47 x1 x2 x3 x4 h) (Sum.elim H32 P) → G 47 [(0, .ref 251), (1, .int x1), (2, .int x2), (3, .int x3), (4, .int x4)] [] h := by
        intro x1 x2 x3 x4 h hO
        obtain ⟨H47, eH47⟩ : ∃ q : (Int32 × Int32 × Int32 × Hp) → Prop, q = fun s => G 47 [(0, .ref 251), (1, .int x1), (2, .int (s.1)), (3, .int (s.2.1)), (4, .int (s.2.2.1))] [] (s.2.2.2) := ⟨_, rfl⟩
        have w9 : H47 (x2, x3, x4, h) := by
          refine lp_wp (f := fun s : (Int32 × Int32 × Int32 × Hp) => M_drawNight_b47 x1 s.1 s.2.1 s.2.2.1 s.2.2.2) (H := H47) (Q := (Sum.elim H32 P)) ?_ (x2, x3, x4, h) hO
          rintro ⟨x2, x3, x4, h⟩ hO
          rw [eH47]
          show G 47 [(0, .ref 251), (1, .int x1), (2, .int x2), (3, .int x3), (4, .int x4)] [] h
          have k47 : ∀ s : (Int32 × Int32 × Int32 × Hp), H47 s → G 47 [(0, .ref 251), (1, .int x1), (2, .int (s.1)), (3, .int (s.2.1)), (4, .int (s.2.2.1))] [] (s.2.2.2) := fun s q => by rw [eH47] at q; exact q
          replace hO : Okk (M_drawNight_b47 x1 x2 x3 x4 h) (Sum.elim H47 (Sum.elim H32 P)) := hO
          clear eH47
          have j141 : ∀ (x2 : Int32) (x4 : Int32) (s0 : Int32) (s1 : Int32) (h : Hp), Okk (M_drawNight_j141 x1 x2 x4 s0 s1 h) (Sum.elim H47 (Sum.elim H32 P)) → G 141 [(0, .ref 251), (1, .int x1), (2, .int x2), (4, .int x4)] [.int s1, .int s0] h := by
            intro x2 x4 s0 s1 h hO
            unfold M_drawNight_j141 at hO
            refine rbx hG 5 141 143 [.iadd, .istore 3] [] [] ((s0 + s1)) (fun y8 => [(3, .int y8), (0, .ref 251), (1, .int x1), (2, .int x2), (4, .int x4)]) (fun y8 => []) (fun y8 => h) [] (by decide +kernel) rfl trivial hO (fun y8 hO => ?_)
            refine rbx hG 4 143 146 [.iinc 4 0] [1] [] ((x4 + (1 : Int32))) (fun y9 => [(4, .int y9), (3, .int y8), (0, .ref 251), (1, .int x1), (2, .int x2)]) (fun y9 => []) (fun y9 => h) [] (by decide +kernel) rfl trivial hO (fun y9 hO => ?_)
            refine rb hG 4 146 47 [] [] [] [(4, .int y9), (3, .int y8), (0, .ref 251), (1, .int x1), (2, .int x2)] [] h [] (by decide +kernel) rfl trivial ?_
            refine rs hG [(0, .ref 251), (1, .int x1), (2, .int x2), (3, .int y8), (4, .int y9)] [2, 3, 4, 1, 0] rfl ?_
            exact k47 (x2, y8, y9, h) (ok_some (Q := (Sum.elim H47 (Sum.elim H32 P))) hO)
          have j128 : ∀ (x3 : Int32) (x4 : Int32) (x5 : Int32) (s0 : Int32) (s1 : Int32) (h : Hp), Okk (M_drawNight_j128 x1 x3 x4 x5 s0 s1 h) (Sum.elim H47 (Sum.elim H32 P)) → G 128 [(0, .ref 251), (1, .int x1), (3, .int x3), (4, .int x4), (5, .int x5)] [.int s1, .int s0] h := by
            intro x3 x4 x5 s0 s1 h hO
            unfold M_drawNight_j128 at hO
            refine rbx hG 5 128 130 [.ior, .istore 2] [] [] ((s0 ||| s1)) (fun y10 => [(2, .int y10), (0, .ref 251), (1, .int x1), (3, .int x3), (4, .int x4), (5, .int x5)]) (fun y10 => []) (fun y10 => h) [] (by decide +kernel) rfl trivial hO (fun y10 hO => ?_)
            refine rb hG 5 130 133 [.iload 3, .iload 5] [] [] [(2, .int y10), (0, .ref 251), (1, .int x1), (3, .int x3), (4, .int x4), (5, .int x5)] [.int x5, .int x3] h [] (by decide +kernel) rfl trivial ?_
            refine ri hG .eq (7) 140 133 (by decide +kernel) (by decide) (fun c11 => ?_) (fun c11 => ?_)
            · have hO := ok_pos c11 hO
              refine rb hG 4 140 141 [.ldc_w 0] [0] [] [(2, .int y10), (0, .ref 251), (1, .int x1), (3, .int x3), (4, .int x4), (5, .int x5)] [.int (0 : Int32), .int x3] h [] (by decide +kernel) rfl trivial ?_
              refine rs hG [(0, .ref 251), (1, .int x1), (2, .int y10), (4, .int x4)] [1, 2, 0, 4] rfl ?_
              exact j141 y10 x4 x3 (0 : Int32) h hO
            · have hO := ok_neg c11 hO
              refine rb hG 5 136 141 [.ldc_w 0] [1] [] [(2, .int y10), (0, .ref 251), (1, .int x1), (3, .int x3), (4, .int x4), (5, .int x5)] [.int (1 : Int32), .int x3] h [] (by decide +kernel) rfl trivial ?_
              refine rs hG [(0, .ref 251), (1, .int x1), (2, .int y10), (4, .int x4)] [1, 2, 0, 4] rfl ?_
              exact j141 y10 x4 x3 (1 : Int32) h hO
          have j110 : ∀ (x2 : Int32) (x3 : Int32) (x4 : Int32) (x5 : Int32) (s1 : Int32) (s2 : Int32) (h : Hp), Okk (M_drawNight_j110 x1 x2 x3 x4 x5 s1 s2 h) (Sum.elim H47 (Sum.elim H32 P)) → G 110 [(0, .ref 251), (1, .int x1), (2, .int x2), (3, .int x3), (4, .int x4), (5, .int x5)] [.int s2, .int s1, .ref 251] h := by
            intro x2 x3 x4 x5 s1 s2 h hO
            unfold M_drawNight_j110 at hO
            refine rbx hG 5 110 114 [.iadd, .putfield 1256] [] [] (wr h 251 56 (s1 + s2)) (fun h12 => [(0, .ref 251), (1, .int x1), (2, .int x2), (3, .int x3), (4, .int x4), (5, .int x5)]) (fun h12 => []) (fun h12 => h12) [kd 251 = 12] (by decide +kernel) rfl kd_251 hO (fun h12 hO => ?_)
            refine rb hG 5 114 117 [.iload 2, .iload 5] [] [] [(0, .ref 251), (1, .int x1), (2, .int x2), (3, .int x3), (4, .int x4), (5, .int x5)] [.int x5, .int x2] h12 [] (by decide +kernel) rfl trivial ?_
            refine ri hG .eq (10) 127 117 (by decide +kernel) (by decide) (fun c13 => ?_) (fun c13 => ?_)
            · have hO := ok_pos c13 hO
              refine rb hG 4 127 128 [.ldc_w 0] [0] [] [(0, .ref 251), (1, .int x1), (2, .int x2), (3, .int x3), (4, .int x4), (5, .int x5)] [.int (0 : Int32), .int x2] h12 [] (by decide +kernel) rfl trivial ?_
              refine rs hG [(0, .ref 251), (1, .int x1), (3, .int x3), (4, .int x4), (5, .int x5)] [0, 1, 3, 4, 5] rfl ?_
              exact j128 x3 x4 x5 x2 (0 : Int32) h12 hO
            · have hO := ok_neg c13 hO
              refine rb hG 7 120 128 [.ldc_w 0, .iload 4, .ishl] [1] [] [(0, .ref 251), (1, .int x1), (2, .int x2), (3, .int x3), (4, .int x4), (5, .int x5)] [.int (sh (1 : Int32) x4), .int x2] h12 [] (by decide +kernel) rfl trivial ?_
              refine rs hG [(0, .ref 251), (1, .int x1), (3, .int x3), (4, .int x4), (5, .int x5)] [0, 1, 3, 4, 5] rfl ?_
              exact j128 x3 x4 x5 x2 (sh (1 : Int32) x4) h12 hO
          have j109 : ∀ (x2 : Int32) (x3 : Int32) (x4 : Int32) (x5 : Int32) (s1 : Int32) (h : Hp), Okk (M_drawNight_j109 x1 x2 x3 x4 x5 s1 h) (Sum.elim H47 (Sum.elim H32 P)) → G 109 [(0, .ref 251), (1, .int x1), (2, .int x2), (3, .int x3), (4, .int x4), (5, .int x5)] [.int s1, .ref 251] h := by
            intro x2 x3 x4 x5 s1 h hO
            unfold M_drawNight_j109 at hO
            refine rb hG 4 109 110 [.ldc_w 0] [0] [] [(0, .ref 251), (1, .int x1), (2, .int x2), (3, .int x3), (4, .int x4), (5, .int x5)] [.int (0 : Int32), .int s1, .ref 251] h [] (by decide +kernel) rfl trivial ?_
            exact j110 x2 x3 x4 x5 s1 (0 : Int32) h hO
          have j82 : ∀ (x2 : Int32) (x3 : Int32) (x4 : Int32) (s0 : Int32) (h : Hp), Okk (M_drawNight_j82 x1 x2 x3 x4 s0 h) (Sum.elim H47 (Sum.elim H32 P)) → G 82 [(0, .ref 251), (1, .int x1), (2, .int x2), (3, .int x3), (4, .int x4)] [.int s0] h := by
            intro x2 x3 x4 s0 h hO
            unfold M_drawNight_j82 at hO
            obtain ⟨g14, hO⟩ := ok_if hO
            refine rb hG 12 82 97 [.istore 5, .aload 0, .dup, .getfield 1256, .aload 0, .invokeinterface 1244 23, .iload 4, .iaload, .iload 1] [] [] [(5, .int s0), (0, .ref 251), (1, .int x1), (2, .int x2), (3, .int x3), (4, .int x4)] [.int x1, .int (h.1 274 (Int32.toNatClampNeg x4)), .int (h.1 251 56), .ref 251] h [kd 251 = 12, kd 251 = 12, kd 274 = 20 ∧ inb x4 (ln 274)] (by decide +kernel) rfl ⟨kd_251, kd_251, ⟨kd_274, g14⟩⟩ ?_
            refine rjN hG (12) 109 97 (by decide +kernel) (by decide) (fun c15 => ?_) (fun c15 => ?_)
            · have hO := ok_pos c15 hO
              refine rb hG 4 100 102 [.iload 5] [] [] [(5, .int s0), (0, .ref 251), (1, .int x1), (2, .int x2), (3, .int x3), (4, .int x4)] [.int s0, .int (h.1 251 56), .ref 251] h [] (by decide +kernel) rfl trivial ?_
              refine riN hG (7) 109 102 (by decide +kernel) (by decide) (fun c16 => ?_) (fun c16 => ?_)
              · have hO := ok_pos c16 hO
                refine rb hG 5 105 110 [.ldc_w 0] [1] [] [(5, .int s0), (0, .ref 251), (1, .int x1), (2, .int x2), (3, .int x3), (4, .int x4)] [.int (1 : Int32), .int (h.1 251 56), .ref 251] h [] (by decide +kernel) rfl trivial ?_
                refine rs hG [(0, .ref 251), (1, .int x1), (2, .int x2), (3, .int x3), (4, .int x4), (5, .int s0)] [1, 2, 3, 4, 5, 0] rfl ?_
                exact j110 x2 x3 x4 s0 (h.1 251 56) (1 : Int32) h hO
              · have hO := ok_neg c16 hO
                refine rs hG [(0, .ref 251), (1, .int x1), (2, .int x2), (3, .int x3), (4, .int x4), (5, .int s0)] [1, 2, 3, 4, 5, 0] rfl ?_
                exact j109 x2 x3 x4 s0 (h.1 251 56) h hO
            · have hO := ok_neg c15 hO
              refine rs hG [(0, .ref 251), (1, .int x1), (2, .int x2), (3, .int x3), (4, .int x4), (5, .int s0)] [1, 2, 3, 4, 5, 0] rfl ?_
              exact j109 x2 x3 x4 s0 (h.1 251 56) h hO
          have j81 : ∀ (x2 : Int32) (x3 : Int32) (x4 : Int32) (h : Hp), Okk (M_drawNight_j81 x1 x2 x3 x4 h) (Sum.elim H47 (Sum.elim H32 P)) → G 81 [(0, .ref 251), (1, .int x1), (2, .int x2), (3, .int x3), (4, .int x4)] [] h := by
            intro x2 x3 x4 h hO
            unfold M_drawNight_j81 at hO
            refine rb hG 4 81 82 [.ldc_w 0] [0] [] [(0, .ref 251), (1, .int x1), (2, .int x2), (3, .int x3), (4, .int x4)] [.int (0 : Int32)] h [] (by decide +kernel) rfl trivial ?_
            exact j82 x2 x3 x4 (0 : Int32) h hO
          unfold M_drawNight_b47 at hO
          refine rb hG 6 47 53 [.iload 4, .aload 0, .getfield 1225] [] [] [(0, .ref 251), (1, .int x1), (2, .int x2), (3, .int x3), (4, .int x4)] [.int (h.1 251 25), .int x4] h [kd 251 = 12] (by decide +kernel) rfl kd_251 ?_
          refine rj hG .ge (96) 149 53 (by decide +kernel) (by decide) (fun c17 => ?_) (fun c17 => ?_)
          · have hO := ok_pos c17 hO
            refine rs hG [(0, .ref 251), (1, .int x1), (2, .int x2)] [0, 1, 2] rfl ?_
            exact j149 x1 x2 h (ok_inr hO)
          · have hO := ok_neg c17 hO
            obtain ⟨g18, hO⟩ := ok_if hO
            refine rb hG 8 56 64 [.aload 0, .invokeinterface 1244 23, .iload 4, .iaload, .iload 1] [] [] [(0, .ref 251), (1, .int x1), (2, .int x2), (3, .int x3), (4, .int x4)] [.int x1, .int (h.1 274 (Int32.toNatClampNeg x4))] h [kd 251 = 12, kd 274 = 20 ∧ inb x4 (ln 274)] (by decide +kernel) rfl ⟨kd_251, ⟨kd_274, g18⟩⟩ ?_
            refine rjN hG (17) 81 64 (by decide +kernel) (by decide) (fun c19 => ?_) (fun c19 => ?_)
            · have hO := ok_pos c19 hO
              refine rb hG 7 67 71 [.iload 3, .aload 0, .iload 1, .ldc_w 0] [0] [] [(0, .ref 251), (1, .int x1), (2, .int x2), (3, .int x3), (4, .int x4)] [.int (0 : Int32), .int x1, .ref 251, .int x3] h [] (by decide +kernel) rfl trivial ?_
              refine rv hG z_M_ofTable 283 2 71 251 [.int x1, .int (0 : Int32)] [.int x3] (by decide +kernel) mk_M_ofTable lk_12_283 rcv_251 rfl ⟨rfl, Nat.le_of_ble_eq_true rfl⟩ (c_M_ofTable (d := d + 3) h x1 (0 : Int32) (ok_bind hO)) ?_
              rintro _ _ ⟨r20, rfl, rfl, hO⟩
              refine rj hG .ge (7) 81 74 (by decide +kernel) (by decide) (fun c21 => ?_) (fun c21 => ?_)
              · have hO := ok_pos c21 hO
                exact j81 x2 x3 x4 h hO
              · have hO := ok_neg c21 hO
                refine rb hG 5 77 82 [.ldc_w 0] [1] [] [(0, .ref 251), (1, .int x1), (2, .int x2), (3, .int x3), (4, .int x4)] [.int (1 : Int32)] h [] (by decide +kernel) rfl trivial ?_
                exact j82 x2 x3 x4 (1 : Int32) h hO
            · have hO := ok_neg c19 hO
              exact j81 x2 x3 x4 h hO
        rw [eH47] at w9
        exact w9
      unfold M_drawNight_b32 at hO
      refine rb hG 6 32 37 [.iload 1, .aload 0, .getfield 1224] [] [] [(0, .ref 251), (1, .int x1)] [.int (h.1 251 24), .int x1] h [kd 251 = 12] (by decide +kernel) rfl kd_251 ?_
      refine rj hG .ge (141) 178 37 (by decide +kernel) (by decide) (fun c22 => ?_) (fun c22 => ?_)
      · have hO := ok_pos c22 hO
        refine rs hG [(0, .ref 251)] [0] rfl ?_
        exact j178 h (ok_inr hO)
      · have hO := ok_neg c22 hO
        refine rb hG 9 40 47 [.ldc_w 0, .istore 2, .ldc_w 0, .istore 3, .ldc_w 0, .istore 4] [0] [] [(4, .int (0 : Int32)), (3, .int (0 : Int32)), (2, .int (0 : Int32)), (0, .ref 251), (1, .int x1)] [] h [] (by decide +kernel) rfl trivial ?_
        refine rs hG [(0, .ref 251), (1, .int x1), (2, .int (0 : Int32)), (3, .int (0 : Int32)), (4, .int (0 : Int32))] [3, 4, 2, 1, 0] rfl ?_
        exact l47 x1 (0 : Int32) (0 : Int32) (0 : Int32) h hO
    rw [eH32] at w9
    exact w9
  have j30 : ∀ (h : Hp), Okk (M_drawNight_j30 h) P → G 30 [(0, .ref 251)] [] h := by
    intro h hO
    unfold M_drawNight_j30 at hO
    refine rb hG 5 30 32 [.ldc_w 0, .istore 1] [0] [] [(1, .int (0 : Int32)), (0, .ref 251)] [] h [] (by decide +kernel) rfl trivial ?_
    refine rs hG [(0, .ref 251), (1, .int (0 : Int32))] [1, 0] rfl ?_
    exact l32 (0 : Int32) h hO
  have l2 : ∀ (x1 : Int32) (h : Hp), Okk (M_drawNight_l2 x1 h) P → G 2 [(0, .ref 251), (1, .int x1)] [] h := by
    intro x1 h hO
    obtain ⟨H2, eH2⟩ : ∃ q : (Int32 × Hp) → Prop, q = fun s => G 2 [(0, .ref 251), (1, .int (s.1))] [] (s.2) := ⟨_, rfl⟩
    have w9 : H2 (x1, h) := by
      refine lp_wp (f := fun s : (Int32 × Hp) => M_drawNight_b2 s.1 s.2) (H := H2) (Q := P) ?_ (x1, h) hO
      rintro ⟨x1, h⟩ hO
      rw [eH2]
      show G 2 [(0, .ref 251), (1, .int x1)] [] h
      have k2 : ∀ s : (Int32 × Hp), H2 s → G 2 [(0, .ref 251), (1, .int (s.1))] [] (s.2) := fun s q => by rw [eH2] at q; exact q
      replace hO : Okk (M_drawNight_b2 x1 h) (Sum.elim H2 P) := hO
      clear eH2
      unfold M_drawNight_b2 at hO
      refine rb hG 6 2 7 [.iload 1, .aload 0, .getfield 1225] [] [] [(0, .ref 251), (1, .int x1)] [.int (h.1 251 25), .int x1] h [kd 251 = 12] (by decide +kernel) rfl kd_251 ?_
      refine rj hG .ge (23) 30 7 (by decide +kernel) (by decide) (fun c23 => ?_) (fun c23 => ?_)
      · have hO := ok_pos c23 hO
        refine rs hG [(0, .ref 251)] [0] rfl ?_
        exact j30 h (ok_inr hO)
      · have hO := ok_neg c23 hO
        refine rb hG 9 10 20 [.aload 0, .invokeinterface 1244 23, .iload 1, .aload 0, .aload 0, .getfield 1224] [] [] [(0, .ref 251), (1, .int x1)] [.int (h.1 251 24), .ref 251, .int x1, .ref 274] h [kd 251 = 12, kd 251 = 12] (by decide +kernel) rfl ⟨kd_251, kd_251⟩ ?_
        refine rv hG z_M_draw 498 1 20 251 [.int (h.1 251 24)] [.int x1, .ref 274] (by decide +kernel) mk_M_draw lk_12_498 rcv_251 rfl ⟨rfl, Nat.le_of_ble_eq_true rfl⟩ (c_M_draw (d := d + 4) h (h.1 251 24) (ok_bind hO)) ?_
        rintro _ h25 ⟨r24, rfl, hO⟩
        obtain ⟨g26, hO⟩ := ok_if hO
        refine rbx hG 4 23 24 [.iastore] [] [] (wr h25 274 (Int32.toNatClampNeg x1) r24) (fun h27 => [(0, .ref 251), (1, .int x1)]) (fun h27 => []) (fun h27 => h27) [kd 274 = 20 ∧ inb x1 (ln 274)] (by decide +kernel) rfl ⟨kd_274, g26⟩ hO (fun h27 hO => ?_)
        refine rbx hG 4 24 27 [.iinc 1 0] [1] [] ((x1 + (1 : Int32))) (fun y28 => [(1, .int y28), (0, .ref 251)]) (fun y28 => []) (fun y28 => h27) [] (by decide +kernel) rfl trivial hO (fun y28 hO => ?_)
        refine rb hG 4 27 2 [] [] [] [(1, .int y28), (0, .ref 251)] [] h27 [] (by decide +kernel) rfl trivial ?_
        refine rs hG [(0, .ref 251), (1, .int y28)] [1, 0] rfl ?_
        exact k2 (y28, h27) (ok_some (Q := (Sum.elim H2 P)) hO)
    rw [eH2] at w9
    exact w9
  refine rb hG 5 0 2 [.ldc_w 0, .istore 1] [0] [] [(1, .int (0 : Int32)), (0, .ref 251)] [] h [] (by decide +kernel) rfl trivial ?_
  refine rs hG [(0, .ref 251), (1, .int (0 : Int32))] [1, 0] rfl ?_
  exact l2 (0 : Int32) h hO
/-! GrainInnModel.drawn(IIII)I -/
noncomputable def M_drawn_j91 (h : Hp) : Option (Int32 × Hp) := some ((-2 : Int32), h)
noncomputable def M_drawn_j255 (s0 : Int32) (h : Hp) : Option (Int32 × Hp) := some (s0, h)
noncomputable def M_drawn_j193 (s0 : Int32) (h : Hp) : Option (Int32 × Hp) := some (s0, h)
noncomputable def M_drawn_j127 (x4 : Int32) (h : Hp) : Option (Int32 × Hp) := if x4 < (30 : Int32) then (if x4 < (20 : Int32) then (if x4 = 0 then ((M_drawn_j255 (h.1 251 39) h)) else (if x4 = (1 : Int32) then ((M_drawn_j255 (h.1 251 40) h)) else (if x4 = (2 : Int32) then ((M_allPaid h).bind fun r6 => (M_drawn_j255 r6 h)) else (if x4 = (3 : Int32) then ((M_drawn_j255 (h.1 251 56) h)) else (if inb (x4 - (10 : Int32)) (ln 270) then ((M_drawn_j255 (h.1 270 (Int32.toNatClampNeg (x4 - (10 : Int32)))) h)) else none))))) else (bnd ((x4 - (20 : Int32))) fun y9 => if inb y9 (ln 266) then (if (h.1 266 (Int32.toNatClampNeg y9)) = 0 then ((M_drawn_j193 (0 : Int32) h)) else (if inb y9 (ln 266) then (if inb ((((16 : Int32) * y9) + (h.1 266 (Int32.toNatClampNeg y9))) - (1 : Int32)) (ln 263) then ((M_drawn_j193 (h.1 263 (Int32.toNatClampNeg ((((16 : Int32) * y9) + (h.1 266 (Int32.toNatClampNeg y9))) - (1 : Int32)))) h)) else none) else none)) else none)) else (if inb (x4 - (30 : Int32)) (ln 267) then (some ((h.1 267 (Int32.toNatClampNeg (x4 - (30 : Int32)))), h)) else none)
noncomputable def M_drawn_b111 (x3 : Int32) (x4 : Int32) (x5 : Int32) (h : Hp) : Option ((Int32 × Hp) ⊕ (Int32 × Hp)) := if x3 ≤ x5 then (((M_drawn_j127 x4 h).map Sum.inr)) else ((M_drawNight h).bind fun h16 => bnd ((x5 + (1 : Int32))) fun y17 => some (.inl (y17, h16)))
noncomputable def M_drawn_l111 (x3 : Int32) (x4 : Int32) (x5 : Int32) (h : Hp) : Option (Int32 × Hp) := lp (fun s : (Int32 × Hp) => M_drawn_b111 x3 x4 s.1 s.2) (x5, h)
theorem M_drawn_l111_eq (x3 : Int32) (x4 : Int32) (x5 : Int32) (h : Hp) : M_drawn_l111 x3 x4 x5 h = (M_drawn_b111 x3 x4 x5 h).bind (Sum.elim (fun q : (Int32 × Hp) => M_drawn_l111 x3 x4 q.1 q.2) some) := lp_eq _ _
noncomputable def M_drawn_j94 (x2 : Int32) (x3 : Int32) (x4 : Int32) (h : Hp) : Option (Int32 × Hp) := bnd (wr h 251 55 x2) fun h18 => (M_begin h18).bind fun h19 => bnd (wr h19 251 56 (0 : Int32)) fun h20 => (M_drawn_l111 x3 x4 (0 : Int32) h20)
noncomputable def M_drawn (h : Hp) (x1 : Int32) (x2 : Int32) (x3 : Int32) (x4 : Int32) : Option (Int32 × Hp) := bnd (wr h 251 0 (0 : Int32)) fun h21 => (M_in x3 (1 : Int32) (40 : Int32)).bind fun r22 => if r22 = 0 then ((M_drawn_j91 h21)) else ((M_hand h21 x1).bind fun (r24, h25) => if r24 = 0 then ((M_drawn_j91 h25)) else (if (h25.1 251 24) = 0 then ((M_drawn_j91 h25)) else ((M_in x4 (0 : Int32) (3 : Int32)).bind fun r28 => if r28 = 0 then ((M_in x4 (10 : Int32) ((9 : Int32) + (h25.1 251 25))).bind fun r30 => if r30 = 0 then ((M_in x4 (20 : Int32) ((19 : Int32) + (h25.1 251 24))).bind fun r32 => if r32 = 0 then ((M_in x4 (30 : Int32) ((29 : Int32) + (h25.1 251 24))).bind fun r34 => if r34 = 0 then ((M_drawn_j91 h25)) else ((M_drawn_j94 x2 x3 x4 h25))) else ((M_drawn_j94 x2 x3 x4 h25))) else ((M_drawn_j94 x2 x3 x4 h25))) else ((M_drawn_j94 x2 x3 x4 h25)))))
set_option maxRecDepth 100000 in
set_option maxHeartbeats 4000000 in
theorem c_M_drawn {E : En} {d : Nat} (h : Hp) (x1 : Int32) (x2 : Int32) (x3 : Int32) (x4 : Int32) {P : (Int32 × Hp) → Prop} (hO : Okk (M_drawn h x1 x2 x3 x4) P) : Cn E (d + 7) z_M_drawn [.ref 251, .int x1, .int x2, .int x3, .int x4] h (RI P) := by
  refine cn_of (on := 12) (d := d + 6) ⟨rfl, by decide +kernel, Nat.le_of_ble_eq_true rfl⟩ (fun G hG => ?_)
  unfold M_drawn at hO
  show G 0 [(0, .ref 251), (1, .int x1), (2, .int x2), (3, .int x3), (4, .int x4)] [] h
  have j91 : ∀ (h : Hp), Okk (M_drawn_j91 h) P → G 91 [] [] h := by
    intro h hO
    unfold M_drawn_j91 at hO
    refine rb hG 4 91 93 [.ldc_w 0] [-2] [] [] [.int (-2 : Int32)] h [] (by decide +kernel) rfl trivial ?_
    exact eI hG 93 (by decide +kernel) rfl ⟨(-2 : Int32), rfl, ok_some (Q := P) hO⟩
  have j255 : ∀ (s0 : Int32) (h : Hp), Okk (M_drawn_j255 s0 h) P → G 255 [] [.int s0] h := by
    intro s0 h hO
    unfold M_drawn_j255 at hO
    exact eI hG 255 (by decide +kernel) rfl ⟨s0, rfl, ok_some (Q := P) hO⟩
  have j193 : ∀ (s0 : Int32) (h : Hp), Okk (M_drawn_j193 s0 h) P → G 193 [] [.int s0] h := by
    intro s0 h hO
    unfold M_drawn_j193 at hO
    exact eI hG 193 (by decide +kernel) rfl ⟨s0, rfl, ok_some (Q := P) hO⟩
  have j127 : ∀ (h : Hp), Okk (M_drawn_j127 x4 h) P → G 127 [(0, .ref 251), (4, .int x4)] [] h := by
    intro h hO
    unfold M_drawn_j127 at hO
    refine rb hG 5 127 131 [.iload 4, .ldc_w 0] [30] [] [(0, .ref 251), (4, .int x4)] [.int (30 : Int32), .int x4] h [] (by decide +kernel) rfl trivial ?_
    refine rj hG .lt (14) 145 131 (by decide +kernel) (by decide) (fun c1 => ?_) (fun c1 => ?_)
    · have hO := ok_pos c1 hO
      refine rb hG 5 145 149 [.iload 4, .ldc_w 0] [20] [] [(0, .ref 251), (4, .int x4)] [.int (20 : Int32), .int x4] h [] (by decide +kernel) rfl trivial ?_
      refine rj hG .lt (45) 194 149 (by decide +kernel) (by decide) (fun c2 => ?_) (fun c2 => ?_)
      · have hO := ok_pos c2 hO
        refine rb hG 4 194 196 [.iload 4] [] [] [(0, .ref 251), (4, .int x4)] [.int x4] h [] (by decide +kernel) rfl trivial ?_
        refine riN hG (10) 206 196 (by decide +kernel) (by decide) (fun c3 => ?_) (fun c3 => ?_)
        · have hO := ok_pos c3 hO
          refine rb hG 6 199 255 [.aload 0, .getfield 1239] [] [] [(0, .ref 251), (4, .int x4)] [.int (h.1 251 39)] h [kd 251 = 12] (by decide +kernel) rfl kd_251 ?_
          refine rs hG [] [] rfl ?_
          exact j255 (h.1 251 39) h hO
        · have hO := ok_neg c3 hO
          refine rb hG 5 206 209 [.iload 4, .ldc_w 0] [1] [] [(0, .ref 251), (4, .int x4)] [.int (1 : Int32), .int x4] h [] (by decide +kernel) rfl trivial ?_
          refine rjN hG (10) 219 209 (by decide +kernel) (by decide) (fun c4 => ?_) (fun c4 => ?_)
          · have hO := ok_pos c4 hO
            refine rb hG 6 212 255 [.aload 0, .getfield 1240] [] [] [(0, .ref 251), (4, .int x4)] [.int (h.1 251 40)] h [kd 251 = 12] (by decide +kernel) rfl kd_251 ?_
            refine rs hG [] [] rfl ?_
            exact j255 (h.1 251 40) h hO
          · have hO := ok_neg c4 hO
            refine rb hG 5 219 222 [.iload 4, .ldc_w 0] [2] [] [(0, .ref 251), (4, .int x4)] [.int (2 : Int32), .int x4] h [] (by decide +kernel) rfl trivial ?_
            refine rjN hG (10) 232 222 (by decide +kernel) (by decide) (fun c5 => ?_) (fun c5 => ?_)
            · have hO := ok_pos c5 hO
              refine rb hG 4 225 226 [.aload 0] [] [] [(0, .ref 251), (4, .int x4)] [.ref 251] h [] (by decide +kernel) rfl trivial ?_
              refine rv hG z_M_allPaid 383 0 226 251 [] [] (by decide +kernel) mk_M_allPaid lk_12_383 rcv_251 rfl ⟨rfl, Nat.le_of_ble_eq_true rfl⟩ (c_M_allPaid (d := d + 5) h (ok_bind hO)) ?_
              rintro _ _ ⟨r6, rfl, rfl, hO⟩
              refine rb hG 4 229 255 [] [] [] [(0, .ref 251), (4, .int x4)] [.int r6] h [] (by decide +kernel) rfl trivial ?_
              refine rs hG [] [] rfl ?_
              exact j255 r6 h hO
            · have hO := ok_neg c5 hO
              refine rb hG 5 232 235 [.iload 4, .ldc_w 0] [3] [] [(0, .ref 251), (4, .int x4)] [.int (3 : Int32), .int x4] h [] (by decide +kernel) rfl trivial ?_
              refine rjN hG (10) 245 235 (by decide +kernel) (by decide) (fun c7 => ?_) (fun c7 => ?_)
              · have hO := ok_pos c7 hO
                refine rb hG 6 238 255 [.aload 0, .getfield 1256] [] [] [(0, .ref 251), (4, .int x4)] [.int (h.1 251 56)] h [kd 251 = 12] (by decide +kernel) rfl kd_251 ?_
                refine rs hG [] [] rfl ?_
                exact j255 (h.1 251 56) h hO
              · have hO := ok_neg c7 hO
                obtain ⟨g8, hO⟩ := ok_if hO
                refine rb hG 9 245 255 [.aload 0, .invokeinterface 1234 19, .iload 4, .ldc_w 0, .isub, .iaload] [10] [] [(0, .ref 251), (4, .int x4)] [.int (h.1 270 (Int32.toNatClampNeg (x4 - (10 : Int32))))] h [kd 251 = 12, kd 270 = 20 ∧ inb (x4 - (10 : Int32)) (ln 270)] (by decide +kernel) rfl ⟨kd_251, ⟨kd_270, g8⟩⟩ ?_
                refine rs hG [] [] rfl ?_
                exact j255 (h.1 270 (Int32.toNatClampNeg (x4 - (10 : Int32)))) h hO
      · have hO := ok_neg c2 hO
        refine rbx hG 7 152 159 [.iload 4, .ldc_w 0, .isub, .istore 5] [20] [] ((x4 - (20 : Int32))) (fun y9 => [(5, .int y9), (0, .ref 251), (4, .int x4)]) (fun y9 => []) (fun y9 => h) [] (by decide +kernel) rfl trivial hO (fun y9 hO => ?_)
        obtain ⟨g10, hO⟩ := ok_if hO
        refine rb hG 7 159 166 [.aload 0, .invokeinterface 1230 15, .iload 5, .iaload] [] [] [(5, .int y9), (0, .ref 251), (4, .int x4)] [.int (h.1 266 (Int32.toNatClampNeg y9))] h [kd 251 = 12, kd 266 = 20 ∧ inb y9 (ln 266)] (by decide +kernel) rfl ⟨kd_251, ⟨kd_266, g10⟩⟩ ?_
        refine riN hG (7) 173 166 (by decide +kernel) (by decide) (fun c11 => ?_) (fun c11 => ?_)
        · have hO := ok_pos c11 hO
          refine rb hG 5 169 193 [.ldc_w 0] [0] [] [(5, .int y9), (0, .ref 251), (4, .int x4)] [.int (0 : Int32)] h [] (by decide +kernel) rfl trivial ?_
          refine rs hG [] [] rfl ?_
          exact j193 (0 : Int32) h hO
        · have hO := ok_neg c11 hO
          obtain ⟨g12, hO⟩ := ok_if hO
          obtain ⟨g13, hO⟩ := ok_if hO
          refine rb hG 16 173 193 [.aload 0, .invokeinterface 1227 12, .ldc_w 0, .iload 5, .imul, .aload 0, .invokeinterface 1230 15, .iload 5, .iaload, .iadd, .ldc_w 1, .isub, .iaload] [16, 1] [] [(5, .int y9), (0, .ref 251), (4, .int x4)] [.int (h.1 263 (Int32.toNatClampNeg ((((16 : Int32) * y9) + (h.1 266 (Int32.toNatClampNeg y9))) - (1 : Int32))))] h [kd 251 = 12, kd 251 = 12, kd 266 = 20 ∧ inb y9 (ln 266), kd 263 = 20 ∧ inb ((((16 : Int32) * y9) + (h.1 266 (Int32.toNatClampNeg y9))) - (1 : Int32)) (ln 263)] (by decide +kernel) rfl ⟨kd_251, kd_251, ⟨kd_266, g12⟩, ⟨kd_263, g13⟩⟩ ?_
          refine rs hG [] [] rfl ?_
          exact j193 (h.1 263 (Int32.toNatClampNeg ((((16 : Int32) * y9) + (h.1 266 (Int32.toNatClampNeg y9))) - (1 : Int32)))) h hO
    · have hO := ok_neg c1 hO
      obtain ⟨g14, hO⟩ := ok_if hO
      refine rb hG 9 134 144 [.aload 0, .invokeinterface 1231 16, .iload 4, .ldc_w 0, .isub, .iaload] [30] [] [(0, .ref 251), (4, .int x4)] [.int (h.1 267 (Int32.toNatClampNeg (x4 - (30 : Int32))))] h [kd 251 = 12, kd 267 = 20 ∧ inb (x4 - (30 : Int32)) (ln 267)] (by decide +kernel) rfl ⟨kd_251, ⟨kd_267, g14⟩⟩ ?_
      exact eI hG 144 (by decide +kernel) rfl ⟨(h.1 267 (Int32.toNatClampNeg (x4 - (30 : Int32)))), rfl, ok_some (Q := P) hO⟩
  have l111 : ∀ (x5 : Int32) (h : Hp), Okk (M_drawn_l111 x3 x4 x5 h) P → G 111 [(0, .ref 251), (3, .int x3), (4, .int x4), (5, .int x5)] [] h := by
    intro x5 h hO
    obtain ⟨H111, eH111⟩ : ∃ q : (Int32 × Hp) → Prop, q = fun s => G 111 [(0, .ref 251), (3, .int x3), (4, .int x4), (5, .int (s.1))] [] (s.2) := ⟨_, rfl⟩
    have w9 : H111 (x5, h) := by
      refine lp_wp (f := fun s : (Int32 × Hp) => M_drawn_b111 x3 x4 s.1 s.2) (H := H111) (Q := P) ?_ (x5, h) hO
      rintro ⟨x5, h⟩ hO
      rw [eH111]
      show G 111 [(0, .ref 251), (3, .int x3), (4, .int x4), (5, .int x5)] [] h
      have k111 : ∀ s : (Int32 × Hp), H111 s → G 111 [(0, .ref 251), (3, .int x3), (4, .int x4), (5, .int (s.1))] [] (s.2) := fun s q => by rw [eH111] at q; exact q
      replace hO : Okk (M_drawn_b111 x3 x4 x5 h) (Sum.elim H111 P) := hO
      clear eH111
      unfold M_drawn_b111 at hO
      refine rb hG 5 111 114 [.iload 5, .iload 3] [] [] [(0, .ref 251), (3, .int x3), (4, .int x4), (5, .int x5)] [.int x3, .int x5] h [] (by decide +kernel) rfl trivial ?_
      refine rj hG .ge (13) 127 114 (by decide +kernel) (by decide) (fun c15 => ?_) (fun c15 => ?_)
      · have hO := ok_pos c15 hO
        refine rs hG [(0, .ref 251), (4, .int x4)] [0, 2] rfl ?_
        exact j127 h (ok_inr hO)
      · have hO := ok_neg c15 hO
        refine rb hG 4 117 118 [.aload 0] [] [] [(0, .ref 251), (3, .int x3), (4, .int x4), (5, .int x5)] [.ref 251] h [] (by decide +kernel) rfl trivial ?_
        refine rv hG z_M_drawNight 504 0 118 251 [] [] (by decide +kernel) mk_M_drawNight lk_12_504 rcv_251 rfl ⟨rfl, Nat.le_of_ble_eq_true rfl⟩ (c_M_drawNight (d := d) h (ok_bind hO)) ?_
        rintro _ h16 ⟨rfl, hO⟩
        refine rbx hG 4 121 124 [.iinc 5 0] [1] [] ((x5 + (1 : Int32))) (fun y17 => [(5, .int y17), (0, .ref 251), (3, .int x3), (4, .int x4)]) (fun y17 => []) (fun y17 => h16) [] (by decide +kernel) rfl trivial hO (fun y17 hO => ?_)
        refine rb hG 4 124 111 [] [] [] [(5, .int y17), (0, .ref 251), (3, .int x3), (4, .int x4)] [] h16 [] (by decide +kernel) rfl trivial ?_
        refine rs hG [(0, .ref 251), (3, .int x3), (4, .int x4), (5, .int y17)] [1, 2, 3, 0] rfl ?_
        exact k111 (y17, h16) (ok_some (Q := (Sum.elim H111 P)) hO)
    rw [eH111] at w9
    exact w9
  have j94 : ∀ (h : Hp), Okk (M_drawn_j94 x2 x3 x4 h) P → G 94 [(0, .ref 251), (2, .int x2), (3, .int x3), (4, .int x4)] [] h := by
    intro h hO
    unfold M_drawn_j94 at hO
    refine rbx hG 6 94 99 [.aload 0, .iload 2, .putfield 1255] [] [] (wr h 251 55 x2) (fun h18 => [(0, .ref 251), (2, .int x2), (3, .int x3), (4, .int x4)]) (fun h18 => []) (fun h18 => h18) [kd 251 = 12] (by decide +kernel) rfl kd_251 hO (fun h18 hO => ?_)
    refine rb hG 4 99 100 [.aload 0] [] [] [(0, .ref 251), (2, .int x2), (3, .int x3), (4, .int x4)] [.ref 251] h18 [] (by decide +kernel) rfl trivial ?_
    refine rv hG z_M_begin 371 0 100 251 [] [] (by decide +kernel) mk_M_begin lk_12_371 rcv_251 rfl ⟨rfl, Nat.le_of_ble_eq_true rfl⟩ (c_M_begin (d := d + 5) h18 (ok_bind hO)) ?_
    rintro _ h19 ⟨rfl, hO⟩
    refine rbx hG 6 103 108 [.aload 0, .ldc_w 0, .putfield 1256] [0] [] (wr h19 251 56 (0 : Int32)) (fun h20 => [(0, .ref 251), (2, .int x2), (3, .int x3), (4, .int x4)]) (fun h20 => []) (fun h20 => h20) [kd 251 = 12] (by decide +kernel) rfl kd_251 hO (fun h20 hO => ?_)
    refine rb hG 5 108 111 [.ldc_w 0, .istore 5] [0] [] [(5, .int (0 : Int32)), (0, .ref 251), (2, .int x2), (3, .int x3), (4, .int x4)] [] h20 [] (by decide +kernel) rfl trivial ?_
    refine rs hG [(0, .ref 251), (3, .int x3), (4, .int x4), (5, .int (0 : Int32))] [1, 3, 4, 0] rfl ?_
    exact l111 (0 : Int32) h20 hO
  refine rbx hG 6 0 5 [.aload 0, .ldc_w 0, .putfield 1200] [0] [] (wr h 251 0 (0 : Int32)) (fun h21 => [(0, .ref 251), (1, .int x1), (2, .int x2), (3, .int x3), (4, .int x4)]) (fun h21 => []) (fun h21 => h21) [kd 251 = 12] (by decide +kernel) rfl kd_251 hO (fun h21 hO => ?_)
  refine rb hG 6 5 9 [.iload 3, .ldc_w 0, .ldc_w 1] [1, 40] [] [(0, .ref 251), (1, .int x1), (2, .int x2), (3, .int x3), (4, .int x4)] [.int (40 : Int32), .int (1 : Int32), .int x3] h21 [] (by decide +kernel) rfl trivial ?_
  refine rt hG z_M_in 111 3 9 [.int x3, .int (1 : Int32), .int (40 : Int32)] [] (by decide +kernel) mk_M_in lk_12_111 rfl ⟨rfl, Nat.le_of_ble_eq_true rfl⟩ (c_M_in (d := d + 5) h21 x3 (1 : Int32) (40 : Int32) (ok_bind hO)) ?_
  rintro _ _ ⟨r22, rfl, rfl, hO⟩
  refine ri hG .eq (79) 91 12 (by decide +kernel) (by decide) (fun c23 => ?_) (fun c23 => ?_)
  · have hO := ok_pos c23 hO
    refine rs hG [] [] rfl ?_
    exact j91 h21 hO
  · have hO := ok_neg c23 hO
    refine rb hG 5 15 17 [.aload 0, .iload 1] [] [] [(0, .ref 251), (1, .int x1), (2, .int x2), (3, .int x3), (4, .int x4)] [.int x1, .ref 251] h21 [] (by decide +kernel) rfl trivial ?_
    refine rv hG z_M_hand 280 1 17 251 [.int x1] [] (by decide +kernel) mk_M_hand lk_12_280 rcv_251 rfl ⟨rfl, Nat.le_of_ble_eq_true rfl⟩ (c_M_hand (d := d + 3) h21 x1 (ok_bind hO)) ?_
    rintro _ h25 ⟨r24, rfl, hO⟩
    refine ri hG .eq (71) 91 20 (by decide +kernel) (by decide) (fun c26 => ?_) (fun c26 => ?_)
    · have hO := ok_pos c26 hO
      refine rs hG [] [] rfl ?_
      exact j91 h25 hO
    · have hO := ok_neg c26 hO
      refine rb hG 5 23 27 [.aload 0, .getfield 1224] [] [] [(0, .ref 251), (1, .int x1), (2, .int x2), (3, .int x3), (4, .int x4)] [.int (h25.1 251 24)] h25 [kd 251 = 12] (by decide +kernel) rfl kd_251 ?_
      refine ri hG .eq (64) 91 27 (by decide +kernel) (by decide) (fun c27 => ?_) (fun c27 => ?_)
      · have hO := ok_pos c27 hO
        refine rs hG [] [] rfl ?_
        exact j91 h25 hO
      · have hO := ok_neg c27 hO
        refine rb hG 6 30 34 [.iload 4, .ldc_w 0, .ldc_w 1] [0, 3] [] [(0, .ref 251), (1, .int x1), (2, .int x2), (3, .int x3), (4, .int x4)] [.int (3 : Int32), .int (0 : Int32), .int x4] h25 [] (by decide +kernel) rfl trivial ?_
        refine rt hG z_M_in 111 3 34 [.int x4, .int (0 : Int32), .int (3 : Int32)] [] (by decide +kernel) mk_M_in lk_12_111 rfl ⟨rfl, Nat.le_of_ble_eq_true rfl⟩ (c_M_in (d := d + 5) h25 x4 (0 : Int32) (3 : Int32) (ok_bind hO)) ?_
        rintro _ _ ⟨r28, rfl, rfl, hO⟩
        refine riN hG (57) 94 37 (by decide +kernel) (by decide) (fun c29 => ?_) (fun c29 => ?_)
        · have hO := ok_pos c29 hO
          refine rb hG 9 40 51 [.iload 4, .ldc_w 0, .ldc_w 1, .aload 0, .getfield 1225, .iadd] [10, 9] [] [(0, .ref 251), (1, .int x1), (2, .int x2), (3, .int x3), (4, .int x4)] [.int ((9 : Int32) + (h25.1 251 25)), .int (10 : Int32), .int x4] h25 [kd 251 = 12] (by decide +kernel) rfl kd_251 ?_
          refine rt hG z_M_in 111 3 51 [.int x4, .int (10 : Int32), .int ((9 : Int32) + (h25.1 251 25))] [] (by decide +kernel) mk_M_in lk_12_111 rfl ⟨rfl, Nat.le_of_ble_eq_true rfl⟩ (c_M_in (d := d + 5) h25 x4 (10 : Int32) ((9 : Int32) + (h25.1 251 25)) (ok_bind hO)) ?_
          rintro _ _ ⟨r30, rfl, rfl, hO⟩
          refine riN hG (40) 94 54 (by decide +kernel) (by decide) (fun c31 => ?_) (fun c31 => ?_)
          · have hO := ok_pos c31 hO
            refine rb hG 9 57 68 [.iload 4, .ldc_w 0, .ldc_w 1, .aload 0, .getfield 1224, .iadd] [20, 19] [] [(0, .ref 251), (1, .int x1), (2, .int x2), (3, .int x3), (4, .int x4)] [.int ((19 : Int32) + (h25.1 251 24)), .int (20 : Int32), .int x4] h25 [kd 251 = 12] (by decide +kernel) rfl kd_251 ?_
            refine rt hG z_M_in 111 3 68 [.int x4, .int (20 : Int32), .int ((19 : Int32) + (h25.1 251 24))] [] (by decide +kernel) mk_M_in lk_12_111 rfl ⟨rfl, Nat.le_of_ble_eq_true rfl⟩ (c_M_in (d := d + 5) h25 x4 (20 : Int32) ((19 : Int32) + (h25.1 251 24)) (ok_bind hO)) ?_
            rintro _ _ ⟨r32, rfl, rfl, hO⟩
            refine riN hG (23) 94 71 (by decide +kernel) (by decide) (fun c33 => ?_) (fun c33 => ?_)
            · have hO := ok_pos c33 hO
              refine rb hG 9 74 85 [.iload 4, .ldc_w 0, .ldc_w 1, .aload 0, .getfield 1224, .iadd] [30, 29] [] [(0, .ref 251), (1, .int x1), (2, .int x2), (3, .int x3), (4, .int x4)] [.int ((29 : Int32) + (h25.1 251 24)), .int (30 : Int32), .int x4] h25 [kd 251 = 12] (by decide +kernel) rfl kd_251 ?_
              refine rt hG z_M_in 111 3 85 [.int x4, .int (30 : Int32), .int ((29 : Int32) + (h25.1 251 24))] [] (by decide +kernel) mk_M_in lk_12_111 rfl ⟨rfl, Nat.le_of_ble_eq_true rfl⟩ (c_M_in (d := d + 5) h25 x4 (30 : Int32) ((29 : Int32) + (h25.1 251 24)) (ok_bind hO)) ?_
              rintro _ _ ⟨r34, rfl, rfl, hO⟩
              refine riN hG (6) 94 88 (by decide +kernel) (by decide) (fun c35 => ?_) (fun c35 => ?_)
              · have hO := ok_pos c35 hO
                refine rs hG [] [] rfl ?_
                exact j91 h25 hO
              · have hO := ok_neg c35 hO
                refine rs hG [(0, .ref 251), (2, .int x2), (3, .int x3), (4, .int x4)] [0, 2, 3, 4] rfl ?_
                exact j94 h25 hO
            · have hO := ok_neg c33 hO
              refine rs hG [(0, .ref 251), (2, .int x2), (3, .int x3), (4, .int x4)] [0, 2, 3, 4] rfl ?_
              exact j94 h25 hO
          · have hO := ok_neg c31 hO
            refine rs hG [(0, .ref 251), (2, .int x2), (3, .int x3), (4, .int x4)] [0, 2, 3, 4] rfl ?_
            exact j94 h25 hO
        · have hO := ok_neg c29 hO
          refine rs hG [(0, .ref 251), (2, .int x2), (3, .int x3), (4, .int x4)] [0, 2, 3, 4] rfl ?_
          exact j94 h25 hO
/-! GrainInn.State.metBy(I)I -/
noncomputable def S_metBy_j21 (s0 : Int32) (h : Hp) : Option Int32 := some s0
noncomputable def S_metBy (h : Hp) (x1 : Int32) : Option Int32 := if kd (Int32.toNatClampNeg (h.1 57 6)) = 1 then ((H_hasGuest h (Int32.toNatClampNeg (h.1 57 6)) x1).bind fun r2 => if r2 = 0 then ((S_metBy_j21 (0 : Int32) h)) else (if inb x1 (ln 61) then ((S_metBy_j21 (h.1 61 (Int32.toNatClampNeg x1)) h)) else none)) else none
set_option maxRecDepth 100000 in
set_option maxHeartbeats 4000000 in
theorem c_S_metBy {E : En} {d : Nat} (h : Hp) (x1 : Int32) {P : Int32 → Prop} (hO : Okk (S_metBy h x1) P) : Cn E (d + 2) z_S_metBy [.ref 57, .int x1] h (RIp h P) := by
  refine cn_of (on := 7) (d := d + 1) ⟨rfl, by decide +kernel, Nat.le_of_ble_eq_true rfl⟩ (fun G hG => ?_)
  unfold S_metBy at hO
  show G 0 [(0, .ref 57), (1, .int x1)] [] h
  have j21 : ∀ (s0 : Int32), Okk (S_metBy_j21 s0 h) P → G 21 [] [.int s0] h := by
    intro s0 hO
    unfold S_metBy_j21 at hO
    exact eI hG 21 (by decide +kernel) rfl ⟨s0, rfl, rfl, ok_some (Q := P) hO⟩
  obtain ⟨g1, hO⟩ := ok_if hO
  refine rb hG 6 0 5 [.aload 0, .instanceof 706, .iload 1] [] [] [(0, .ref 57), (1, .int x1)] [.int x1, .ref (Int32.toNatClampNeg (h.1 57 6))] h [kd 57 = 7] (by decide +kernel) rfl kd_57 ?_
  refine rv hG z_H_hasGuest 159 1 5 (Int32.toNatClampNeg (h.1 57 6)) [.int x1] [] (by decide +kernel) mk_H_hasGuest lk_7_159 (rcv_H g1) rfl ⟨rfl, Nat.le_of_ble_eq_true rfl⟩ (c_H_hasGuest (d := d) h (Int32.toNatClampNeg (h.1 57 6)) x1 (ok_bind hO)) ?_
  rintro _ _ ⟨r2, rfl, rfl, hO⟩
  refine ri hG .eq (12) 20 8 (by decide +kernel) (by decide) (fun c3 => ?_) (fun c3 => ?_)
  · have hO := ok_pos c3 hO
    refine rb hG 4 20 21 [.ldc_w 0] [0] [] [(0, .ref 57), (1, .int x1)] [.int (0 : Int32)] h [] (by decide +kernel) rfl trivial ?_
    refine rs hG [] [] rfl ?_
    exact j21 (0 : Int32) hO
  · have hO := ok_neg c3 hO
    obtain ⟨g4, hO⟩ := ok_if hO
    refine rb hG 8 11 21 [.aload 0, .invokeinterface 703 4, .iload 1, .iaload] [] [] [(0, .ref 57), (1, .int x1)] [.int (h.1 61 (Int32.toNatClampNeg x1))] h [kd 57 = 7, kd 61 = 20 ∧ inb x1 (ln 61)] (by decide +kernel) rfl ⟨kd_57, ⟨kd_61, g4⟩⟩ ?_
    refine rs hG [] [] rfl ?_
    exact j21 (h.1 61 (Int32.toNatClampNeg x1)) hO
/-! GrainInn.State.gossip(II)I -/
noncomputable def S_gossip_j82 (h : Hp) : Option Int32 := some (-1 : Int32)
noncomputable def S_gossip_j73 (x2 : Int32) (x4 : Int32) (x5 : Int32) (h : Hp) : Option ((Int32 × Int32) ⊕ Int32) := bnd ((x4 + (1 : Int32))) fun y1 => some (.inl (x5, y1))
noncomputable def S_gossip_j64 (x2 : Int32) (x3 : Int32) (x4 : Int32) (x6 : Int32) (s0 : Int32) (s1 : Int32) (h : Hp) : Option ((Int32 × Int32) ⊕ ((Int32 × Int32) ⊕ Int32)) := bnd ((s0 ||| s1)) fun y2 => bnd ((x6 + (1 : Int32))) fun y3 => some (.inl (y2, y3))
noncomputable def S_gossip_b31 (x2 : Int32) (x3 : Int32) (x4 : Int32) (x5 : Int32) (x6 : Int32) (h : Hp) : Option ((Int32 × Int32) ⊕ ((Int32 × Int32) ⊕ Int32)) := if kd (Int32.toNatClampNeg (h.1 57 6)) = 1 then (if (h.1 (Int32.toNatClampNeg (h.1 57 6)) 6) ≤ x6 then (((S_gossip_j73 x2 x4 x5 h).map Sum.inr)) else ((K_isIn x3 x6).bind fun r6 => if r6 = 0 then ((S_gossip_j64 x2 x3 x4 x6 x5 (0 : Int32) h)) else ((S_metBy h x6).bind fun r8 => (S_gossip_j64 x2 x3 x4 x6 x5 r8 h)))) else none
noncomputable def S_gossip_l31 (x2 : Int32) (x3 : Int32) (x4 : Int32) (x5 : Int32) (x6 : Int32) (h : Hp) : Option ((Int32 × Int32) ⊕ Int32) := lp (fun s : (Int32 × Int32) => S_gossip_b31 x2 x3 x4 s.1 s.2 h) (x5, x6)
theorem S_gossip_l31_eq (x2 : Int32) (x3 : Int32) (x4 : Int32) (x5 : Int32) (x6 : Int32) (h : Hp) : S_gossip_l31 x2 x3 x4 x5 x6 h = (S_gossip_b31 x2 x3 x4 x5 x6 h).bind (Sum.elim (fun q : (Int32 × Int32) => S_gossip_l31 x2 x3 x4 q.1 q.2 h) some) := lp_eq _ _
noncomputable def S_gossip_j22 (x4 : Int32) (h : Hp) : Option Int32 := some x4
noncomputable def S_gossip_b7 (x2 : Int32) (x3 : Int32) (x4 : Int32) (h : Hp) : Option ((Int32 × Int32) ⊕ Int32) := if (8 : Int32) ≤ x4 then (((S_gossip_j82 h).map Sum.inr)) else ((K_isIn x3 x2).bind fun r10 => if r10 = 0 then ((S_gossip_l31 x2 x3 x4 x3 (0 : Int32) h)) else (((S_gossip_j22 x4 h).map Sum.inr)))
noncomputable def S_gossip_l7 (x2 : Int32) (x3 : Int32) (x4 : Int32) (h : Hp) : Option Int32 := lp (fun s : (Int32 × Int32) => S_gossip_b7 x2 s.1 s.2 h) (x3, x4)
theorem S_gossip_l7_eq (x2 : Int32) (x3 : Int32) (x4 : Int32) (h : Hp) : S_gossip_l7 x2 x3 x4 h = (S_gossip_b7 x2 x3 x4 h).bind (Sum.elim (fun q : (Int32 × Int32) => S_gossip_l7 x2 q.1 q.2 h) some) := lp_eq _ _
noncomputable def S_gossip (h : Hp) (x1 : Int32) (x2 : Int32) : Option Int32 := bnd ((sh (1 : Int32) x1)) fun y12 => (S_gossip_l7 x2 y12 (0 : Int32) h)
set_option maxRecDepth 100000 in
set_option maxHeartbeats 4000000 in
theorem c_S_gossip {E : En} {d : Nat} (h : Hp) (x1 : Int32) (x2 : Int32) {P : Int32 → Prop} (hO : Okk (S_gossip h x1 x2) P) : Cn E (d + 3) z_S_gossip [.ref 57, .int x1, .int x2] h (RIp h P) := by
  refine cn_of (on := 7) (d := d + 2) ⟨rfl, by decide +kernel, Nat.le_of_ble_eq_true rfl⟩ (fun G hG => ?_)
  unfold S_gossip at hO
  show G 0 [(0, .ref 57), (1, .int x1), (2, .int x2)] [] h
  have j82 : Okk (S_gossip_j82 h) P → G 82 [] [] h := by
    intro hO
    unfold S_gossip_j82 at hO
    refine rb hG 4 82 83 [.ldc_w 0] [-1] [] [] [.int (-1 : Int32)] h [] (by decide +kernel) rfl trivial ?_
    exact eI hG 83 (by decide +kernel) rfl ⟨(-1 : Int32), rfl, rfl, ok_some (Q := P) hO⟩
  have j22 : ∀ (x4 : Int32), Okk (S_gossip_j22 x4 h) P → G 22 [(4, .int x4)] [] h := by
    intro x4 hO
    unfold S_gossip_j22 at hO
    refine rb hG 4 22 24 [.iload 4] [] [] [(4, .int x4)] [.int x4] h [] (by decide +kernel) rfl trivial ?_
    exact eI hG 24 (by decide +kernel) rfl ⟨x4, rfl, rfl, ok_some (Q := P) hO⟩
  have l7 : ∀ (x3 : Int32) (x4 : Int32), Okk (S_gossip_l7 x2 x3 x4 h) P → G 7 [(0, .ref 57), (2, .int x2), (3, .int x3), (4, .int x4)] [] h := by
    intro x3 x4 hO
    obtain ⟨H7, eH7⟩ : ∃ q : (Int32 × Int32) → Prop, q = fun s => G 7 [(0, .ref 57), (2, .int x2), (3, .int (s.1)), (4, .int (s.2))] [] (h) := ⟨_, rfl⟩
    have w9 : H7 (x3, x4) := by
      refine lp_wp (f := fun s : (Int32 × Int32) => S_gossip_b7 x2 s.1 s.2 h) (H := H7) (Q := P) ?_ (x3, x4) hO
      rintro ⟨x3, x4⟩ hO
      rw [eH7]
      show G 7 [(0, .ref 57), (2, .int x2), (3, .int x3), (4, .int x4)] [] h
      have k7 : ∀ s : (Int32 × Int32), H7 s → G 7 [(0, .ref 57), (2, .int x2), (3, .int (s.1)), (4, .int (s.2))] [] (h) := fun s q => by rw [eH7] at q; exact q
      replace hO : Okk (S_gossip_b7 x2 x3 x4 h) (Sum.elim H7 P) := hO
      clear eH7
      have j73 : ∀ (x4 : Int32) (x5 : Int32), Okk (S_gossip_j73 x2 x4 x5 h) (Sum.elim H7 P) → G 73 [(0, .ref 57), (2, .int x2), (4, .int x4), (5, .int x5)] [] h := by
        intro x4 x5 hO
        unfold S_gossip_j73 at hO
        refine rbx hG 6 73 79 [.iload 5, .istore 3, .iinc 4 0] [1] [] ((x4 + (1 : Int32))) (fun y1 => [(4, .int y1), (3, .int x5), (0, .ref 57), (2, .int x2), (5, .int x5)]) (fun y1 => []) (fun y1 => h) [] (by decide +kernel) rfl trivial hO (fun y1 hO => ?_)
        refine rb hG 4 79 7 [] [] [] [(4, .int y1), (3, .int x5), (0, .ref 57), (2, .int x2), (5, .int x5)] [] h [] (by decide +kernel) rfl trivial ?_
        refine rs hG [(0, .ref 57), (2, .int x2), (3, .int x5), (4, .int y1)] [2, 3, 1, 0] rfl ?_
        exact k7 (x5, y1) (ok_some (Q := (Sum.elim H7 P)) hO)
      have l31 : ∀ (x3 : Int32) (x4 : Int32) (x5 : Int32) (x6 : Int32), Okk (S_gossip_l31 x2 x3 x4 x5 x6 h) (Sum.elim H7 P) → G 31 [(0, .ref 57), (2, .int x2), (3, .int x3), (4, .int x4), (5, .int x5), (6, .int x6)] [] h := by
        intro x3 x4 x5 x6 hO
        obtain ⟨H31, eH31⟩ : ∃ q : (Int32 × Int32) → Prop, q = fun s => G 31 [(0, .ref 57), (2, .int x2), (3, .int x3), (4, .int x4), (5, .int (s.1)), (6, .int (s.2))] [] (h) := ⟨_, rfl⟩
        have w9 : H31 (x5, x6) := by
          refine lp_wp (f := fun s : (Int32 × Int32) => S_gossip_b31 x2 x3 x4 s.1 s.2 h) (H := H31) (Q := (Sum.elim H7 P)) ?_ (x5, x6) hO
          rintro ⟨x5, x6⟩ hO
          rw [eH31]
          show G 31 [(0, .ref 57), (2, .int x2), (3, .int x3), (4, .int x4), (5, .int x5), (6, .int x6)] [] h
          have k31 : ∀ s : (Int32 × Int32), H31 s → G 31 [(0, .ref 57), (2, .int x2), (3, .int x3), (4, .int x4), (5, .int (s.1)), (6, .int (s.2))] [] (h) := fun s q => by rw [eH31] at q; exact q
          replace hO : Okk (S_gossip_b31 x2 x3 x4 x5 x6 h) (Sum.elim H31 (Sum.elim H7 P)) := hO
          clear eH31
          have j64 : ∀ (x6 : Int32) (s0 : Int32) (s1 : Int32), Okk (S_gossip_j64 x2 x3 x4 x6 s0 s1 h) (Sum.elim H31 (Sum.elim H7 P)) → G 64 [(0, .ref 57), (2, .int x2), (3, .int x3), (4, .int x4), (6, .int x6)] [.int s1, .int s0] h := by
            intro x6 s0 s1 hO
            unfold S_gossip_j64 at hO
            refine rbx hG 5 64 67 [.ior, .istore 5] [] [] ((s0 ||| s1)) (fun y2 => [(5, .int y2), (0, .ref 57), (2, .int x2), (3, .int x3), (4, .int x4), (6, .int x6)]) (fun y2 => []) (fun y2 => h) [] (by decide +kernel) rfl trivial hO (fun y2 hO => ?_)
            refine rbx hG 4 67 70 [.iinc 6 0] [1] [] ((x6 + (1 : Int32))) (fun y3 => [(6, .int y3), (5, .int y2), (0, .ref 57), (2, .int x2), (3, .int x3), (4, .int x4)]) (fun y3 => []) (fun y3 => h) [] (by decide +kernel) rfl trivial hO (fun y3 hO => ?_)
            refine rb hG 4 70 31 [] [] [] [(6, .int y3), (5, .int y2), (0, .ref 57), (2, .int x2), (3, .int x3), (4, .int x4)] [] h [] (by decide +kernel) rfl trivial ?_
            refine rs hG [(0, .ref 57), (2, .int x2), (3, .int x3), (4, .int x4), (5, .int y2), (6, .int y3)] [2, 3, 4, 5, 1, 0] rfl ?_
            exact k31 (y2, y3) (ok_some (Q := (Sum.elim H31 (Sum.elim H7 P))) hO)
          unfold S_gossip_b31 at hO
          obtain ⟨g4, hO⟩ := ok_if hO
          refine rb hG 7 31 40 [.iload 6, .aload 0, .instanceof 706, .getfield 106] [] [] [(0, .ref 57), (2, .int x2), (3, .int x3), (4, .int x4), (5, .int x5), (6, .int x6)] [.int (h.1 (Int32.toNatClampNeg (h.1 57 6)) 6), .int x6] h [kd 57 = 7, kd (Int32.toNatClampNeg (h.1 57 6)) = 1] (by decide +kernel) rfl ⟨kd_57, g4⟩ ?_
          refine rj hG .ge (33) 73 40 (by decide +kernel) (by decide) (fun c5 => ?_) (fun c5 => ?_)
          · have hO := ok_pos c5 hO
            refine rs hG [(0, .ref 57), (2, .int x2), (4, .int x4), (5, .int x5)] [0, 1, 3, 4] rfl ?_
            exact j73 x4 x5 (ok_inr hO)
          · have hO := ok_neg c5 hO
            refine rb hG 6 43 48 [.iload 5, .iload 3, .iload 6] [] [] [(0, .ref 57), (2, .int x2), (3, .int x3), (4, .int x4), (5, .int x5), (6, .int x6)] [.int x6, .int x3, .int x5] h [] (by decide +kernel) rfl trivial ?_
            refine rt hG z_K_isIn 73 2 48 [.int x3, .int x6] [.int x5] (by decide +kernel) mk_K_isIn lk_7_73 rfl ⟨rfl, Nat.le_of_ble_eq_true rfl⟩ (c_K_isIn (d := d + 1) h x3 x6 (ok_bind hO)) ?_
            rintro _ _ ⟨r6, rfl, rfl, hO⟩
            refine ri hG .eq (12) 63 51 (by decide +kernel) (by decide) (fun c7 => ?_) (fun c7 => ?_)
            · have hO := ok_pos c7 hO
              refine rb hG 4 63 64 [.ldc_w 0] [0] [] [(0, .ref 57), (2, .int x2), (3, .int x3), (4, .int x4), (5, .int x5), (6, .int x6)] [.int (0 : Int32), .int x5] h [] (by decide +kernel) rfl trivial ?_
              refine rs hG [(0, .ref 57), (2, .int x2), (3, .int x3), (4, .int x4), (6, .int x6)] [0, 1, 2, 3, 5] rfl ?_
              exact j64 x6 x5 (0 : Int32) hO
            · have hO := ok_neg c7 hO
              refine rb hG 5 54 57 [.aload 0, .iload 6] [] [] [(0, .ref 57), (2, .int x2), (3, .int x3), (4, .int x4), (5, .int x5), (6, .int x6)] [.int x6, .ref 57, .int x5] h [] (by decide +kernel) rfl trivial ?_
              refine rv hG z_S_metBy 213 1 57 57 [.int x6] [.int x5] (by decide +kernel) mk_S_metBy lk_7_213 rcv_57 rfl ⟨rfl, Nat.le_of_ble_eq_true rfl⟩ (c_S_metBy (d := d) h x6 (ok_bind hO)) ?_
              rintro _ _ ⟨r8, rfl, rfl, hO⟩
              refine rb hG 4 60 64 [] [] [] [(0, .ref 57), (2, .int x2), (3, .int x3), (4, .int x4), (5, .int x5), (6, .int x6)] [.int r8, .int x5] h [] (by decide +kernel) rfl trivial ?_
              refine rs hG [(0, .ref 57), (2, .int x2), (3, .int x3), (4, .int x4), (6, .int x6)] [0, 1, 2, 3, 5] rfl ?_
              exact j64 x6 x5 r8 hO
        rw [eH31] at w9
        exact w9
      unfold S_gossip_b7 at hO
      refine rb hG 5 7 11 [.iload 4, .ldc_w 0] [8] [] [(0, .ref 57), (2, .int x2), (3, .int x3), (4, .int x4)] [.int (8 : Int32), .int x4] h [] (by decide +kernel) rfl trivial ?_
      refine rj hG .ge (71) 82 11 (by decide +kernel) (by decide) (fun c9 => ?_) (fun c9 => ?_)
      · have hO := ok_pos c9 hO
        refine rs hG [] [] rfl ?_
        exact j82 (ok_inr hO)
      · have hO := ok_neg c9 hO
        refine rb hG 5 14 16 [.iload 3, .iload 2] [] [] [(0, .ref 57), (2, .int x2), (3, .int x3), (4, .int x4)] [.int x2, .int x3] h [] (by decide +kernel) rfl trivial ?_
        refine rt hG z_K_isIn 73 2 16 [.int x3, .int x2] [] (by decide +kernel) mk_K_isIn lk_7_73 rfl ⟨rfl, Nat.le_of_ble_eq_true rfl⟩ (c_K_isIn (d := d + 1) h x3 x2 (ok_bind hO)) ?_
        rintro _ _ ⟨r10, rfl, rfl, hO⟩
        refine ri hG .eq (6) 25 19 (by decide +kernel) (by decide) (fun c11 => ?_) (fun c11 => ?_)
        · have hO := ok_pos c11 hO
          refine rb hG 7 25 31 [.iload 3, .istore 5, .ldc_w 0, .istore 6] [0] [] [(6, .int (0 : Int32)), (5, .int x3), (0, .ref 57), (2, .int x2), (3, .int x3), (4, .int x4)] [] h [] (by decide +kernel) rfl trivial ?_
          refine rs hG [(0, .ref 57), (2, .int x2), (3, .int x3), (4, .int x4), (5, .int x3), (6, .int (0 : Int32))] [2, 3, 4, 5, 1, 0] rfl ?_
          exact l31 x3 x4 x3 (0 : Int32) hO
        · have hO := ok_neg c11 hO
          refine rs hG [(4, .int x4)] [3] rfl ?_
          exact j22 x4 (ok_inr hO)
    rw [eH7] at w9
    exact w9
  refine rbx hG 7 0 4 [.ldc_w 0, .iload 1, .ishl, .istore 3] [1] [] ((sh (1 : Int32) x1)) (fun y12 => [(3, .int y12), (0, .ref 57), (1, .int x1), (2, .int x2)]) (fun y12 => []) (fun y12 => h) [] (by decide +kernel) rfl trivial hO (fun y12 hO => ?_)
  refine rb hG 5 4 7 [.ldc_w 0, .istore 4] [0] [] [(4, .int (0 : Int32)), (3, .int y12), (0, .ref 57), (1, .int x1), (2, .int x2)] [] h [] (by decide +kernel) rfl trivial ?_
  refine rs hG [(0, .ref 57), (2, .int x2), (3, .int y12), (4, .int (0 : Int32))] [2, 4, 1, 0] rfl ?_
  exact l7 y12 (0 : Int32) hO
/-! GrainInn.met(IIIII)I -/
noncomputable def K_met_j27 (h : Hp) : Option (Int32 × Hp) := some ((-2 : Int32), h)
noncomputable def K_met_j71 (s0 : Int32) (h : Hp) : Option (Int32 × Hp) := some (s0, h)
noncomputable def K_met (h : Hp) (x1 : Int32) (x2 : Int32) (x3 : Int32) (x4 : Int32) (x5 : Int32) : Option (Int32 × Hp) := (K_reach h x1 x2 x3).bind fun (r1, h2) => if r1 = 0 then ((K_met_j27 h2)) else (if r1 = 57 then (if kd (Int32.toNatClampNeg (h2.1 57 6)) = 1 then ((H_hasGuest h2 (Int32.toNatClampNeg (h2.1 57 6)) x4).bind fun r6 => if r6 = 0 then ((K_met_j27 h2)) else (if x5 = (-1 : Int32) then ((S_metBy h2 x4).bind fun r9 => some (r9, h2)) else ((H_hasGuest h2 (Int32.toNatClampNeg (h2.1 57 6)) x5).bind fun r10 => if r10 = 0 then ((K_met_j71 (-2 : Int32) h2)) else ((S_gossip h2 x4 x5).bind fun r12 => (K_met_j71 r12 h2))))) else none) else none)
set_option maxRecDepth 100000 in
set_option maxHeartbeats 4000000 in
theorem c_K_met {E : En} {d : Nat} (h : Hp) (x1 : Int32) (x2 : Int32) (x3 : Int32) (x4 : Int32) (x5 : Int32) {P : (Int32 × Hp) → Prop} (hO : Okk (K_met h x1 x2 x3 x4 x5) P) : Cn E (d + 8) z_K_met [.ref 1, .int x1, .int x2, .int x3, .int x4, .int x5] h (RI P) := by
  refine cn_of (on := 11) (d := d + 7) ⟨rfl, by decide +kernel, Nat.le_of_ble_eq_true rfl⟩ (fun G hG => ?_)
  unfold K_met at hO
  show G 0 [(0, .ref 1), (1, .int x1), (2, .int x2), (3, .int x3), (4, .int x4), (5, .int x5)] [] h
  have j27 : ∀ (h : Hp), Okk (K_met_j27 h) P → G 27 [] [] h := by
    intro h hO
    unfold K_met_j27 at hO
    refine rb hG 4 27 29 [.ldc_w 0] [-2] [] [] [.int (-2 : Int32)] h [] (by decide +kernel) rfl trivial ?_
    exact eI hG 29 (by decide +kernel) rfl ⟨(-2 : Int32), rfl, ok_some (Q := P) hO⟩
  have j71 : ∀ (s0 : Int32) (h : Hp), Okk (K_met_j71 s0 h) P → G 71 [] [.int s0] h := by
    intro s0 h hO
    unfold K_met_j71 at hO
    exact eI hG 71 (by decide +kernel) rfl ⟨s0, rfl, ok_some (Q := P) hO⟩
  refine rb hG 7 0 4 [.aload 0, .iload 1, .iload 2, .iload 3] [] [] [(0, .ref 1), (1, .int x1), (2, .int x2), (3, .int x3), (4, .int x4), (5, .int x5)] [.int x3, .int x2, .int x1, .ref 1] h [] (by decide +kernel) rfl trivial ?_
  refine rv hG z_K_reach 155 3 4 1 [.int x1, .int x2, .int x3] [] (by decide +kernel) mk_K_reach lk_11_155 rcv_1 rfl ⟨rfl, Nat.le_of_ble_eq_true rfl⟩ (c_K_reach (d := d) h x1 x2 x3 (ok_bind hO)) ?_
  rintro _ h2 ⟨r1, rfl, hO⟩
  refine rb hG 5 7 11 [.astore 6, .aload 6] [] [] [(6, .ref r1), (0, .ref 1), (1, .int x1), (2, .int x2), (3, .int x3), (4, .int x4), (5, .int x5)] [.ref r1] h2 [] (by decide +kernel) rfl trivial ?_
  refine rn hG (16) 27 11 (by decide +kernel) (by decide) (fun c3 => ?_) (fun c3 => ?_)
  · have hO := ok_pos c3 hO
    refine rs hG [] [] rfl ?_
    exact j27 h2 hO
  · have hO := ok_neg c3 hO
    obtain ⟨g4, hOg4⟩ := ok_if hO
    subst g4
    have hO := hOg4
    obtain ⟨g5, hO⟩ := ok_if hO
    refine rb hG 6 14 21 [.aload 6, .instanceof 706, .iload 4] [] [] [(6, .ref 57), (0, .ref 1), (1, .int x1), (2, .int x2), (3, .int x3), (4, .int x4), (5, .int x5)] [.int x4, .ref (Int32.toNatClampNeg (h2.1 57 6))] h2 [kd 57 = 7] (by decide +kernel) rfl kd_57 ?_
    refine rv hG z_H_hasGuest 183 1 21 (Int32.toNatClampNeg (h2.1 57 6)) [.int x4] [] (by decide +kernel) mk_H_hasGuest lk_11_183 (rcv_H g5) rfl ⟨rfl, Nat.le_of_ble_eq_true rfl⟩ (c_H_hasGuest (d := d + 6) h2 (Int32.toNatClampNeg (h2.1 57 6)) x4 (ok_bind hO)) ?_
    rintro _ _ ⟨r6, rfl, rfl, hO⟩
    refine riN hG (6) 30 24 (by decide +kernel) (by decide) (fun c7 => ?_) (fun c7 => ?_)
    · have hO := ok_pos c7 hO
      refine rs hG [] [] rfl ?_
      exact j27 h2 hO
    · have hO := ok_neg c7 hO
      refine rb hG 5 30 33 [.iload 5, .ldc_w 0] [-1] [] [(6, .ref 57), (0, .ref 1), (1, .int x1), (2, .int x2), (3, .int x3), (4, .int x4), (5, .int x5)] [.int (-1 : Int32), .int x5] h2 [] (by decide +kernel) rfl trivial ?_
      refine rjN hG (11) 44 33 (by decide +kernel) (by decide) (fun c8 => ?_) (fun c8 => ?_)
      · have hO := ok_pos c8 hO
        refine rb hG 5 36 40 [.aload 6, .iload 4] [] [] [(6, .ref 57), (0, .ref 1), (1, .int x1), (2, .int x2), (3, .int x3), (4, .int x4), (5, .int x5)] [.int x4, .ref 57] h2 [] (by decide +kernel) rfl trivial ?_
        refine rv hG z_S_metBy 317 1 40 57 [.int x4] [] (by decide +kernel) mk_S_metBy lk_11_317 rcv_57 rfl ⟨rfl, Nat.le_of_ble_eq_true rfl⟩ (c_S_metBy (d := d + 5) h2 x4 (ok_bind hO)) ?_
        rintro _ _ ⟨r9, rfl, rfl, hO⟩
        exact eI hG 43 (by decide +kernel) rfl ⟨r9, rfl, ok_some (Q := P) hO⟩
      · have hO := ok_neg c8 hO
        refine rb hG 6 44 51 [.aload 6, .instanceof 706, .iload 5] [] [] [(6, .ref 57), (0, .ref 1), (1, .int x1), (2, .int x2), (3, .int x3), (4, .int x4), (5, .int x5)] [.int x5, .ref (Int32.toNatClampNeg (h2.1 57 6))] h2 [kd 57 = 7] (by decide +kernel) rfl kd_57 ?_
        refine rv hG z_H_hasGuest 183 1 51 (Int32.toNatClampNeg (h2.1 57 6)) [.int x5] [] (by decide +kernel) mk_H_hasGuest lk_11_183 (rcv_H g5) rfl ⟨rfl, Nat.le_of_ble_eq_true rfl⟩ (c_H_hasGuest (d := d + 6) h2 (Int32.toNatClampNeg (h2.1 57 6)) x5 (ok_bind hO)) ?_
        rintro _ _ ⟨r10, rfl, rfl, hO⟩
        refine ri hG .eq (15) 69 54 (by decide +kernel) (by decide) (fun c11 => ?_) (fun c11 => ?_)
        · have hO := ok_pos c11 hO
          refine rb hG 4 69 71 [.ldc_w 0] [-2] [] [(6, .ref 57), (0, .ref 1), (1, .int x1), (2, .int x2), (3, .int x3), (4, .int x4), (5, .int x5)] [.int (-2 : Int32)] h2 [] (by decide +kernel) rfl trivial ?_
          refine rs hG [] [] rfl ?_
          exact j71 (-2 : Int32) h2 hO
        · have hO := ok_neg c11 hO
          refine rb hG 6 57 63 [.aload 6, .iload 4, .iload 5] [] [] [(6, .ref 57), (0, .ref 1), (1, .int x1), (2, .int x2), (3, .int x3), (4, .int x4), (5, .int x5)] [.int x5, .int x4, .ref 57] h2 [] (by decide +kernel) rfl trivial ?_
          refine rv hG z_S_gossip 320 2 63 57 [.int x4, .int x5] [] (by decide +kernel) mk_S_gossip lk_11_320 rcv_57 rfl ⟨rfl, Nat.le_of_ble_eq_true rfl⟩ (c_S_gossip (d := d + 4) h2 x4 x5 (ok_bind hO)) ?_
          rintro _ _ ⟨r12, rfl, rfl, hO⟩
          refine rb hG 4 66 71 [] [] [] [(6, .ref 57), (0, .ref 1), (1, .int x1), (2, .int x2), (3, .int x3), (4, .int x4), (5, .int x5)] [.int r12] h2 [] (by decide +kernel) rfl trivial ?_
          refine rs hG [] [] rfl ?_
          exact j71 r12 h2 hO
/-! GrainInnModel.gossip(II)I -/
noncomputable def M_gossip_j78 (h : Hp) : Option Int32 := some (-1 : Int32)
noncomputable def M_gossip_j69 (x2 : Int32) (x4 : Int32) (x5 : Int32) (h : Hp) : Option ((Int32 × Int32) ⊕ Int32) := bnd ((x4 + (1 : Int32))) fun y1 => some (.inl (x5, y1))
noncomputable def M_gossip_j60 (x2 : Int32) (x3 : Int32) (x4 : Int32) (x6 : Int32) (s0 : Int32) (s1 : Int32) (h : Hp) : Option ((Int32 × Int32) ⊕ ((Int32 × Int32) ⊕ Int32)) := bnd ((s0 ||| s1)) fun y2 => bnd ((x6 + (1 : Int32))) fun y3 => some (.inl (y2, y3))
noncomputable def M_gossip_b31 (x2 : Int32) (x3 : Int32) (x4 : Int32) (x5 : Int32) (x6 : Int32) (h : Hp) : Option ((Int32 × Int32) ⊕ ((Int32 × Int32) ⊕ Int32)) := if (8 : Int32) ≤ x6 then (((M_gossip_j69 x2 x4 x5 h).map Sum.inr)) else ((M_has x3 x6).bind fun r5 => if r5 = 0 then ((M_gossip_j60 x2 x3 x4 x6 x5 (0 : Int32) h)) else (if inb x6 (ln 273) then ((M_gossip_j60 x2 x3 x4 x6 x5 (h.1 273 (Int32.toNatClampNeg x6)) h)) else none))
noncomputable def M_gossip_l31 (x2 : Int32) (x3 : Int32) (x4 : Int32) (x5 : Int32) (x6 : Int32) (h : Hp) : Option ((Int32 × Int32) ⊕ Int32) := lp (fun s : (Int32 × Int32) => M_gossip_b31 x2 x3 x4 s.1 s.2 h) (x5, x6)
theorem M_gossip_l31_eq (x2 : Int32) (x3 : Int32) (x4 : Int32) (x5 : Int32) (x6 : Int32) (h : Hp) : M_gossip_l31 x2 x3 x4 x5 x6 h = (M_gossip_b31 x2 x3 x4 x5 x6 h).bind (Sum.elim (fun q : (Int32 × Int32) => M_gossip_l31 x2 x3 x4 q.1 q.2 h) some) := lp_eq _ _
noncomputable def M_gossip_j22 (x4 : Int32) (h : Hp) : Option Int32 := some x4
noncomputable def M_gossip_b7 (x2 : Int32) (x3 : Int32) (x4 : Int32) (h : Hp) : Option ((Int32 × Int32) ⊕ Int32) := if (8 : Int32) < x4 then (((M_gossip_j78 h).map Sum.inr)) else ((M_has x3 x2).bind fun r9 => if r9 = 0 then ((M_gossip_l31 x2 x3 x4 x3 (0 : Int32) h)) else (((M_gossip_j22 x4 h).map Sum.inr)))
noncomputable def M_gossip_l7 (x2 : Int32) (x3 : Int32) (x4 : Int32) (h : Hp) : Option Int32 := lp (fun s : (Int32 × Int32) => M_gossip_b7 x2 s.1 s.2 h) (x3, x4)
theorem M_gossip_l7_eq (x2 : Int32) (x3 : Int32) (x4 : Int32) (h : Hp) : M_gossip_l7 x2 x3 x4 h = (M_gossip_b7 x2 x3 x4 h).bind (Sum.elim (fun q : (Int32 × Int32) => M_gossip_l7 x2 q.1 q.2 h) some) := lp_eq _ _
noncomputable def M_gossip (h : Hp) (x1 : Int32) (x2 : Int32) : Option Int32 := bnd ((sh (1 : Int32) x1)) fun y11 => (M_gossip_l7 x2 y11 (0 : Int32) h)
set_option maxRecDepth 100000 in
set_option maxHeartbeats 4000000 in
theorem c_M_gossip {E : En} {d : Nat} (h : Hp) (x1 : Int32) (x2 : Int32) {P : Int32 → Prop} (hO : Okk (M_gossip h x1 x2) P) : Cn E (d + 2) z_M_gossip [.ref 251, .int x1, .int x2] h (RIp h P) := by
  refine cn_of (on := 12) (d := d + 1) ⟨rfl, by decide +kernel, Nat.le_of_ble_eq_true rfl⟩ (fun G hG => ?_)
  unfold M_gossip at hO
  show G 0 [(0, .ref 251), (1, .int x1), (2, .int x2)] [] h
  have j78 : Okk (M_gossip_j78 h) P → G 78 [] [] h := by
    intro hO
    unfold M_gossip_j78 at hO
    refine rb hG 4 78 79 [.ldc_w 0] [-1] [] [] [.int (-1 : Int32)] h [] (by decide +kernel) rfl trivial ?_
    exact eI hG 79 (by decide +kernel) rfl ⟨(-1 : Int32), rfl, rfl, ok_some (Q := P) hO⟩
  have j22 : ∀ (x4 : Int32), Okk (M_gossip_j22 x4 h) P → G 22 [(4, .int x4)] [] h := by
    intro x4 hO
    unfold M_gossip_j22 at hO
    refine rb hG 4 22 24 [.iload 4] [] [] [(4, .int x4)] [.int x4] h [] (by decide +kernel) rfl trivial ?_
    exact eI hG 24 (by decide +kernel) rfl ⟨x4, rfl, rfl, ok_some (Q := P) hO⟩
  have l7 : ∀ (x3 : Int32) (x4 : Int32), Okk (M_gossip_l7 x2 x3 x4 h) P → G 7 [(0, .ref 251), (2, .int x2), (3, .int x3), (4, .int x4)] [] h := by
    intro x3 x4 hO
    obtain ⟨H7, eH7⟩ : ∃ q : (Int32 × Int32) → Prop, q = fun s => G 7 [(0, .ref 251), (2, .int x2), (3, .int (s.1)), (4, .int (s.2))] [] (h) := ⟨_, rfl⟩
    have w9 : H7 (x3, x4) := by
      refine lp_wp (f := fun s : (Int32 × Int32) => M_gossip_b7 x2 s.1 s.2 h) (H := H7) (Q := P) ?_ (x3, x4) hO
      rintro ⟨x3, x4⟩ hO
      rw [eH7]
      show G 7 [(0, .ref 251), (2, .int x2), (3, .int x3), (4, .int x4)] [] h
      have k7 : ∀ s : (Int32 × Int32), H7 s → G 7 [(0, .ref 251), (2, .int x2), (3, .int (s.1)), (4, .int (s.2))] [] (h) := fun s q => by rw [eH7] at q; exact q
      replace hO : Okk (M_gossip_b7 x2 x3 x4 h) (Sum.elim H7 P) := hO
      clear eH7
      have j69 : ∀ (x4 : Int32) (x5 : Int32), Okk (M_gossip_j69 x2 x4 x5 h) (Sum.elim H7 P) → G 69 [(0, .ref 251), (2, .int x2), (4, .int x4), (5, .int x5)] [] h := by
        intro x4 x5 hO
        unfold M_gossip_j69 at hO
        refine rbx hG 6 69 75 [.iload 5, .istore 3, .iinc 4 0] [1] [] ((x4 + (1 : Int32))) (fun y1 => [(4, .int y1), (3, .int x5), (0, .ref 251), (2, .int x2), (5, .int x5)]) (fun y1 => []) (fun y1 => h) [] (by decide +kernel) rfl trivial hO (fun y1 hO => ?_)
        refine rb hG 4 75 7 [] [] [] [(4, .int y1), (3, .int x5), (0, .ref 251), (2, .int x2), (5, .int x5)] [] h [] (by decide +kernel) rfl trivial ?_
        refine rs hG [(0, .ref 251), (2, .int x2), (3, .int x5), (4, .int y1)] [2, 3, 1, 0] rfl ?_
        exact k7 (x5, y1) (ok_some (Q := (Sum.elim H7 P)) hO)
      have l31 : ∀ (x3 : Int32) (x4 : Int32) (x5 : Int32) (x6 : Int32), Okk (M_gossip_l31 x2 x3 x4 x5 x6 h) (Sum.elim H7 P) → G 31 [(0, .ref 251), (2, .int x2), (3, .int x3), (4, .int x4), (5, .int x5), (6, .int x6)] [] h := by
        intro x3 x4 x5 x6 hO
        obtain ⟨H31, eH31⟩ : ∃ q : (Int32 × Int32) → Prop, q = fun s => G 31 [(0, .ref 251), (2, .int x2), (3, .int x3), (4, .int x4), (5, .int (s.1)), (6, .int (s.2))] [] (h) := ⟨_, rfl⟩
        have w9 : H31 (x5, x6) := by
          refine lp_wp (f := fun s : (Int32 × Int32) => M_gossip_b31 x2 x3 x4 s.1 s.2 h) (H := H31) (Q := (Sum.elim H7 P)) ?_ (x5, x6) hO
          rintro ⟨x5, x6⟩ hO
          rw [eH31]
          show G 31 [(0, .ref 251), (2, .int x2), (3, .int x3), (4, .int x4), (5, .int x5), (6, .int x6)] [] h
          have k31 : ∀ s : (Int32 × Int32), H31 s → G 31 [(0, .ref 251), (2, .int x2), (3, .int x3), (4, .int x4), (5, .int (s.1)), (6, .int (s.2))] [] (h) := fun s q => by rw [eH31] at q; exact q
          replace hO : Okk (M_gossip_b31 x2 x3 x4 x5 x6 h) (Sum.elim H31 (Sum.elim H7 P)) := hO
          clear eH31
          have j60 : ∀ (x6 : Int32) (s0 : Int32) (s1 : Int32), Okk (M_gossip_j60 x2 x3 x4 x6 s0 s1 h) (Sum.elim H31 (Sum.elim H7 P)) → G 60 [(0, .ref 251), (2, .int x2), (3, .int x3), (4, .int x4), (6, .int x6)] [.int s1, .int s0] h := by
            intro x6 s0 s1 hO
            unfold M_gossip_j60 at hO
            refine rbx hG 5 60 63 [.ior, .istore 5] [] [] ((s0 ||| s1)) (fun y2 => [(5, .int y2), (0, .ref 251), (2, .int x2), (3, .int x3), (4, .int x4), (6, .int x6)]) (fun y2 => []) (fun y2 => h) [] (by decide +kernel) rfl trivial hO (fun y2 hO => ?_)
            refine rbx hG 4 63 66 [.iinc 6 0] [1] [] ((x6 + (1 : Int32))) (fun y3 => [(6, .int y3), (5, .int y2), (0, .ref 251), (2, .int x2), (3, .int x3), (4, .int x4)]) (fun y3 => []) (fun y3 => h) [] (by decide +kernel) rfl trivial hO (fun y3 hO => ?_)
            refine rb hG 4 66 31 [] [] [] [(6, .int y3), (5, .int y2), (0, .ref 251), (2, .int x2), (3, .int x3), (4, .int x4)] [] h [] (by decide +kernel) rfl trivial ?_
            refine rs hG [(0, .ref 251), (2, .int x2), (3, .int x3), (4, .int x4), (5, .int y2), (6, .int y3)] [2, 3, 4, 5, 1, 0] rfl ?_
            exact k31 (y2, y3) (ok_some (Q := (Sum.elim H31 (Sum.elim H7 P))) hO)
          unfold M_gossip_b31 at hO
          refine rb hG 5 31 35 [.iload 6, .ldc_w 0] [8] [] [(0, .ref 251), (2, .int x2), (3, .int x3), (4, .int x4), (5, .int x5), (6, .int x6)] [.int (8 : Int32), .int x6] h [] (by decide +kernel) rfl trivial ?_
          refine rj hG .ge (34) 69 35 (by decide +kernel) (by decide) (fun c4 => ?_) (fun c4 => ?_)
          · have hO := ok_pos c4 hO
            refine rs hG [(0, .ref 251), (2, .int x2), (4, .int x4), (5, .int x5)] [0, 1, 3, 4] rfl ?_
            exact j69 x4 x5 (ok_inr hO)
          · have hO := ok_neg c4 hO
            refine rb hG 6 38 43 [.iload 5, .iload 3, .iload 6] [] [] [(0, .ref 251), (2, .int x2), (3, .int x3), (4, .int x4), (5, .int x5), (6, .int x6)] [.int x6, .int x3, .int x5] h [] (by decide +kernel) rfl trivial ?_
            refine rt hG z_M_has 103 2 43 [.int x3, .int x6] [.int x5] (by decide +kernel) mk_M_has lk_12_103 rfl ⟨rfl, Nat.le_of_ble_eq_true rfl⟩ (c_M_has (d := d) h x3 x6 (ok_bind hO)) ?_
            rintro _ _ ⟨r5, rfl, rfl, hO⟩
            refine ri hG .eq (13) 59 46 (by decide +kernel) (by decide) (fun c6 => ?_) (fun c6 => ?_)
            · have hO := ok_pos c6 hO
              refine rb hG 4 59 60 [.ldc_w 0] [0] [] [(0, .ref 251), (2, .int x2), (3, .int x3), (4, .int x4), (5, .int x5), (6, .int x6)] [.int (0 : Int32), .int x5] h [] (by decide +kernel) rfl trivial ?_
              refine rs hG [(0, .ref 251), (2, .int x2), (3, .int x3), (4, .int x4), (6, .int x6)] [0, 1, 2, 3, 5] rfl ?_
              exact j60 x6 x5 (0 : Int32) hO
            · have hO := ok_neg c6 hO
              obtain ⟨g7, hO⟩ := ok_if hO
              refine rb hG 8 49 60 [.aload 0, .invokeinterface 1237 22, .iload 6, .iaload] [] [] [(0, .ref 251), (2, .int x2), (3, .int x3), (4, .int x4), (5, .int x5), (6, .int x6)] [.int (h.1 273 (Int32.toNatClampNeg x6)), .int x5] h [kd 251 = 12, kd 273 = 20 ∧ inb x6 (ln 273)] (by decide +kernel) rfl ⟨kd_251, ⟨kd_273, g7⟩⟩ ?_
              refine rs hG [(0, .ref 251), (2, .int x2), (3, .int x3), (4, .int x4), (6, .int x6)] [0, 1, 2, 3, 5] rfl ?_
              exact j60 x6 x5 (h.1 273 (Int32.toNatClampNeg x6)) hO
        rw [eH31] at w9
        exact w9
      unfold M_gossip_b7 at hO
      refine rb hG 5 7 11 [.iload 4, .ldc_w 0] [8] [] [(0, .ref 251), (2, .int x2), (3, .int x3), (4, .int x4)] [.int (8 : Int32), .int x4] h [] (by decide +kernel) rfl trivial ?_
      refine rj hG .gt (67) 78 11 (by decide +kernel) (by decide) (fun c8 => ?_) (fun c8 => ?_)
      · have hO := ok_pos c8 hO
        refine rs hG [] [] rfl ?_
        exact j78 (ok_inr hO)
      · have hO := ok_neg c8 hO
        refine rb hG 5 14 16 [.iload 3, .iload 2] [] [] [(0, .ref 251), (2, .int x2), (3, .int x3), (4, .int x4)] [.int x2, .int x3] h [] (by decide +kernel) rfl trivial ?_
        refine rt hG z_M_has 103 2 16 [.int x3, .int x2] [] (by decide +kernel) mk_M_has lk_12_103 rfl ⟨rfl, Nat.le_of_ble_eq_true rfl⟩ (c_M_has (d := d) h x3 x2 (ok_bind hO)) ?_
        rintro _ _ ⟨r9, rfl, rfl, hO⟩
        refine ri hG .eq (6) 25 19 (by decide +kernel) (by decide) (fun c10 => ?_) (fun c10 => ?_)
        · have hO := ok_pos c10 hO
          refine rb hG 7 25 31 [.iload 3, .istore 5, .ldc_w 0, .istore 6] [0] [] [(6, .int (0 : Int32)), (5, .int x3), (0, .ref 251), (2, .int x2), (3, .int x3), (4, .int x4)] [] h [] (by decide +kernel) rfl trivial ?_
          refine rs hG [(0, .ref 251), (2, .int x2), (3, .int x3), (4, .int x4), (5, .int x3), (6, .int (0 : Int32))] [2, 3, 4, 5, 1, 0] rfl ?_
          exact l31 x3 x4 x3 (0 : Int32) hO
        · have hO := ok_neg c10 hO
          refine rs hG [(4, .int x4)] [3] rfl ?_
          exact j22 x4 (ok_inr hO)
    rw [eH7] at w9
    exact w9
  refine rbx hG 7 0 4 [.ldc_w 0, .iload 1, .ishl, .istore 3] [1] [] ((sh (1 : Int32) x1)) (fun y11 => [(3, .int y11), (0, .ref 251), (1, .int x1), (2, .int x2)]) (fun y11 => []) (fun y11 => h) [] (by decide +kernel) rfl trivial hO (fun y11 hO => ?_)
  refine rb hG 5 4 7 [.ldc_w 0, .istore 4] [0] [] [(4, .int (0 : Int32)), (3, .int y11), (0, .ref 251), (1, .int x1), (2, .int x2)] [] h [] (by decide +kernel) rfl trivial ?_
  refine rs hG [(0, .ref 251), (2, .int x2), (3, .int y11), (4, .int (0 : Int32))] [2, 4, 1, 0] rfl ?_
  exact l7 y11 (0 : Int32) hO
/-! GrainInnModel.met(IIIII)I -/
noncomputable def M_met_j39 (h : Hp) : Option (Int32 × Hp) := some ((-2 : Int32), h)
noncomputable def M_met_j66 (s0 : Int32) (h : Hp) : Option (Int32 × Hp) := some (s0, h)
noncomputable def M_met_j42 (x4 : Int32) (x5 : Int32) (h : Hp) : Option (Int32 × Hp) := if x5 = (-1 : Int32) then (if inb x4 (ln 273) then ((M_met_j66 (h.1 273 (Int32.toNatClampNeg x4)) h)) else none) else ((M_gossip h x4 x5).bind fun r3 => (M_met_j66 r3 h))
noncomputable def M_met (h : Hp) (x1 : Int32) (x2 : Int32) (x3 : Int32) (x4 : Int32) (x5 : Int32) : Option (Int32 × Hp) := bnd (wr h 251 0 (0 : Int32)) fun h4 => (M_layState h4 x1 x2 x3).bind fun (r5, h6) => if r5 = 0 then ((M_met_j39 h6)) else ((M_isGuest h6 x4).bind fun r8 => if r8 = 0 then ((M_met_j39 h6)) else (if x5 = (-1 : Int32) then ((M_met_j42 x4 x5 h6)) else ((M_isGuest h6 x5).bind fun r11 => if r11 = 0 then ((M_met_j39 h6)) else ((M_met_j42 x4 x5 h6)))))
set_option maxRecDepth 100000 in
set_option maxHeartbeats 4000000 in
theorem c_M_met {E : En} {d : Nat} (h : Hp) (x1 : Int32) (x2 : Int32) (x3 : Int32) (x4 : Int32) (x5 : Int32) {P : (Int32 × Hp) → Prop} (hO : Okk (M_met h x1 x2 x3 x4 x5) P) : Cn E (d + 9) z_M_met [.ref 251, .int x1, .int x2, .int x3, .int x4, .int x5] h (RI P) := by
  refine cn_of (on := 12) (d := d + 8) ⟨rfl, by decide +kernel, Nat.le_of_ble_eq_true rfl⟩ (fun G hG => ?_)
  unfold M_met at hO
  show G 0 [(0, .ref 251), (1, .int x1), (2, .int x2), (3, .int x3), (4, .int x4), (5, .int x5)] [] h
  have j39 : ∀ (h : Hp), Okk (M_met_j39 h) P → G 39 [] [] h := by
    intro h hO
    unfold M_met_j39 at hO
    refine rb hG 4 39 41 [.ldc_w 0] [-2] [] [] [.int (-2 : Int32)] h [] (by decide +kernel) rfl trivial ?_
    exact eI hG 41 (by decide +kernel) rfl ⟨(-2 : Int32), rfl, ok_some (Q := P) hO⟩
  have j66 : ∀ (s0 : Int32) (h : Hp), Okk (M_met_j66 s0 h) P → G 66 [] [.int s0] h := by
    intro s0 h hO
    unfold M_met_j66 at hO
    exact eI hG 66 (by decide +kernel) rfl ⟨s0, rfl, ok_some (Q := P) hO⟩
  have j42 : ∀ (h : Hp), Okk (M_met_j42 x4 x5 h) P → G 42 [(0, .ref 251), (4, .int x4), (5, .int x5)] [] h := by
    intro h hO
    unfold M_met_j42 at hO
    refine rb hG 5 42 45 [.iload 5, .ldc_w 0] [-1] [] [(0, .ref 251), (4, .int x4), (5, .int x5)] [.int (-1 : Int32), .int x5] h [] (by decide +kernel) rfl trivial ?_
    refine rjN hG (13) 58 45 (by decide +kernel) (by decide) (fun c1 => ?_) (fun c1 => ?_)
    · have hO := ok_pos c1 hO
      obtain ⟨g2, hO⟩ := ok_if hO
      refine rb hG 8 48 66 [.aload 0, .invokeinterface 1237 22, .iload 4, .iaload] [] [] [(0, .ref 251), (4, .int x4), (5, .int x5)] [.int (h.1 273 (Int32.toNatClampNeg x4))] h [kd 251 = 12, kd 273 = 20 ∧ inb x4 (ln 273)] (by decide +kernel) rfl ⟨kd_251, ⟨kd_273, g2⟩⟩ ?_
      refine rs hG [] [] rfl ?_
      exact j66 (h.1 273 (Int32.toNatClampNeg x4)) h hO
    · have hO := ok_neg c1 hO
      refine rb hG 6 58 63 [.aload 0, .iload 4, .iload 5] [] [] [(0, .ref 251), (4, .int x4), (5, .int x5)] [.int x5, .int x4, .ref 251] h [] (by decide +kernel) rfl trivial ?_
      refine rv hG z_M_gossip 507 2 63 251 [.int x4, .int x5] [] (by decide +kernel) mk_M_gossip lk_12_507 rcv_251 rfl ⟨rfl, Nat.le_of_ble_eq_true rfl⟩ (c_M_gossip (d := d + 6) h x4 x5 (ok_bind hO)) ?_
      rintro _ _ ⟨r3, rfl, rfl, hO⟩
      refine rs hG [] [] rfl ?_
      exact j66 r3 h hO
  refine rbx hG 6 0 5 [.aload 0, .ldc_w 0, .putfield 1200] [0] [] (wr h 251 0 (0 : Int32)) (fun h4 => [(0, .ref 251), (1, .int x1), (2, .int x2), (3, .int x3), (4, .int x4), (5, .int x5)]) (fun h4 => []) (fun h4 => h4) [kd 251 = 12] (by decide +kernel) rfl kd_251 hO (fun h4 hO => ?_)
  refine rb hG 7 5 9 [.aload 0, .iload 1, .iload 2, .iload 3] [] [] [(0, .ref 251), (1, .int x1), (2, .int x2), (3, .int x3), (4, .int x4), (5, .int x5)] [.int x3, .int x2, .int x1, .ref 251] h4 [] (by decide +kernel) rfl trivial ?_
  refine rv hG z_M_layState 380 3 9 251 [.int x1, .int x2, .int x3] [] (by decide +kernel) mk_M_layState lk_12_380 rcv_251 rfl ⟨rfl, Nat.le_of_ble_eq_true rfl⟩ (c_M_layState (d := d) h4 x1 x2 x3 (ok_bind hO)) ?_
  rintro _ h6 ⟨r5, rfl, hO⟩
  refine ri hG .eq (27) 39 12 (by decide +kernel) (by decide) (fun c7 => ?_) (fun c7 => ?_)
  · have hO := ok_pos c7 hO
    refine rs hG [] [] rfl ?_
    exact j39 h6 hO
  · have hO := ok_neg c7 hO
    refine rb hG 5 15 18 [.aload 0, .iload 4] [] [] [(0, .ref 251), (1, .int x1), (2, .int x2), (3, .int x3), (4, .int x4), (5, .int x5)] [.int x4, .ref 251] h6 [] (by decide +kernel) rfl trivial ?_
    refine rv hG z_M_isGuest 332 1 18 251 [.int x4] [] (by decide +kernel) mk_M_isGuest lk_12_332 rcv_251 rfl ⟨rfl, Nat.le_of_ble_eq_true rfl⟩ (c_M_isGuest (d := d + 6) h6 x4 (ok_bind hO)) ?_
    rintro _ _ ⟨r8, rfl, rfl, hO⟩
    refine ri hG .eq (18) 39 21 (by decide +kernel) (by decide) (fun c9 => ?_) (fun c9 => ?_)
    · have hO := ok_pos c9 hO
      refine rs hG [] [] rfl ?_
      exact j39 h6 hO
    · have hO := ok_neg c9 hO
      refine rb hG 5 24 27 [.iload 5, .ldc_w 0] [-1] [] [(0, .ref 251), (1, .int x1), (2, .int x2), (3, .int x3), (4, .int x4), (5, .int x5)] [.int (-1 : Int32), .int x5] h6 [] (by decide +kernel) rfl trivial ?_
      refine rj hG .eq (15) 42 27 (by decide +kernel) (by decide) (fun c10 => ?_) (fun c10 => ?_)
      · have hO := ok_pos c10 hO
        refine rs hG [(0, .ref 251), (4, .int x4), (5, .int x5)] [0, 4, 5] rfl ?_
        exact j42 h6 hO
      · have hO := ok_neg c10 hO
        refine rb hG 5 30 33 [.aload 0, .iload 5] [] [] [(0, .ref 251), (1, .int x1), (2, .int x2), (3, .int x3), (4, .int x4), (5, .int x5)] [.int x5, .ref 251] h6 [] (by decide +kernel) rfl trivial ?_
        refine rv hG z_M_isGuest 332 1 33 251 [.int x5] [] (by decide +kernel) mk_M_isGuest lk_12_332 rcv_251 rfl ⟨rfl, Nat.le_of_ble_eq_true rfl⟩ (c_M_isGuest (d := d + 6) h6 x5 (ok_bind hO)) ?_
        rintro _ _ ⟨r11, rfl, rfl, hO⟩
        refine riN hG (6) 42 36 (by decide +kernel) (by decide) (fun c12 => ?_) (fun c12 => ?_)
        · have hO := ok_pos c12 hO
          refine rs hG [] [] rfl ?_
          exact j39 h6 hO
        · have hO := ok_neg c12 hO
          refine rs hG [(0, .ref 251), (4, .int x4), (5, .int x5)] [0, 4, 5] rfl ?_
          exact j42 h6 hO
/-! GrainInn.State.pastsOf(I)I -/
noncomputable def S_pastsOf_j79 (x2 : Int32) (h : Hp) : Option Int32 := some x2
noncomputable def S_pastsOf_j73 (x1 : Int32) (x2 : Int32) (x3 : Int32) (h : Hp) : Option ((Int32 × Int32) ⊕ Int32) := bnd ((x3 + (1 : Int32))) fun y1 => some (.inl (x2, y1))
noncomputable def S_pastsOf_j65 (x1 : Int32) (x3 : Int32) (x4 : Int32) (s0 : Int32) (s1 : Int32) (h : Hp) : Option ((Int32 × Int32) ⊕ ((Int32 × Int32) ⊕ Int32)) := bnd ((s0 + s1)) fun y2 => bnd ((x4 + (1 : Int32))) fun y3 => some (.inl (y2, y3))
noncomputable def S_pastsOf_b27 (x1 : Int32) (x2 : Int32) (x3 : Int32) (x4 : Int32) (h : Hp) : Option ((Int32 × Int32) ⊕ ((Int32 × Int32) ⊕ Int32)) := if inb x3 (ln 58) then (if kd (el 58 (Int32.toNatClampNeg x3)) = 0 then (if (h.1 (el 58 (Int32.toNatClampNeg x3)) 3) ≤ x4 then (((S_pastsOf_j73 x1 x2 x3 h).map Sum.inr)) else (if inb x3 (ln 58) then ((B_guestsOf h (el 58 (Int32.toNatClampNeg x3)) x4).bind fun r8 => (K_isIn r8 x1).bind fun r9 => if r9 = 0 then ((S_pastsOf_j65 x1 x3 x4 x2 (0 : Int32) h)) else ((S_pastsOf_j65 x1 x3 x4 x2 (1 : Int32) h))) else none)) else none) else none
noncomputable def S_pastsOf_l27 (x1 : Int32) (x2 : Int32) (x3 : Int32) (x4 : Int32) (h : Hp) : Option ((Int32 × Int32) ⊕ Int32) := lp (fun s : (Int32 × Int32) => S_pastsOf_b27 x1 s.1 x3 s.2 h) (x2, x4)
theorem S_pastsOf_l27_eq (x1 : Int32) (x2 : Int32) (x3 : Int32) (x4 : Int32) (h : Hp) : S_pastsOf_l27 x1 x2 x3 x4 h = (S_pastsOf_b27 x1 x2 x3 x4 h).bind (Sum.elim (fun q : (Int32 × Int32) => S_pastsOf_l27 x1 q.1 x3 q.2 h) some) := lp_eq _ _
noncomputable def S_pastsOf_b4 (x1 : Int32) (x2 : Int32) (x3 : Int32) (h : Hp) : Option ((Int32 × Int32) ⊕ Int32) := if kd (Int32.toNatClampNeg (h.1 57 6)) = 1 then (if (h.1 (Int32.toNatClampNeg (h.1 57 6)) 5) ≤ x3 then (((S_pastsOf_j79 x2 h).map Sum.inr)) else (if (Int32.ofNat (ln 58)) ≤ x3 then (((S_pastsOf_j79 x2 h).map Sum.inr)) else ((S_pastsOf_l27 x1 x2 x3 (0 : Int32) h)))) else none
noncomputable def S_pastsOf_l4 (x1 : Int32) (x2 : Int32) (x3 : Int32) (h : Hp) : Option Int32 := lp (fun s : (Int32 × Int32) => S_pastsOf_b4 x1 s.1 s.2 h) (x2, x3)
theorem S_pastsOf_l4_eq (x1 : Int32) (x2 : Int32) (x3 : Int32) (h : Hp) : S_pastsOf_l4 x1 x2 x3 h = (S_pastsOf_b4 x1 x2 x3 h).bind (Sum.elim (fun q : (Int32 × Int32) => S_pastsOf_l4 x1 q.1 q.2 h) some) := lp_eq _ _
noncomputable def S_pastsOf (h : Hp) (x1 : Int32) : Option Int32 := (S_pastsOf_l4 x1 (0 : Int32) (0 : Int32) h)
set_option maxRecDepth 100000 in
set_option maxHeartbeats 4000000 in
theorem c_S_pastsOf {E : En} {d : Nat} (h : Hp) (x1 : Int32) {P : Int32 → Prop} (hO : Okk (S_pastsOf h x1) P) : Cn E (d + 2) z_S_pastsOf [.ref 57, .int x1] h (RIp h P) := by
  refine cn_of (on := 7) (d := d + 1) ⟨rfl, by decide +kernel, Nat.le_of_ble_eq_true rfl⟩ (fun G hG => ?_)
  unfold S_pastsOf at hO
  show G 0 [(0, .ref 57), (1, .int x1)] [] h
  have j79 : ∀ (x2 : Int32), Okk (S_pastsOf_j79 x2 h) P → G 79 [(2, .int x2)] [] h := by
    intro x2 hO
    unfold S_pastsOf_j79 at hO
    refine rb hG 4 79 80 [.iload 2] [] [] [(2, .int x2)] [.int x2] h [] (by decide +kernel) rfl trivial ?_
    exact eI hG 80 (by decide +kernel) rfl ⟨x2, rfl, rfl, ok_some (Q := P) hO⟩
  have l4 : ∀ (x2 : Int32) (x3 : Int32), Okk (S_pastsOf_l4 x1 x2 x3 h) P → G 4 [(0, .ref 57), (1, .int x1), (2, .int x2), (3, .int x3)] [] h := by
    intro x2 x3 hO
    obtain ⟨H4, eH4⟩ : ∃ q : (Int32 × Int32) → Prop, q = fun s => G 4 [(0, .ref 57), (1, .int x1), (2, .int (s.1)), (3, .int (s.2))] [] (h) := ⟨_, rfl⟩
    have w9 : H4 (x2, x3) := by
      refine lp_wp (f := fun s : (Int32 × Int32) => S_pastsOf_b4 x1 s.1 s.2 h) (H := H4) (Q := P) ?_ (x2, x3) hO
      rintro ⟨x2, x3⟩ hO
      rw [eH4]
      show G 4 [(0, .ref 57), (1, .int x1), (2, .int x2), (3, .int x3)] [] h
      have k4 : ∀ s : (Int32 × Int32), H4 s → G 4 [(0, .ref 57), (1, .int x1), (2, .int (s.1)), (3, .int (s.2))] [] (h) := fun s q => by rw [eH4] at q; exact q
      replace hO : Okk (S_pastsOf_b4 x1 x2 x3 h) (Sum.elim H4 P) := hO
      clear eH4
      have j73 : ∀ (x2 : Int32) (x3 : Int32), Okk (S_pastsOf_j73 x1 x2 x3 h) (Sum.elim H4 P) → G 73 [(0, .ref 57), (1, .int x1), (2, .int x2), (3, .int x3)] [] h := by
        intro x2 x3 hO
        unfold S_pastsOf_j73 at hO
        refine rbx hG 4 73 76 [.iinc 3 0] [1] [] ((x3 + (1 : Int32))) (fun y1 => [(3, .int y1), (0, .ref 57), (1, .int x1), (2, .int x2)]) (fun y1 => []) (fun y1 => h) [] (by decide +kernel) rfl trivial hO (fun y1 hO => ?_)
        refine rb hG 4 76 4 [] [] [] [(3, .int y1), (0, .ref 57), (1, .int x1), (2, .int x2)] [] h [] (by decide +kernel) rfl trivial ?_
        refine rs hG [(0, .ref 57), (1, .int x1), (2, .int x2), (3, .int y1)] [1, 2, 3, 0] rfl ?_
        exact k4 (x2, y1) (ok_some (Q := (Sum.elim H4 P)) hO)
      have l27 : ∀ (x2 : Int32) (x3 : Int32) (x4 : Int32), Okk (S_pastsOf_l27 x1 x2 x3 x4 h) (Sum.elim H4 P) → G 27 [(0, .ref 57), (1, .int x1), (2, .int x2), (3, .int x3), (4, .int x4)] [] h := by
        intro x2 x3 x4 hO
        obtain ⟨H27, eH27⟩ : ∃ q : (Int32 × Int32) → Prop, q = fun s => G 27 [(0, .ref 57), (1, .int x1), (2, .int (s.1)), (3, .int x3), (4, .int (s.2))] [] (h) := ⟨_, rfl⟩
        have w9 : H27 (x2, x4) := by
          refine lp_wp (f := fun s : (Int32 × Int32) => S_pastsOf_b27 x1 s.1 x3 s.2 h) (H := H27) (Q := (Sum.elim H4 P)) ?_ (x2, x4) hO
          rintro ⟨x2, x4⟩ hO
          rw [eH27]
          show G 27 [(0, .ref 57), (1, .int x1), (2, .int x2), (3, .int x3), (4, .int x4)] [] h
          have k27 : ∀ s : (Int32 × Int32), H27 s → G 27 [(0, .ref 57), (1, .int x1), (2, .int (s.1)), (3, .int x3), (4, .int (s.2))] [] (h) := fun s q => by rw [eH27] at q; exact q
          replace hO : Okk (S_pastsOf_b27 x1 x2 x3 x4 h) (Sum.elim H27 (Sum.elim H4 P)) := hO
          clear eH27
          have j65 : ∀ (x4 : Int32) (s0 : Int32) (s1 : Int32), Okk (S_pastsOf_j65 x1 x3 x4 s0 s1 h) (Sum.elim H27 (Sum.elim H4 P)) → G 65 [(0, .ref 57), (1, .int x1), (3, .int x3), (4, .int x4)] [.int s1, .int s0] h := by
            intro x4 s0 s1 hO
            unfold S_pastsOf_j65 at hO
            refine rbx hG 5 65 67 [.iadd, .istore 2] [] [] ((s0 + s1)) (fun y2 => [(2, .int y2), (0, .ref 57), (1, .int x1), (3, .int x3), (4, .int x4)]) (fun y2 => []) (fun y2 => h) [] (by decide +kernel) rfl trivial hO (fun y2 hO => ?_)
            refine rbx hG 4 67 70 [.iinc 4 0] [1] [] ((x4 + (1 : Int32))) (fun y3 => [(4, .int y3), (2, .int y2), (0, .ref 57), (1, .int x1), (3, .int x3)]) (fun y3 => []) (fun y3 => h) [] (by decide +kernel) rfl trivial hO (fun y3 hO => ?_)
            refine rb hG 4 70 27 [] [] [] [(4, .int y3), (2, .int y2), (0, .ref 57), (1, .int x1), (3, .int x3)] [] h [] (by decide +kernel) rfl trivial ?_
            refine rs hG [(0, .ref 57), (1, .int x1), (2, .int y2), (3, .int x3), (4, .int y3)] [2, 3, 1, 4, 0] rfl ?_
            exact k27 (y2, y3) (ok_some (Q := (Sum.elim H27 (Sum.elim H4 P))) hO)
          unfold S_pastsOf_b27 at hO
          obtain ⟨g4, hO⟩ := ok_if hO
          obtain ⟨g5, hO⟩ := ok_if hO
          refine rb hG 9 27 38 [.iload 4, .aload 0, .invokeinterface 700 1, .iload 3, .aaload, .getfield 3] [] [] [(0, .ref 57), (1, .int x1), (2, .int x2), (3, .int x3), (4, .int x4)] [.int (h.1 (el 58 (Int32.toNatClampNeg x3)) 3), .int x4] h [kd 57 = 7, (kd 58 = 23 ∨ kd 58 = 24 ∨ kd 58 = 25 ∨ kd 58 = 26) ∧ inb x3 (ln 58), kd (el 58 (Int32.toNatClampNeg x3)) = 0] (by decide +kernel) rfl ⟨kd_57, ⟨Or.inr (Or.inr (Or.inl kd_58)), g4⟩, g5⟩ ?_
          refine rj hG .ge (35) 73 38 (by decide +kernel) (by decide) (fun c6 => ?_) (fun c6 => ?_)
          · have hO := ok_pos c6 hO
            refine rs hG [(0, .ref 57), (1, .int x1), (2, .int x2), (3, .int x3)] [0, 1, 2, 3] rfl ?_
            exact j73 x2 x3 (ok_inr hO)
          · have hO := ok_neg c6 hO
            obtain ⟨g7, hO⟩ := ok_if hO
            refine rb hG 9 41 50 [.iload 2, .aload 0, .invokeinterface 700 1, .iload 3, .aaload, .iload 4] [] [] [(0, .ref 57), (1, .int x1), (2, .int x2), (3, .int x3), (4, .int x4)] [.int x4, .ref (el 58 (Int32.toNatClampNeg x3)), .int x2] h [kd 57 = 7, (kd 58 = 23 ∨ kd 58 = 24 ∨ kd 58 = 25 ∨ kd 58 = 26) ∧ inb x3 (ln 58)] (by decide +kernel) rfl ⟨kd_57, ⟨Or.inr (Or.inr (Or.inl kd_58)), g7⟩⟩ ?_
            refine rv hG z_B_guestsOf 129 1 50 (el 58 (Int32.toNatClampNeg x3)) [.int x4] [.int x2] (by decide +kernel) mk_B_guestsOf lk_7_129 (rcv_B g5) rfl ⟨rfl, Nat.le_of_ble_eq_true rfl⟩ (c_B_guestsOf (d := d) h (el 58 (Int32.toNatClampNeg x3)) x4 (ok_bind hO)) ?_
            rintro _ _ ⟨r8, rfl, rfl, hO⟩
            refine rb hG 4 53 54 [.iload 1] [] [] [(0, .ref 57), (1, .int x1), (2, .int x2), (3, .int x3), (4, .int x4)] [.int x1, .int r8, .int x2] h [] (by decide +kernel) rfl trivial ?_
            refine rt hG z_K_isIn 73 2 54 [.int r8, .int x1] [.int x2] (by decide +kernel) mk_K_isIn lk_7_73 rfl ⟨rfl, Nat.le_of_ble_eq_true rfl⟩ (c_K_isIn (d := d) h r8 x1 (ok_bind hO)) ?_
            rintro _ _ ⟨r9, rfl, rfl, hO⟩
            refine ri hG .eq (7) 64 57 (by decide +kernel) (by decide) (fun c10 => ?_) (fun c10 => ?_)
            · have hO := ok_pos c10 hO
              refine rb hG 4 64 65 [.ldc_w 0] [0] [] [(0, .ref 57), (1, .int x1), (2, .int x2), (3, .int x3), (4, .int x4)] [.int (0 : Int32), .int x2] h [] (by decide +kernel) rfl trivial ?_
              refine rs hG [(0, .ref 57), (1, .int x1), (3, .int x3), (4, .int x4)] [0, 1, 3, 4] rfl ?_
              exact j65 x4 x2 (0 : Int32) hO
            · have hO := ok_neg c10 hO
              refine rb hG 5 60 65 [.ldc_w 0] [1] [] [(0, .ref 57), (1, .int x1), (2, .int x2), (3, .int x3), (4, .int x4)] [.int (1 : Int32), .int x2] h [] (by decide +kernel) rfl trivial ?_
              refine rs hG [(0, .ref 57), (1, .int x1), (3, .int x3), (4, .int x4)] [0, 1, 3, 4] rfl ?_
              exact j65 x4 x2 (1 : Int32) hO
        rw [eH27] at w9
        exact w9
      unfold S_pastsOf_b4 at hO
      obtain ⟨g11, hO⟩ := ok_if hO
      refine rb hG 7 4 12 [.iload 3, .aload 0, .instanceof 706, .getfield 105] [] [] [(0, .ref 57), (1, .int x1), (2, .int x2), (3, .int x3)] [.int (h.1 (Int32.toNatClampNeg (h.1 57 6)) 5), .int x3] h [kd 57 = 7, kd (Int32.toNatClampNeg (h.1 57 6)) = 1] (by decide +kernel) rfl ⟨kd_57, g11⟩ ?_
      refine rj hG .ge (67) 79 12 (by decide +kernel) (by decide) (fun c12 => ?_) (fun c12 => ?_)
      · have hO := ok_pos c12 hO
        refine rs hG [(2, .int x2)] [2] rfl ?_
        exact j79 x2 (ok_inr hO)
      · have hO := ok_neg c12 hO
        refine rb hG 7 15 21 [.iload 3, .aload 0, .invokeinterface 700 1, .arraylength] [] [] [(0, .ref 57), (1, .int x1), (2, .int x2), (3, .int x3)] [.int (Int32.ofNat (ln 58)), .int x3] h [kd 57 = 7, 20 ≤ kd 58 ∧ kd 58 < 27] (by decide +kernel) rfl ⟨kd_57, (show 20 ≤ kd 58 ∧ kd 58 < 27 by decide +kernel)⟩ ?_
        refine rj hG .ge (58) 79 21 (by decide +kernel) (by decide) (fun c13 => ?_) (fun c13 => ?_)
        · have hO := ok_pos c13 hO
          refine rs hG [(2, .int x2)] [2] rfl ?_
          exact j79 x2 (ok_inr hO)
        · have hO := ok_neg c13 hO
          refine rb hG 5 24 27 [.ldc_w 0, .istore 4] [0] [] [(4, .int (0 : Int32)), (0, .ref 57), (1, .int x1), (2, .int x2), (3, .int x3)] [] h [] (by decide +kernel) rfl trivial ?_
          refine rs hG [(0, .ref 57), (1, .int x1), (2, .int x2), (3, .int x3), (4, .int (0 : Int32))] [1, 2, 3, 4, 0] rfl ?_
          exact l27 x2 x3 (0 : Int32) hO
    rw [eH4] at w9
    exact w9
  refine rb hG 7 0 4 [.ldc_w 0, .istore 2, .ldc_w 0, .istore 3] [0] [] [(3, .int (0 : Int32)), (2, .int (0 : Int32)), (0, .ref 57), (1, .int x1)] [] h [] (by decide +kernel) rfl trivial ?_
  refine rs hG [(0, .ref 57), (1, .int x1), (2, .int (0 : Int32)), (3, .int (0 : Int32))] [2, 3, 1, 0] rfl ?_
  exact l4 (0 : Int32) (0 : Int32) hO
/-! GrainInn.State.mostSeen()I -/
noncomputable def S_mostSeen_j41 (x1 : Int32) (h : Hp) : Option Int32 := some x1
noncomputable def S_mostSeen_j35 (x1 : Int32) (x2 : Int32) (x3 : Int32) (h : Hp) : Option ((Int32 × Int32 × Int32) ⊕ Int32) := bnd ((x3 + (1 : Int32))) fun y1 => some (.inl (x1, x2, y1))
noncomputable def S_mostSeen_b6 (x1 : Int32) (x2 : Int32) (x3 : Int32) (h : Hp) : Option ((Int32 × Int32 × Int32) ⊕ Int32) := if kd (Int32.toNatClampNeg (h.1 57 6)) = 1 then (if (h.1 (Int32.toNatClampNeg (h.1 57 6)) 6) ≤ x3 then (((S_mostSeen_j41 x1 h).map Sum.inr)) else ((S_pastsOf h x3).bind fun r4 => if r4 ≤ x2 then ((S_mostSeen_j35 x1 x2 x3 h)) else ((S_mostSeen_j35 x3 r4 x3 h)))) else none
noncomputable def S_mostSeen_l6 (x1 : Int32) (x2 : Int32) (x3 : Int32) (h : Hp) : Option Int32 := lp (fun s : (Int32 × Int32 × Int32) => S_mostSeen_b6 s.1 s.2.1 s.2.2 h) (x1, x2, x3)
theorem S_mostSeen_l6_eq (x1 : Int32) (x2 : Int32) (x3 : Int32) (h : Hp) : S_mostSeen_l6 x1 x2 x3 h = (S_mostSeen_b6 x1 x2 x3 h).bind (Sum.elim (fun q : (Int32 × Int32 × Int32) => S_mostSeen_l6 q.1 q.2.1 q.2.2 h) some) := lp_eq _ _
noncomputable def S_mostSeen (h : Hp) : Option Int32 := (S_mostSeen_l6 (-1 : Int32) (0 : Int32) (0 : Int32) h)
set_option maxRecDepth 100000 in
set_option maxHeartbeats 4000000 in
theorem c_S_mostSeen {E : En} {d : Nat} (h : Hp) {P : Int32 → Prop} (hO : Okk (S_mostSeen h) P) : Cn E (d + 3) z_S_mostSeen [.ref 57] h (RIp h P) := by
  refine cn_of (on := 7) (d := d + 2) ⟨rfl, by decide +kernel, Nat.le_of_ble_eq_true rfl⟩ (fun G hG => ?_)
  unfold S_mostSeen at hO
  show G 0 [(0, .ref 57)] [] h
  have j41 : ∀ (x1 : Int32), Okk (S_mostSeen_j41 x1 h) P → G 41 [(1, .int x1)] [] h := by
    intro x1 hO
    unfold S_mostSeen_j41 at hO
    refine rb hG 4 41 42 [.iload 1] [] [] [(1, .int x1)] [.int x1] h [] (by decide +kernel) rfl trivial ?_
    exact eI hG 42 (by decide +kernel) rfl ⟨x1, rfl, rfl, ok_some (Q := P) hO⟩
  have l6 : ∀ (x1 : Int32) (x2 : Int32) (x3 : Int32), Okk (S_mostSeen_l6 x1 x2 x3 h) P → G 6 [(0, .ref 57), (1, .int x1), (2, .int x2), (3, .int x3)] [] h := by
    intro x1 x2 x3 hO
    obtain ⟨H6, eH6⟩ : ∃ q : (Int32 × Int32 × Int32) → Prop, q = fun s => G 6 [(0, .ref 57), (1, .int (s.1)), (2, .int (s.2.1)), (3, .int (s.2.2))] [] (h) := ⟨_, rfl⟩
    have w9 : H6 (x1, x2, x3) := by
      refine lp_wp (f := fun s : (Int32 × Int32 × Int32) => S_mostSeen_b6 s.1 s.2.1 s.2.2 h) (H := H6) (Q := P) ?_ (x1, x2, x3) hO
      rintro ⟨x1, x2, x3⟩ hO
      rw [eH6]
      show G 6 [(0, .ref 57), (1, .int x1), (2, .int x2), (3, .int x3)] [] h
      have k6 : ∀ s : (Int32 × Int32 × Int32), H6 s → G 6 [(0, .ref 57), (1, .int (s.1)), (2, .int (s.2.1)), (3, .int (s.2.2))] [] (h) := fun s q => by rw [eH6] at q; exact q
      replace hO : Okk (S_mostSeen_b6 x1 x2 x3 h) (Sum.elim H6 P) := hO
      clear eH6
      have j35 : ∀ (x1 : Int32) (x2 : Int32) (x3 : Int32), Okk (S_mostSeen_j35 x1 x2 x3 h) (Sum.elim H6 P) → G 35 [(0, .ref 57), (1, .int x1), (2, .int x2), (3, .int x3)] [] h := by
        intro x1 x2 x3 hO
        unfold S_mostSeen_j35 at hO
        refine rbx hG 4 35 38 [.iinc 3 0] [1] [] ((x3 + (1 : Int32))) (fun y1 => [(3, .int y1), (0, .ref 57), (1, .int x1), (2, .int x2)]) (fun y1 => []) (fun y1 => h) [] (by decide +kernel) rfl trivial hO (fun y1 hO => ?_)
        refine rb hG 4 38 6 [] [] [] [(3, .int y1), (0, .ref 57), (1, .int x1), (2, .int x2)] [] h [] (by decide +kernel) rfl trivial ?_
        refine rs hG [(0, .ref 57), (1, .int x1), (2, .int x2), (3, .int y1)] [1, 2, 3, 0] rfl ?_
        exact k6 (x1, x2, y1) (ok_some (Q := (Sum.elim H6 P)) hO)
      unfold S_mostSeen_b6 at hO
      obtain ⟨g2, hO⟩ := ok_if hO
      refine rb hG 7 6 14 [.iload 3, .aload 0, .instanceof 706, .getfield 106] [] [] [(0, .ref 57), (1, .int x1), (2, .int x2), (3, .int x3)] [.int (h.1 (Int32.toNatClampNeg (h.1 57 6)) 6), .int x3] h [kd 57 = 7, kd (Int32.toNatClampNeg (h.1 57 6)) = 1] (by decide +kernel) rfl ⟨kd_57, g2⟩ ?_
      refine rj hG .ge (27) 41 14 (by decide +kernel) (by decide) (fun c3 => ?_) (fun c3 => ?_)
      · have hO := ok_pos c3 hO
        refine rs hG [(1, .int x1)] [1] rfl ?_
        exact j41 x1 (ok_inr hO)
      · have hO := ok_neg c3 hO
        refine rb hG 5 17 19 [.aload 0, .iload 3] [] [] [(0, .ref 57), (1, .int x1), (2, .int x2), (3, .int x3)] [.int x3, .ref 57] h [] (by decide +kernel) rfl trivial ?_
        refine rv hG z_S_pastsOf 216 1 19 57 [.int x3] [] (by decide +kernel) mk_S_pastsOf lk_7_216 rcv_57 rfl ⟨rfl, Nat.le_of_ble_eq_true rfl⟩ (c_S_pastsOf (d := d) h x3 (ok_bind hO)) ?_
        rintro _ _ ⟨r4, rfl, rfl, hO⟩
        refine rb hG 6 22 27 [.istore 4, .iload 4, .iload 2] [] [] [(4, .int r4), (0, .ref 57), (1, .int x1), (2, .int x2), (3, .int x3)] [.int x2, .int r4] h [] (by decide +kernel) rfl trivial ?_
        refine rj hG .le (8) 35 27 (by decide +kernel) (by decide) (fun c5 => ?_) (fun c5 => ?_)
        · have hO := ok_pos c5 hO
          refine rs hG [(0, .ref 57), (1, .int x1), (2, .int x2), (3, .int x3)] [1, 2, 3, 4] rfl ?_
          exact j35 x1 x2 x3 hO
        · have hO := ok_neg c5 hO
          refine rb hG 7 30 35 [.iload 4, .istore 2, .iload 3, .istore 1] [] [] [(1, .int x3), (2, .int r4), (4, .int r4), (0, .ref 57), (3, .int x3)] [] h [] (by decide +kernel) rfl trivial ?_
          refine rs hG [(0, .ref 57), (1, .int x3), (2, .int r4), (3, .int x3)] [3, 0, 1, 4] rfl ?_
          exact j35 x3 r4 x3 hO
    rw [eH6] at w9
    exact w9
  refine rb hG 9 0 6 [.ldc_w 0, .istore 1, .ldc_w 1, .istore 2, .ldc_w 1, .istore 3] [-1, 0] [] [(3, .int (0 : Int32)), (2, .int (0 : Int32)), (1, .int (-1 : Int32)), (0, .ref 57)] [] h [] (by decide +kernel) rfl trivial ?_
  refine rs hG [(0, .ref 57), (1, .int (-1 : Int32)), (2, .int (0 : Int32)), (3, .int (0 : Int32))] [3, 2, 1, 0] rfl ?_
  exact l6 (-1 : Int32) (0 : Int32) (0 : Int32) hO
/-! GrainInn.Bench.allGuests()I -/
noncomputable def B_allGuests_j27 (x0 : Nat) (x1 : Int32) (h : Hp) : Option Int32 := some x1
noncomputable def B_allGuests_b4 (x0 : Nat) (x1 : Int32) (x2 : Int32) (h : Hp) : Option ((Int32 × Int32) ⊕ Int32) := if (h.1 x0 3) ≤ x2 then (((B_allGuests_j27 x0 x1 h).map Sum.inr)) else (if kd (x0 + 1) = 20 ∧ inb x2 (ln (x0 + 1)) then (bnd ((x1 ||| (h.1 (x0 + 1) (Int32.toNatClampNeg x2)))) fun y3 => bnd ((x2 + (1 : Int32))) fun y4 => some (.inl (y3, y4))) else none)
noncomputable def B_allGuests_l4 (x0 : Nat) (x1 : Int32) (x2 : Int32) (h : Hp) : Option Int32 := lp (fun s : (Int32 × Int32) => B_allGuests_b4 x0 s.1 s.2 h) (x1, x2)
theorem B_allGuests_l4_eq (x0 : Nat) (x1 : Int32) (x2 : Int32) (h : Hp) : B_allGuests_l4 x0 x1 x2 h = (B_allGuests_b4 x0 x1 x2 h).bind (Sum.elim (fun q : (Int32 × Int32) => B_allGuests_l4 x0 q.1 q.2 h) some) := lp_eq _ _
noncomputable def B_allGuests (h : Hp) (x0 : Nat) : Option Int32 := if kd x0 = 0 then ((B_allGuests_l4 x0 (0 : Int32) (0 : Int32) h)) else none
set_option maxRecDepth 100000 in
set_option maxHeartbeats 4000000 in
theorem c_B_allGuests {E : En} {d : Nat} (h : Hp) (x0 : Nat) {P : Int32 → Prop} (hO : Okk (B_allGuests h x0) P) : Cn E (d + 1) z_B_allGuests [.ref x0] h (RIp h P) := by
  refine cn_of (on := 0) (d := d + 0) ⟨rfl, by decide +kernel, Nat.le_of_ble_eq_true rfl⟩ (fun G hG => ?_)
  unfold B_allGuests at hO
  show G 0 [(0, .ref x0)] [] h
  obtain ⟨g0, hO⟩ := ok_if hO
  have j27 : ∀ (x1 : Int32), Okk (B_allGuests_j27 x0 x1 h) P → G 27 [(1, .int x1)] [] h := by
    intro x1 hO
    unfold B_allGuests_j27 at hO
    refine rb hG 4 27 28 [.iload 1] [] [] [(1, .int x1)] [.int x1] h [] (by decide +kernel) rfl trivial ?_
    exact eI hG 28 (by decide +kernel) rfl ⟨x1, rfl, rfl, ok_some (Q := P) hO⟩
  have l4 : ∀ (x1 : Int32) (x2 : Int32), Okk (B_allGuests_l4 x0 x1 x2 h) P → G 4 [(0, .ref x0), (1, .int x1), (2, .int x2)] [] h := by
    intro x1 x2 hO
    obtain ⟨H4, eH4⟩ : ∃ q : (Int32 × Int32) → Prop, q = fun s => G 4 [(0, .ref x0), (1, .int (s.1)), (2, .int (s.2))] [] (h) := ⟨_, rfl⟩
    have w9 : H4 (x1, x2) := by
      refine lp_wp (f := fun s : (Int32 × Int32) => B_allGuests_b4 x0 s.1 s.2 h) (H := H4) (Q := P) ?_ (x1, x2) hO
      rintro ⟨x1, x2⟩ hO
      rw [eH4]
      show G 4 [(0, .ref x0), (1, .int x1), (2, .int x2)] [] h
      have k4 : ∀ s : (Int32 × Int32), H4 s → G 4 [(0, .ref x0), (1, .int (s.1)), (2, .int (s.2))] [] (h) := fun s q => by rw [eH4] at q; exact q
      replace hO : Okk (B_allGuests_b4 x0 x1 x2 h) (Sum.elim H4 P) := hO
      clear eH4
      unfold B_allGuests_b4 at hO
      refine rb hG 6 4 9 [.iload 2, .aload 0, .getfield 3] [] [] [(0, .ref x0), (1, .int x1), (2, .int x2)] [.int (h.1 x0 3), .int x2] h [kd x0 = 0] (by decide +kernel) rfl g0 ?_
      refine rj hG .ge (18) 27 9 (by decide +kernel) (by decide) (fun c1 => ?_) (fun c1 => ?_)
      · have hO := ok_pos c1 hO
        refine rs hG [(1, .int x1)] [1] rfl ?_
        exact j27 x1 (ok_inr hO)
      · have hO := ok_neg c1 hO
        obtain ⟨g2, hO⟩ := ok_if hO
        refine rbx hG 10 12 21 [.iload 1, .aload 0, .invokeinterface 0 1, .iload 2, .iaload, .ior, .istore 1] [] [] ((x1 ||| (h.1 (x0 + 1) (Int32.toNatClampNeg x2)))) (fun y3 => [(1, .int y3), (0, .ref x0), (2, .int x2)]) (fun y3 => []) (fun y3 => h) [kd x0 = 0, kd (x0 + 1) = 20 ∧ inb x2 (ln (x0 + 1))] (by decide +kernel) rfl ⟨g0, g2⟩ hO (fun y3 hO => ?_)
        refine rbx hG 4 21 24 [.iinc 2 0] [1] [] ((x2 + (1 : Int32))) (fun y4 => [(2, .int y4), (1, .int y3), (0, .ref x0)]) (fun y4 => []) (fun y4 => h) [] (by decide +kernel) rfl trivial hO (fun y4 hO => ?_)
        refine rb hG 4 24 4 [] [] [] [(2, .int y4), (1, .int y3), (0, .ref x0)] [] h [] (by decide +kernel) rfl trivial ?_
        refine rs hG [(0, .ref x0), (1, .int y3), (2, .int y4)] [2, 1, 0] rfl ?_
        exact k4 (y3, y4) (ok_some (Q := (Sum.elim H4 P)) hO)
    rw [eH4] at w9
    exact w9
  refine rb hG 7 0 4 [.ldc_w 0, .istore 1, .ldc_w 0, .istore 2] [0] [] [(2, .int (0 : Int32)), (1, .int (0 : Int32)), (0, .ref x0)] [] h [] (by decide +kernel) rfl trivial ?_
  refine rs hG [(0, .ref x0), (1, .int (0 : Int32)), (2, .int (0 : Int32))] [2, 1, 0] rfl ?_
  exact l4 (0 : Int32) (0 : Int32) hO
/-! GrainInn.State.crowdAt(I)I -/
noncomputable def S_crowdAt_j21 (s0 : Int32) (h : Hp) : Option Int32 := some s0
noncomputable def S_crowdAt (h : Hp) (x1 : Int32) : Option Int32 := (S_benchAt h x1).bind fun r1 => if r1 = 0 then ((S_crowdAt_j21 (0 : Int32) h)) else (if kd r1 = 0 then ((B_allGuests h r1).bind fun r4 => (J_bitCount r4).bind fun r5 => (S_crowdAt_j21 r5 h)) else none)
set_option maxRecDepth 100000 in
set_option maxHeartbeats 4000000 in
theorem c_S_crowdAt {E : En} {d : Nat} (h : Hp) (x1 : Int32) {P : Int32 → Prop} (hO : Okk (S_crowdAt h x1) P) : Cn E (d + 3) z_S_crowdAt [.ref 57, .int x1] h (RIp h P) := by
  refine cn_of (on := 7) (d := d + 2) ⟨rfl, by decide +kernel, Nat.le_of_ble_eq_true rfl⟩ (fun G hG => ?_)
  unfold S_crowdAt at hO
  show G 0 [(0, .ref 57), (1, .int x1)] [] h
  have j21 : ∀ (s0 : Int32), Okk (S_crowdAt_j21 s0 h) P → G 21 [] [.int s0] h := by
    intro s0 hO
    unfold S_crowdAt_j21 at hO
    exact eI hG 21 (by decide +kernel) rfl ⟨s0, rfl, rfl, ok_some (Q := P) hO⟩
  refine rb hG 5 0 2 [.aload 0, .iload 1] [] [] [(0, .ref 57), (1, .int x1)] [.int x1, .ref 57] h [] (by decide +kernel) rfl trivial ?_
  refine rv hG z_S_benchAt 107 1 2 57 [.int x1] [] (by decide +kernel) mk_S_benchAt lk_7_107 rcv_57 rfl ⟨rfl, Nat.le_of_ble_eq_true rfl⟩ (c_S_benchAt (d := d) h x1 (ok_bind hO)) ?_
  rintro _ _ ⟨r1, rfl, rfl, hO⟩
  refine rb hG 5 5 7 [.astore 2, .aload 2] [] [] [(2, .ref r1), (0, .ref 57), (1, .int x1)] [.ref r1] h [] (by decide +kernel) rfl trivial ?_
  refine rnn hG (7) 14 7 (by decide +kernel) (by decide) (fun c2 => ?_) (fun c2 => ?_)
  · have hO := ok_pos c2 hO
    refine rb hG 5 10 21 [.ldc_w 0] [0] [] [(2, .ref r1), (0, .ref 57), (1, .int x1)] [.int (0 : Int32)] h [] (by decide +kernel) rfl trivial ?_
    refine rs hG [] [] rfl ?_
    exact j21 (0 : Int32) hO
  · have hO := ok_neg c2 hO
    obtain ⟨g3, hO⟩ := ok_if hO
    refine rb hG 4 14 15 [.aload 2] [] [] [(2, .ref r1), (0, .ref 57), (1, .int x1)] [.ref r1] h [] (by decide +kernel) rfl trivial ?_
    refine rv hG z_B_allGuests 219 0 15 r1 [] [] (by decide +kernel) mk_B_allGuests lk_7_219 (rcv_B g3) rfl ⟨rfl, Nat.le_of_ble_eq_true rfl⟩ (c_B_allGuests (d := d + 1) h r1 (ok_bind hO)) ?_
    rintro _ _ ⟨r4, rfl, rfl, hO⟩
    refine rt hG z_J_bitCount 118 1 18 [.int r4] [] (by decide +kernel) mk_J_bitCount lk_7_118 rfl ⟨rfl, Nat.le_of_ble_eq_true rfl⟩ (c_J_bitCount (d := d + 1) h r4 (ok_bind hO)) ?_
    rintro _ _ ⟨r5, rfl, rfl, hO⟩
    refine rs hG [] [] rfl ?_
    exact j21 r5 hO
/-! GrainInn.State.mostCrowded()I -/
noncomputable def S_mostCrowded_j41 (x1 : Int32) (h : Hp) : Option Int32 := some x1
noncomputable def S_mostCrowded_j35 (x1 : Int32) (x2 : Int32) (h : Hp) : Option ((Int32 × Int32) ⊕ Int32) := bnd ((x2 + (1 : Int32))) fun y1 => some (.inl (x1, y1))
noncomputable def S_mostCrowded_j33 (x2 : Int32) (h : Hp) : Option ((Int32 × Int32) ⊕ Int32) := (S_mostCrowded_j35 x2 x2 h)
noncomputable def S_mostCrowded_b4 (x1 : Int32) (x2 : Int32) (h : Hp) : Option ((Int32 × Int32) ⊕ Int32) := if kd (Int32.toNatClampNeg (h.1 57 6)) = 1 then (if (h.1 (Int32.toNatClampNeg (h.1 57 6)) 5) ≤ x2 then (((S_mostCrowded_j41 x1 h).map Sum.inr)) else (if x1 = (-1 : Int32) then ((S_mostCrowded_j33 x2 h)) else ((S_crowdAt h x2).bind fun r5 => (S_crowdAt h x1).bind fun r6 => if r5 ≤ r6 then ((S_mostCrowded_j35 x1 x2 h)) else ((S_mostCrowded_j33 x2 h))))) else none
noncomputable def S_mostCrowded_l4 (x1 : Int32) (x2 : Int32) (h : Hp) : Option Int32 := lp (fun s : (Int32 × Int32) => S_mostCrowded_b4 s.1 s.2 h) (x1, x2)
theorem S_mostCrowded_l4_eq (x1 : Int32) (x2 : Int32) (h : Hp) : S_mostCrowded_l4 x1 x2 h = (S_mostCrowded_b4 x1 x2 h).bind (Sum.elim (fun q : (Int32 × Int32) => S_mostCrowded_l4 q.1 q.2 h) some) := lp_eq _ _
noncomputable def S_mostCrowded (h : Hp) : Option Int32 := (S_mostCrowded_l4 (-1 : Int32) (0 : Int32) h)
set_option maxRecDepth 100000 in
set_option maxHeartbeats 4000000 in
theorem c_S_mostCrowded {E : En} {d : Nat} (h : Hp) {P : Int32 → Prop} (hO : Okk (S_mostCrowded h) P) : Cn E (d + 4) z_S_mostCrowded [.ref 57] h (RIp h P) := by
  refine cn_of (on := 7) (d := d + 3) ⟨rfl, by decide +kernel, Nat.le_of_ble_eq_true rfl⟩ (fun G hG => ?_)
  unfold S_mostCrowded at hO
  show G 0 [(0, .ref 57)] [] h
  have j41 : ∀ (x1 : Int32), Okk (S_mostCrowded_j41 x1 h) P → G 41 [(1, .int x1)] [] h := by
    intro x1 hO
    unfold S_mostCrowded_j41 at hO
    refine rb hG 4 41 42 [.iload 1] [] [] [(1, .int x1)] [.int x1] h [] (by decide +kernel) rfl trivial ?_
    exact eI hG 42 (by decide +kernel) rfl ⟨x1, rfl, rfl, ok_some (Q := P) hO⟩
  have l4 : ∀ (x1 : Int32) (x2 : Int32), Okk (S_mostCrowded_l4 x1 x2 h) P → G 4 [(0, .ref 57), (1, .int x1), (2, .int x2)] [] h := by
    intro x1 x2 hO
    obtain ⟨H4, eH4⟩ : ∃ q : (Int32 × Int32) → Prop, q = fun s => G 4 [(0, .ref 57), (1, .int (s.1)), (2, .int (s.2))] [] (h) := ⟨_, rfl⟩
    have w9 : H4 (x1, x2) := by
      refine lp_wp (f := fun s : (Int32 × Int32) => S_mostCrowded_b4 s.1 s.2 h) (H := H4) (Q := P) ?_ (x1, x2) hO
      rintro ⟨x1, x2⟩ hO
      rw [eH4]
      show G 4 [(0, .ref 57), (1, .int x1), (2, .int x2)] [] h
      have k4 : ∀ s : (Int32 × Int32), H4 s → G 4 [(0, .ref 57), (1, .int (s.1)), (2, .int (s.2))] [] (h) := fun s q => by rw [eH4] at q; exact q
      replace hO : Okk (S_mostCrowded_b4 x1 x2 h) (Sum.elim H4 P) := hO
      clear eH4
      have j35 : ∀ (x1 : Int32) (x2 : Int32), Okk (S_mostCrowded_j35 x1 x2 h) (Sum.elim H4 P) → G 35 [(0, .ref 57), (1, .int x1), (2, .int x2)] [] h := by
        intro x1 x2 hO
        unfold S_mostCrowded_j35 at hO
        refine rbx hG 4 35 38 [.iinc 2 0] [1] [] ((x2 + (1 : Int32))) (fun y1 => [(2, .int y1), (0, .ref 57), (1, .int x1)]) (fun y1 => []) (fun y1 => h) [] (by decide +kernel) rfl trivial hO (fun y1 hO => ?_)
        refine rb hG 4 38 4 [] [] [] [(2, .int y1), (0, .ref 57), (1, .int x1)] [] h [] (by decide +kernel) rfl trivial ?_
        refine rs hG [(0, .ref 57), (1, .int x1), (2, .int y1)] [1, 2, 0] rfl ?_
        exact k4 (x1, y1) (ok_some (Q := (Sum.elim H4 P)) hO)
      have j33 : ∀ (x2 : Int32), Okk (S_mostCrowded_j33 x2 h) (Sum.elim H4 P) → G 33 [(0, .ref 57), (2, .int x2)] [] h := by
        intro x2 hO
        unfold S_mostCrowded_j33 at hO
        refine rb hG 5 33 35 [.iload 2, .istore 1] [] [] [(1, .int x2), (0, .ref 57), (2, .int x2)] [] h [] (by decide +kernel) rfl trivial ?_
        refine rs hG [(0, .ref 57), (1, .int x2), (2, .int x2)] [1, 0, 2] rfl ?_
        exact j35 x2 x2 hO
      unfold S_mostCrowded_b4 at hO
      obtain ⟨g2, hO⟩ := ok_if hO
      refine rb hG 7 4 12 [.iload 2, .aload 0, .instanceof 706, .getfield 105] [] [] [(0, .ref 57), (1, .int x1), (2, .int x2)] [.int (h.1 (Int32.toNatClampNeg (h.1 57 6)) 5), .int x2] h [kd 57 = 7, kd (Int32.toNatClampNeg (h.1 57 6)) = 1] (by decide +kernel) rfl ⟨kd_57, g2⟩ ?_
      refine rj hG .ge (29) 41 12 (by decide +kernel) (by decide) (fun c3 => ?_) (fun c3 => ?_)
      · have hO := ok_pos c3 hO
        refine rs hG [(1, .int x1)] [1] rfl ?_
        exact j41 x1 (ok_inr hO)
      · have hO := ok_neg c3 hO
        refine rb hG 5 15 17 [.iload 1, .ldc_w 0] [-1] [] [(0, .ref 57), (1, .int x1), (2, .int x2)] [.int (-1 : Int32), .int x1] h [] (by decide +kernel) rfl trivial ?_
        refine rj hG .eq (16) 33 17 (by decide +kernel) (by decide) (fun c4 => ?_) (fun c4 => ?_)
        · have hO := ok_pos c4 hO
          refine rs hG [(0, .ref 57), (2, .int x2)] [0, 2] rfl ?_
          exact j33 x2 hO
        · have hO := ok_neg c4 hO
          refine rb hG 5 20 22 [.aload 0, .iload 2] [] [] [(0, .ref 57), (1, .int x1), (2, .int x2)] [.int x2, .ref 57] h [] (by decide +kernel) rfl trivial ?_
          refine rv hG z_S_crowdAt 222 1 22 57 [.int x2] [] (by decide +kernel) mk_S_crowdAt lk_7_222 rcv_57 rfl ⟨rfl, Nat.le_of_ble_eq_true rfl⟩ (c_S_crowdAt (d := d) h x2 (ok_bind hO)) ?_
          rintro _ _ ⟨r5, rfl, rfl, hO⟩
          refine rb hG 5 25 27 [.aload 0, .iload 1] [] [] [(0, .ref 57), (1, .int x1), (2, .int x2)] [.int x1, .ref 57, .int r5] h [] (by decide +kernel) rfl trivial ?_
          refine rv hG z_S_crowdAt 222 1 27 57 [.int x1] [.int r5] (by decide +kernel) mk_S_crowdAt lk_7_222 rcv_57 rfl ⟨rfl, Nat.le_of_ble_eq_true rfl⟩ (c_S_crowdAt (d := d) h x1 (ok_bind hO)) ?_
          rintro _ _ ⟨r6, rfl, rfl, hO⟩
          refine rj hG .le (5) 35 30 (by decide +kernel) (by decide) (fun c7 => ?_) (fun c7 => ?_)
          · have hO := ok_pos c7 hO
            exact j35 x1 x2 hO
          · have hO := ok_neg c7 hO
            refine rs hG [(0, .ref 57), (2, .int x2)] [0, 2] rfl ?_
            exact j33 x2 hO
    rw [eH4] at w9
    exact w9
  refine rb hG 7 0 4 [.ldc_w 0, .istore 1, .ldc_w 1, .istore 2] [-1, 0] [] [(2, .int (0 : Int32)), (1, .int (-1 : Int32)), (0, .ref 57)] [] h [] (by decide +kernel) rfl trivial ?_
  refine rs hG [(0, .ref 57), (1, .int (-1 : Int32)), (2, .int (0 : Int32))] [2, 1, 0] rfl ?_
  exact l4 (-1 : Int32) (0 : Int32) hO
/-! GrainInn.ghosts(IIII)I -/
noncomputable def K_ghosts_j84 (s0 : Int32) (h : Hp) : Option (Int32 × Hp) := some (s0, h)
noncomputable def K_ghosts_j105 (s0 : Int32) (h : Hp) : Option (Int32 × Hp) := some (s0, h)
noncomputable def K_ghosts (h : Hp) (x1 : Int32) (x2 : Int32) (x3 : Int32) (x4 : Int32) : Option (Int32 × Hp) := (K_reach h x1 x2 x3).bind fun (r1, h2) => if r1 = 0 then (some ((-2 : Int32), h2)) else (if r1 = 57 then ((S_mostSeen h2).bind fun r5 => (S_mostCrowded h2).bind fun r6 => if x4 = (0 : Int32) then (some (r5, h2)) else (if x4 = (1 : Int32) then (if r5 = (-1 : Int32) then ((K_ghosts_j84 (-1 : Int32) h2)) else ((S_pastsOf h2 r5).bind fun r10 => (K_ghosts_j84 r10 h2))) else (if x4 = (2 : Int32) then (some (r6, h2)) else (if x4 = (3 : Int32) then (if r6 = (-1 : Int32) then ((K_ghosts_j105 (-1 : Int32) h2)) else ((S_crowdAt h2 r6).bind fun r14 => (K_ghosts_j105 r14 h2))) else (some ((-2 : Int32), h2)))))) else none)
set_option maxRecDepth 100000 in
set_option maxHeartbeats 4000000 in
theorem c_K_ghosts {E : En} {d : Nat} (h : Hp) (x1 : Int32) (x2 : Int32) (x3 : Int32) (x4 : Int32) {P : (Int32 × Hp) → Prop} (hO : Okk (K_ghosts h x1 x2 x3 x4) P) : Cn E (d + 8) z_K_ghosts [.ref 1, .int x1, .int x2, .int x3, .int x4] h (RI P) := by
  refine cn_of (on := 11) (d := d + 7) ⟨rfl, by decide +kernel, Nat.le_of_ble_eq_true rfl⟩ (fun G hG => ?_)
  unfold K_ghosts at hO
  show G 0 [(0, .ref 1), (1, .int x1), (2, .int x2), (3, .int x3), (4, .int x4)] [] h
  have j84 : ∀ (s0 : Int32) (h : Hp), Okk (K_ghosts_j84 s0 h) P → G 84 [] [.int s0] h := by
    intro s0 h hO
    unfold K_ghosts_j84 at hO
    exact eI hG 84 (by decide +kernel) rfl ⟨s0, rfl, ok_some (Q := P) hO⟩
  have j105 : ∀ (s0 : Int32) (h : Hp), Okk (K_ghosts_j105 s0 h) P → G 105 [] [.int s0] h := by
    intro s0 h hO
    unfold K_ghosts_j105 at hO
    exact eI hG 105 (by decide +kernel) rfl ⟨s0, rfl, ok_some (Q := P) hO⟩
  refine rb hG 7 0 4 [.aload 0, .iload 1, .iload 2, .iload 3] [] [] [(0, .ref 1), (1, .int x1), (2, .int x2), (3, .int x3), (4, .int x4)] [.int x3, .int x2, .int x1, .ref 1] h [] (by decide +kernel) rfl trivial ?_
  refine rv hG z_K_reach 155 3 4 1 [.int x1, .int x2, .int x3] [] (by decide +kernel) mk_K_reach lk_11_155 rcv_1 rfl ⟨rfl, Nat.le_of_ble_eq_true rfl⟩ (c_K_reach (d := d) h x1 x2 x3 (ok_bind hO)) ?_
  rintro _ h2 ⟨r1, rfl, hO⟩
  refine rb hG 5 7 11 [.astore 5, .aload 5] [] [] [(5, .ref r1), (0, .ref 1), (1, .int x1), (2, .int x2), (3, .int x3), (4, .int x4)] [.ref r1] h2 [] (by decide +kernel) rfl trivial ?_
  refine rnn hG (6) 17 11 (by decide +kernel) (by decide) (fun c3 => ?_) (fun c3 => ?_)
  · have hO := ok_pos c3 hO
    refine rb hG 4 14 16 [.ldc_w 0] [-2] [] [(5, .ref r1), (0, .ref 1), (1, .int x1), (2, .int x2), (3, .int x3), (4, .int x4)] [.int (-2 : Int32)] h2 [] (by decide +kernel) rfl trivial ?_
    exact eI hG 16 (by decide +kernel) rfl ⟨(-2 : Int32), rfl, ok_some (Q := P) hO⟩
  · have hO := ok_neg c3 hO
    obtain ⟨g4, hOg4⟩ := ok_if hO
    subst g4
    have hO := hOg4
    refine rb hG 4 17 19 [.aload 5] [] [] [(5, .ref 57), (0, .ref 1), (1, .int x1), (2, .int x2), (3, .int x3), (4, .int x4)] [.ref 57] h2 [] (by decide +kernel) rfl trivial ?_
    refine rv hG z_S_mostSeen 323 0 19 57 [] [] (by decide +kernel) mk_S_mostSeen lk_11_323 rcv_57 rfl ⟨rfl, Nat.le_of_ble_eq_true rfl⟩ (c_S_mostSeen (d := d + 4) h2 (ok_bind hO)) ?_
    rintro _ _ ⟨r5, rfl, rfl, hO⟩
    refine rb hG 5 22 26 [.istore 6, .aload 5] [] [] [(6, .int r5), (5, .ref 57), (0, .ref 1), (1, .int x1), (2, .int x2), (3, .int x3), (4, .int x4)] [.ref 57] h2 [] (by decide +kernel) rfl trivial ?_
    refine rv hG z_S_mostCrowded 326 0 26 57 [] [] (by decide +kernel) mk_S_mostCrowded lk_11_326 rcv_57 rfl ⟨rfl, Nat.le_of_ble_eq_true rfl⟩ (c_S_mostCrowded (d := d + 3) h2 (ok_bind hO)) ?_
    rintro _ _ ⟨r6, rfl, rfl, hO⟩
    refine rb hG 5 29 33 [.istore 7, .iload 4] [] [] [(7, .int r6), (6, .int r5), (5, .ref 57), (0, .ref 1), (1, .int x1), (2, .int x2), (3, .int x3), (4, .int x4)] [.int x4] h2 [] (by decide +kernel) rfl trivial ?_
    refine rw9 hG (73) (0) (3) #[(31), (34), (52), (55)] 31 33 [64, 67, 85, 88] 106 (by decide +kernel) (by decide +kernel) ?_
    refine sw_c (0 : Int32) (by decide) (fun c7 => ?_) (fun c7 => ?_)
    · have hO := ok_pos c7 hO
      refine rb hG 4 64 66 [.iload 6] [] [] [(7, .int r6), (6, .int r5), (5, .ref 57), (0, .ref 1), (1, .int x1), (2, .int x2), (3, .int x3), (4, .int x4)] [.int r5] h2 [] (by decide +kernel) rfl trivial ?_
      exact eI hG 66 (by decide +kernel) rfl ⟨r5, rfl, ok_some (Q := P) hO⟩
    have hO := ok_neg c7 hO
    refine sw_c (1 : Int32) (by decide) (fun c8 => ?_) (fun c8 => ?_)
    · have hO := ok_pos c8 hO
      refine rb hG 5 67 70 [.iload 6, .ldc_w 0] [-1] [] [(7, .int r6), (6, .int r5), (5, .ref 57), (0, .ref 1), (1, .int x1), (2, .int x2), (3, .int x3), (4, .int x4)] [.int (-1 : Int32), .int r5] h2 [] (by decide +kernel) rfl trivial ?_
      refine rjN hG (7) 77 70 (by decide +kernel) (by decide) (fun c9 => ?_) (fun c9 => ?_)
      · have hO := ok_pos c9 hO
        refine rb hG 5 73 84 [.ldc_w 0] [-1] [] [(7, .int r6), (6, .int r5), (5, .ref 57), (0, .ref 1), (1, .int x1), (2, .int x2), (3, .int x3), (4, .int x4)] [.int (-1 : Int32)] h2 [] (by decide +kernel) rfl trivial ?_
        refine rs hG [] [] rfl ?_
        exact j84 (-1 : Int32) h2 hO
      · have hO := ok_neg c9 hO
        refine rb hG 5 77 81 [.aload 5, .iload 6] [] [] [(7, .int r6), (6, .int r5), (5, .ref 57), (0, .ref 1), (1, .int x1), (2, .int x2), (3, .int x3), (4, .int x4)] [.int r5, .ref 57] h2 [] (by decide +kernel) rfl trivial ?_
        refine rv hG z_S_pastsOf 329 1 81 57 [.int r5] [] (by decide +kernel) mk_S_pastsOf lk_11_329 rcv_57 rfl ⟨rfl, Nat.le_of_ble_eq_true rfl⟩ (c_S_pastsOf (d := d + 5) h2 r5 (ok_bind hO)) ?_
        rintro _ _ ⟨r10, rfl, rfl, hO⟩
        refine rs hG [] [] rfl ?_
        exact j84 r10 h2 hO
    have hO := ok_neg c8 hO
    refine sw_c (2 : Int32) (by decide) (fun c11 => ?_) (fun c11 => ?_)
    · have hO := ok_pos c11 hO
      refine rb hG 4 85 87 [.iload 7] [] [] [(7, .int r6), (6, .int r5), (5, .ref 57), (0, .ref 1), (1, .int x1), (2, .int x2), (3, .int x3), (4, .int x4)] [.int r6] h2 [] (by decide +kernel) rfl trivial ?_
      exact eI hG 87 (by decide +kernel) rfl ⟨r6, rfl, ok_some (Q := P) hO⟩
    have hO := ok_neg c11 hO
    refine sw_c (3 : Int32) (by decide) (fun c12 => ?_) (fun c12 => ?_)
    · have hO := ok_pos c12 hO
      refine rb hG 5 88 91 [.iload 7, .ldc_w 0] [-1] [] [(7, .int r6), (6, .int r5), (5, .ref 57), (0, .ref 1), (1, .int x1), (2, .int x2), (3, .int x3), (4, .int x4)] [.int (-1 : Int32), .int r6] h2 [] (by decide +kernel) rfl trivial ?_
      refine rjN hG (7) 98 91 (by decide +kernel) (by decide) (fun c13 => ?_) (fun c13 => ?_)
      · have hO := ok_pos c13 hO
        refine rb hG 5 94 105 [.ldc_w 0] [-1] [] [(7, .int r6), (6, .int r5), (5, .ref 57), (0, .ref 1), (1, .int x1), (2, .int x2), (3, .int x3), (4, .int x4)] [.int (-1 : Int32)] h2 [] (by decide +kernel) rfl trivial ?_
        refine rs hG [] [] rfl ?_
        exact j105 (-1 : Int32) h2 hO
      · have hO := ok_neg c13 hO
        refine rb hG 5 98 102 [.aload 5, .iload 7] [] [] [(7, .int r6), (6, .int r5), (5, .ref 57), (0, .ref 1), (1, .int x1), (2, .int x2), (3, .int x3), (4, .int x4)] [.int r6, .ref 57] h2 [] (by decide +kernel) rfl trivial ?_
        refine rv hG z_S_crowdAt 332 1 102 57 [.int r6] [] (by decide +kernel) mk_S_crowdAt lk_11_332 rcv_57 rfl ⟨rfl, Nat.le_of_ble_eq_true rfl⟩ (c_S_crowdAt (d := d + 4) h2 r6 (ok_bind hO)) ?_
        rintro _ _ ⟨r14, rfl, rfl, hO⟩
        refine rs hG [] [] rfl ?_
        exact j105 r14 h2 hO
    have hO := ok_neg c12 hO
    show G 106 _ _ _
    refine rb hG 4 106 108 [.ldc_w 0] [-2] [] [(7, .int r6), (6, .int r5), (5, .ref 57), (0, .ref 1), (1, .int x1), (2, .int x2), (3, .int x3), (4, .int x4)] [.int (-2 : Int32)] h2 [] (by decide +kernel) rfl trivial ?_
    exact eI hG 108 (by decide +kernel) rfl ⟨(-2 : Int32), rfl, ok_some (Q := P) hO⟩
/-! GrainInnModel.pastsOf(I)I -/
noncomputable def M_pastsOf_j65 (x2 : Int32) (h : Hp) : Option Int32 := some x2
noncomputable def M_pastsOf_j59 (x1 : Int32) (x2 : Int32) (x3 : Int32) (h : Hp) : Option ((Int32 × Int32) ⊕ Int32) := bnd ((x3 + (1 : Int32))) fun y1 => some (.inl (x2, y1))
noncomputable def M_pastsOf_j51 (x1 : Int32) (x3 : Int32) (x4 : Int32) (s0 : Int32) (s1 : Int32) (h : Hp) : Option ((Int32 × Int32) ⊕ ((Int32 × Int32) ⊕ Int32)) := bnd ((s0 + s1)) fun y2 => bnd ((x4 + (1 : Int32))) fun y3 => some (.inl (y2, y3))
noncomputable def M_pastsOf_b15 (x1 : Int32) (x2 : Int32) (x3 : Int32) (x4 : Int32) (h : Hp) : Option ((Int32 × Int32) ⊕ ((Int32 × Int32) ⊕ Int32)) := if inb x3 (ln 266) then (if (h.1 266 (Int32.toNatClampNeg x3)) ≤ x4 then (((M_pastsOf_j59 x1 x2 x3 h).map Sum.inr)) else (if inb (((16 : Int32) * x3) + x4) (ln 263) then ((M_has (h.1 263 (Int32.toNatClampNeg (((16 : Int32) * x3) + x4))) x1).bind fun r7 => if r7 = 0 then ((M_pastsOf_j51 x1 x3 x4 x2 (0 : Int32) h)) else ((M_pastsOf_j51 x1 x3 x4 x2 (1 : Int32) h))) else none)) else none
noncomputable def M_pastsOf_l15 (x1 : Int32) (x2 : Int32) (x3 : Int32) (x4 : Int32) (h : Hp) : Option ((Int32 × Int32) ⊕ Int32) := lp (fun s : (Int32 × Int32) => M_pastsOf_b15 x1 s.1 x3 s.2 h) (x2, x4)
theorem M_pastsOf_l15_eq (x1 : Int32) (x2 : Int32) (x3 : Int32) (x4 : Int32) (h : Hp) : M_pastsOf_l15 x1 x2 x3 x4 h = (M_pastsOf_b15 x1 x2 x3 x4 h).bind (Sum.elim (fun q : (Int32 × Int32) => M_pastsOf_l15 x1 q.1 x3 q.2 h) some) := lp_eq _ _
noncomputable def M_pastsOf_b4 (x1 : Int32) (x2 : Int32) (x3 : Int32) (h : Hp) : Option ((Int32 × Int32) ⊕ Int32) := if (h.1 251 24) ≤ x3 then (((M_pastsOf_j65 x2 h).map Sum.inr)) else ((M_pastsOf_l15 x1 x2 x3 (0 : Int32) h))
noncomputable def M_pastsOf_l4 (x1 : Int32) (x2 : Int32) (x3 : Int32) (h : Hp) : Option Int32 := lp (fun s : (Int32 × Int32) => M_pastsOf_b4 x1 s.1 s.2 h) (x2, x3)
theorem M_pastsOf_l4_eq (x1 : Int32) (x2 : Int32) (x3 : Int32) (h : Hp) : M_pastsOf_l4 x1 x2 x3 h = (M_pastsOf_b4 x1 x2 x3 h).bind (Sum.elim (fun q : (Int32 × Int32) => M_pastsOf_l4 x1 q.1 q.2 h) some) := lp_eq _ _
noncomputable def M_pastsOf (h : Hp) (x1 : Int32) : Option Int32 := (M_pastsOf_l4 x1 (0 : Int32) (0 : Int32) h)
set_option maxRecDepth 100000 in
set_option maxHeartbeats 4000000 in
theorem c_M_pastsOf {E : En} {d : Nat} (h : Hp) (x1 : Int32) {P : Int32 → Prop} (hO : Okk (M_pastsOf h x1) P) : Cn E (d + 2) z_M_pastsOf [.ref 251, .int x1] h (RIp h P) := by
  refine cn_of (on := 12) (d := d + 1) ⟨rfl, by decide +kernel, Nat.le_of_ble_eq_true rfl⟩ (fun G hG => ?_)
  unfold M_pastsOf at hO
  show G 0 [(0, .ref 251), (1, .int x1)] [] h
  have j65 : ∀ (x2 : Int32), Okk (M_pastsOf_j65 x2 h) P → G 65 [(2, .int x2)] [] h := by
    intro x2 hO
    unfold M_pastsOf_j65 at hO
    refine rb hG 4 65 66 [.iload 2] [] [] [(2, .int x2)] [.int x2] h [] (by decide +kernel) rfl trivial ?_
    exact eI hG 66 (by decide +kernel) rfl ⟨x2, rfl, rfl, ok_some (Q := P) hO⟩
  have l4 : ∀ (x2 : Int32) (x3 : Int32), Okk (M_pastsOf_l4 x1 x2 x3 h) P → G 4 [(0, .ref 251), (1, .int x1), (2, .int x2), (3, .int x3)] [] h := by
    intro x2 x3 hO
    obtain ⟨H4, eH4⟩ : ∃ q : (Int32 × Int32) → Prop, q = fun s => G 4 [(0, .ref 251), (1, .int x1), (2, .int (s.1)), (3, .int (s.2))] [] (h) := ⟨_, rfl⟩
    have w9 : H4 (x2, x3) := by
      refine lp_wp (f := fun s : (Int32 × Int32) => M_pastsOf_b4 x1 s.1 s.2 h) (H := H4) (Q := P) ?_ (x2, x3) hO
      rintro ⟨x2, x3⟩ hO
      rw [eH4]
      show G 4 [(0, .ref 251), (1, .int x1), (2, .int x2), (3, .int x3)] [] h
      have k4 : ∀ s : (Int32 × Int32), H4 s → G 4 [(0, .ref 251), (1, .int x1), (2, .int (s.1)), (3, .int (s.2))] [] (h) := fun s q => by rw [eH4] at q; exact q
      replace hO : Okk (M_pastsOf_b4 x1 x2 x3 h) (Sum.elim H4 P) := hO
      clear eH4
      have j59 : ∀ (x2 : Int32) (x3 : Int32), Okk (M_pastsOf_j59 x1 x2 x3 h) (Sum.elim H4 P) → G 59 [(0, .ref 251), (1, .int x1), (2, .int x2), (3, .int x3)] [] h := by
        intro x2 x3 hO
        unfold M_pastsOf_j59 at hO
        refine rbx hG 4 59 62 [.iinc 3 0] [1] [] ((x3 + (1 : Int32))) (fun y1 => [(3, .int y1), (0, .ref 251), (1, .int x1), (2, .int x2)]) (fun y1 => []) (fun y1 => h) [] (by decide +kernel) rfl trivial hO (fun y1 hO => ?_)
        refine rb hG 4 62 4 [] [] [] [(3, .int y1), (0, .ref 251), (1, .int x1), (2, .int x2)] [] h [] (by decide +kernel) rfl trivial ?_
        refine rs hG [(0, .ref 251), (1, .int x1), (2, .int x2), (3, .int y1)] [1, 2, 3, 0] rfl ?_
        exact k4 (x2, y1) (ok_some (Q := (Sum.elim H4 P)) hO)
      have l15 : ∀ (x2 : Int32) (x3 : Int32) (x4 : Int32), Okk (M_pastsOf_l15 x1 x2 x3 x4 h) (Sum.elim H4 P) → G 15 [(0, .ref 251), (1, .int x1), (2, .int x2), (3, .int x3), (4, .int x4)] [] h := by
        intro x2 x3 x4 hO
        obtain ⟨H15, eH15⟩ : ∃ q : (Int32 × Int32) → Prop, q = fun s => G 15 [(0, .ref 251), (1, .int x1), (2, .int (s.1)), (3, .int x3), (4, .int (s.2))] [] (h) := ⟨_, rfl⟩
        have w9 : H15 (x2, x4) := by
          refine lp_wp (f := fun s : (Int32 × Int32) => M_pastsOf_b15 x1 s.1 x3 s.2 h) (H := H15) (Q := (Sum.elim H4 P)) ?_ (x2, x4) hO
          rintro ⟨x2, x4⟩ hO
          rw [eH15]
          show G 15 [(0, .ref 251), (1, .int x1), (2, .int x2), (3, .int x3), (4, .int x4)] [] h
          have k15 : ∀ s : (Int32 × Int32), H15 s → G 15 [(0, .ref 251), (1, .int x1), (2, .int (s.1)), (3, .int x3), (4, .int (s.2))] [] (h) := fun s q => by rw [eH15] at q; exact q
          replace hO : Okk (M_pastsOf_b15 x1 x2 x3 x4 h) (Sum.elim H15 (Sum.elim H4 P)) := hO
          clear eH15
          have j51 : ∀ (x4 : Int32) (s0 : Int32) (s1 : Int32), Okk (M_pastsOf_j51 x1 x3 x4 s0 s1 h) (Sum.elim H15 (Sum.elim H4 P)) → G 51 [(0, .ref 251), (1, .int x1), (3, .int x3), (4, .int x4)] [.int s1, .int s0] h := by
            intro x4 s0 s1 hO
            unfold M_pastsOf_j51 at hO
            refine rbx hG 5 51 53 [.iadd, .istore 2] [] [] ((s0 + s1)) (fun y2 => [(2, .int y2), (0, .ref 251), (1, .int x1), (3, .int x3), (4, .int x4)]) (fun y2 => []) (fun y2 => h) [] (by decide +kernel) rfl trivial hO (fun y2 hO => ?_)
            refine rbx hG 4 53 56 [.iinc 4 0] [1] [] ((x4 + (1 : Int32))) (fun y3 => [(4, .int y3), (2, .int y2), (0, .ref 251), (1, .int x1), (3, .int x3)]) (fun y3 => []) (fun y3 => h) [] (by decide +kernel) rfl trivial hO (fun y3 hO => ?_)
            refine rb hG 4 56 15 [] [] [] [(4, .int y3), (2, .int y2), (0, .ref 251), (1, .int x1), (3, .int x3)] [] h [] (by decide +kernel) rfl trivial ?_
            refine rs hG [(0, .ref 251), (1, .int x1), (2, .int y2), (3, .int x3), (4, .int y3)] [2, 3, 1, 4, 0] rfl ?_
            exact k15 (y2, y3) (ok_some (Q := (Sum.elim H15 (Sum.elim H4 P))) hO)
          unfold M_pastsOf_b15 at hO
          obtain ⟨g4, hO⟩ := ok_if hO
          refine rb hG 8 15 23 [.iload 4, .aload 0, .invokeinterface 1230 15, .iload 3, .iaload] [] [] [(0, .ref 251), (1, .int x1), (2, .int x2), (3, .int x3), (4, .int x4)] [.int (h.1 266 (Int32.toNatClampNeg x3)), .int x4] h [kd 251 = 12, kd 266 = 20 ∧ inb x3 (ln 266)] (by decide +kernel) rfl ⟨kd_251, ⟨kd_266, g4⟩⟩ ?_
          refine rj hG .ge (36) 59 23 (by decide +kernel) (by decide) (fun c5 => ?_) (fun c5 => ?_)
          · have hO := ok_pos c5 hO
            refine rs hG [(0, .ref 251), (1, .int x1), (2, .int x2), (3, .int x3)] [0, 1, 2, 3] rfl ?_
            exact j59 x2 x3 (ok_inr hO)
          · have hO := ok_neg c5 hO
            obtain ⟨g6, hO⟩ := ok_if hO
            refine rb hG 13 26 40 [.iload 2, .aload 0, .invokeinterface 1227 12, .ldc_w 0, .iload 3, .imul, .iload 4, .iadd, .iaload, .iload 1] [16] [] [(0, .ref 251), (1, .int x1), (2, .int x2), (3, .int x3), (4, .int x4)] [.int x1, .int (h.1 263 (Int32.toNatClampNeg (((16 : Int32) * x3) + x4))), .int x2] h [kd 251 = 12, kd 263 = 20 ∧ inb (((16 : Int32) * x3) + x4) (ln 263)] (by decide +kernel) rfl ⟨kd_251, ⟨kd_263, g6⟩⟩ ?_
            refine rt hG z_M_has 103 2 40 [.int (h.1 263 (Int32.toNatClampNeg (((16 : Int32) * x3) + x4))), .int x1] [.int x2] (by decide +kernel) mk_M_has lk_12_103 rfl ⟨rfl, Nat.le_of_ble_eq_true rfl⟩ (c_M_has (d := d) h (h.1 263 (Int32.toNatClampNeg (((16 : Int32) * x3) + x4))) x1 (ok_bind hO)) ?_
            rintro _ _ ⟨r7, rfl, rfl, hO⟩
            refine ri hG .eq (7) 50 43 (by decide +kernel) (by decide) (fun c8 => ?_) (fun c8 => ?_)
            · have hO := ok_pos c8 hO
              refine rb hG 4 50 51 [.ldc_w 0] [0] [] [(0, .ref 251), (1, .int x1), (2, .int x2), (3, .int x3), (4, .int x4)] [.int (0 : Int32), .int x2] h [] (by decide +kernel) rfl trivial ?_
              refine rs hG [(0, .ref 251), (1, .int x1), (3, .int x3), (4, .int x4)] [0, 1, 3, 4] rfl ?_
              exact j51 x4 x2 (0 : Int32) hO
            · have hO := ok_neg c8 hO
              refine rb hG 5 46 51 [.ldc_w 0] [1] [] [(0, .ref 251), (1, .int x1), (2, .int x2), (3, .int x3), (4, .int x4)] [.int (1 : Int32), .int x2] h [] (by decide +kernel) rfl trivial ?_
              refine rs hG [(0, .ref 251), (1, .int x1), (3, .int x3), (4, .int x4)] [0, 1, 3, 4] rfl ?_
              exact j51 x4 x2 (1 : Int32) hO
        rw [eH15] at w9
        exact w9
      unfold M_pastsOf_b4 at hO
      refine rb hG 6 4 9 [.iload 3, .aload 0, .getfield 1224] [] [] [(0, .ref 251), (1, .int x1), (2, .int x2), (3, .int x3)] [.int (h.1 251 24), .int x3] h [kd 251 = 12] (by decide +kernel) rfl kd_251 ?_
      refine rj hG .ge (56) 65 9 (by decide +kernel) (by decide) (fun c9 => ?_) (fun c9 => ?_)
      · have hO := ok_pos c9 hO
        refine rs hG [(2, .int x2)] [2] rfl ?_
        exact j65 x2 (ok_inr hO)
      · have hO := ok_neg c9 hO
        refine rb hG 5 12 15 [.ldc_w 0, .istore 4] [0] [] [(4, .int (0 : Int32)), (0, .ref 251), (1, .int x1), (2, .int x2), (3, .int x3)] [] h [] (by decide +kernel) rfl trivial ?_
        refine rs hG [(0, .ref 251), (1, .int x1), (2, .int x2), (3, .int x3), (4, .int (0 : Int32))] [1, 2, 3, 4, 0] rfl ?_
        exact l15 x2 x3 (0 : Int32) hO
    rw [eH4] at w9
    exact w9
  refine rb hG 7 0 4 [.ldc_w 0, .istore 2, .ldc_w 0, .istore 3] [0] [] [(3, .int (0 : Int32)), (2, .int (0 : Int32)), (0, .ref 251), (1, .int x1)] [] h [] (by decide +kernel) rfl trivial ?_
  refine rs hG [(0, .ref 251), (1, .int x1), (2, .int (0 : Int32)), (3, .int (0 : Int32))] [2, 3, 1, 0] rfl ?_
  exact l4 (0 : Int32) (0 : Int32) hO
/-! GrainInnModel.crowdOf(I)I -/
noncomputable def M_crowdOf_j34 (x2 : Int32) (h : Hp) : Option Int32 := some x2
noncomputable def M_crowdOf_b4 (x1 : Int32) (x2 : Int32) (x3 : Int32) (h : Hp) : Option ((Int32 × Int32) ⊕ Int32) := if inb x1 (ln 266) then (if (h.1 266 (Int32.toNatClampNeg x1)) ≤ x3 then (((M_crowdOf_j34 x2 h).map Sum.inr)) else (if inb (((16 : Int32) * x1) + x3) (ln 263) then (bnd ((x2 ||| (h.1 263 (Int32.toNatClampNeg (((16 : Int32) * x1) + x3))))) fun y4 => bnd ((x3 + (1 : Int32))) fun y5 => some (.inl (y4, y5))) else none)) else none
noncomputable def M_crowdOf_l4 (x1 : Int32) (x2 : Int32) (x3 : Int32) (h : Hp) : Option Int32 := lp (fun s : (Int32 × Int32) => M_crowdOf_b4 x1 s.1 s.2 h) (x2, x3)
theorem M_crowdOf_l4_eq (x1 : Int32) (x2 : Int32) (x3 : Int32) (h : Hp) : M_crowdOf_l4 x1 x2 x3 h = (M_crowdOf_b4 x1 x2 x3 h).bind (Sum.elim (fun q : (Int32 × Int32) => M_crowdOf_l4 x1 q.1 q.2 h) some) := lp_eq _ _
noncomputable def M_crowdOf (h : Hp) (x1 : Int32) : Option Int32 := (M_crowdOf_l4 x1 (0 : Int32) (0 : Int32) h)
set_option maxRecDepth 100000 in
set_option maxHeartbeats 4000000 in
theorem c_M_crowdOf {E : En} {d : Nat} (h : Hp) (x1 : Int32) {P : Int32 → Prop} (hO : Okk (M_crowdOf h x1) P) : Cn E (d + 1) z_M_crowdOf [.ref 251, .int x1] h (RIp h P) := by
  refine cn_of (on := 12) (d := d + 0) ⟨rfl, by decide +kernel, Nat.le_of_ble_eq_true rfl⟩ (fun G hG => ?_)
  unfold M_crowdOf at hO
  show G 0 [(0, .ref 251), (1, .int x1)] [] h
  have j34 : ∀ (x2 : Int32), Okk (M_crowdOf_j34 x2 h) P → G 34 [(2, .int x2)] [] h := by
    intro x2 hO
    unfold M_crowdOf_j34 at hO
    refine rb hG 4 34 35 [.iload 2] [] [] [(2, .int x2)] [.int x2] h [] (by decide +kernel) rfl trivial ?_
    exact eI hG 35 (by decide +kernel) rfl ⟨x2, rfl, rfl, ok_some (Q := P) hO⟩
  have l4 : ∀ (x2 : Int32) (x3 : Int32), Okk (M_crowdOf_l4 x1 x2 x3 h) P → G 4 [(0, .ref 251), (1, .int x1), (2, .int x2), (3, .int x3)] [] h := by
    intro x2 x3 hO
    obtain ⟨H4, eH4⟩ : ∃ q : (Int32 × Int32) → Prop, q = fun s => G 4 [(0, .ref 251), (1, .int x1), (2, .int (s.1)), (3, .int (s.2))] [] (h) := ⟨_, rfl⟩
    have w9 : H4 (x2, x3) := by
      refine lp_wp (f := fun s : (Int32 × Int32) => M_crowdOf_b4 x1 s.1 s.2 h) (H := H4) (Q := P) ?_ (x2, x3) hO
      rintro ⟨x2, x3⟩ hO
      rw [eH4]
      show G 4 [(0, .ref 251), (1, .int x1), (2, .int x2), (3, .int x3)] [] h
      have k4 : ∀ s : (Int32 × Int32), H4 s → G 4 [(0, .ref 251), (1, .int x1), (2, .int (s.1)), (3, .int (s.2))] [] (h) := fun s q => by rw [eH4] at q; exact q
      replace hO : Okk (M_crowdOf_b4 x1 x2 x3 h) (Sum.elim H4 P) := hO
      clear eH4
      unfold M_crowdOf_b4 at hO
      obtain ⟨g1, hO⟩ := ok_if hO
      refine rb hG 8 4 11 [.iload 3, .aload 0, .invokeinterface 1230 15, .iload 1, .iaload] [] [] [(0, .ref 251), (1, .int x1), (2, .int x2), (3, .int x3)] [.int (h.1 266 (Int32.toNatClampNeg x1)), .int x3] h [kd 251 = 12, kd 266 = 20 ∧ inb x1 (ln 266)] (by decide +kernel) rfl ⟨kd_251, ⟨kd_266, g1⟩⟩ ?_
      refine rj hG .ge (23) 34 11 (by decide +kernel) (by decide) (fun c2 => ?_) (fun c2 => ?_)
      · have hO := ok_pos c2 hO
        refine rs hG [(2, .int x2)] [2] rfl ?_
        exact j34 x2 (ok_inr hO)
      · have hO := ok_neg c2 hO
        obtain ⟨g3, hO⟩ := ok_if hO
        refine rbx hG 14 14 28 [.iload 2, .aload 0, .invokeinterface 1227 12, .ldc_w 0, .iload 1, .imul, .iload 3, .iadd, .iaload, .ior, .istore 2] [16] [] ((x2 ||| (h.1 263 (Int32.toNatClampNeg (((16 : Int32) * x1) + x3))))) (fun y4 => [(2, .int y4), (0, .ref 251), (1, .int x1), (3, .int x3)]) (fun y4 => []) (fun y4 => h) [kd 251 = 12, kd 263 = 20 ∧ inb (((16 : Int32) * x1) + x3) (ln 263)] (by decide +kernel) rfl ⟨kd_251, ⟨kd_263, g3⟩⟩ hO (fun y4 hO => ?_)
        refine rbx hG 4 28 31 [.iinc 3 0] [1] [] ((x3 + (1 : Int32))) (fun y5 => [(3, .int y5), (2, .int y4), (0, .ref 251), (1, .int x1)]) (fun y5 => []) (fun y5 => h) [] (by decide +kernel) rfl trivial hO (fun y5 hO => ?_)
        refine rb hG 4 31 4 [] [] [] [(3, .int y5), (2, .int y4), (0, .ref 251), (1, .int x1)] [] h [] (by decide +kernel) rfl trivial ?_
        refine rs hG [(0, .ref 251), (1, .int x1), (2, .int y4), (3, .int y5)] [2, 3, 1, 0] rfl ?_
        exact k4 (y4, y5) (ok_some (Q := (Sum.elim H4 P)) hO)
    rw [eH4] at w9
    exact w9
  refine rb hG 7 0 4 [.ldc_w 0, .istore 2, .ldc_w 0, .istore 3] [0] [] [(3, .int (0 : Int32)), (2, .int (0 : Int32)), (0, .ref 251), (1, .int x1)] [] h [] (by decide +kernel) rfl trivial ?_
  refine rs hG [(0, .ref 251), (1, .int x1), (2, .int (0 : Int32)), (3, .int (0 : Int32))] [2, 3, 1, 0] rfl ?_
  exact l4 (0 : Int32) (0 : Int32) hO
/-! GrainInnModel.allPasts()I -/
noncomputable def M_allPasts_j27 (x1 : Int32) (h : Hp) : Option Int32 := some x1
noncomputable def M_allPasts_b4 (x1 : Int32) (x2 : Int32) (h : Hp) : Option ((Int32 × Int32) ⊕ Int32) := if (h.1 251 24) ≤ x2 then (((M_allPasts_j27 x1 h).map Sum.inr)) else (if inb x2 (ln 266) then (bnd ((x1 + (h.1 266 (Int32.toNatClampNeg x2)))) fun y3 => bnd ((x2 + (1 : Int32))) fun y4 => some (.inl (y3, y4))) else none)
noncomputable def M_allPasts_l4 (x1 : Int32) (x2 : Int32) (h : Hp) : Option Int32 := lp (fun s : (Int32 × Int32) => M_allPasts_b4 s.1 s.2 h) (x1, x2)
theorem M_allPasts_l4_eq (x1 : Int32) (x2 : Int32) (h : Hp) : M_allPasts_l4 x1 x2 h = (M_allPasts_b4 x1 x2 h).bind (Sum.elim (fun q : (Int32 × Int32) => M_allPasts_l4 q.1 q.2 h) some) := lp_eq _ _
noncomputable def M_allPasts (h : Hp) : Option Int32 := (M_allPasts_l4 (0 : Int32) (0 : Int32) h)
set_option maxRecDepth 100000 in
set_option maxHeartbeats 4000000 in
theorem c_M_allPasts {E : En} {d : Nat} (h : Hp) {P : Int32 → Prop} (hO : Okk (M_allPasts h) P) : Cn E (d + 1) z_M_allPasts [.ref 251] h (RIp h P) := by
  refine cn_of (on := 12) (d := d + 0) ⟨rfl, by decide +kernel, Nat.le_of_ble_eq_true rfl⟩ (fun G hG => ?_)
  unfold M_allPasts at hO
  show G 0 [(0, .ref 251)] [] h
  have j27 : ∀ (x1 : Int32), Okk (M_allPasts_j27 x1 h) P → G 27 [(1, .int x1)] [] h := by
    intro x1 hO
    unfold M_allPasts_j27 at hO
    refine rb hG 4 27 28 [.iload 1] [] [] [(1, .int x1)] [.int x1] h [] (by decide +kernel) rfl trivial ?_
    exact eI hG 28 (by decide +kernel) rfl ⟨x1, rfl, rfl, ok_some (Q := P) hO⟩
  have l4 : ∀ (x1 : Int32) (x2 : Int32), Okk (M_allPasts_l4 x1 x2 h) P → G 4 [(0, .ref 251), (1, .int x1), (2, .int x2)] [] h := by
    intro x1 x2 hO
    obtain ⟨H4, eH4⟩ : ∃ q : (Int32 × Int32) → Prop, q = fun s => G 4 [(0, .ref 251), (1, .int (s.1)), (2, .int (s.2))] [] (h) := ⟨_, rfl⟩
    have w9 : H4 (x1, x2) := by
      refine lp_wp (f := fun s : (Int32 × Int32) => M_allPasts_b4 s.1 s.2 h) (H := H4) (Q := P) ?_ (x1, x2) hO
      rintro ⟨x1, x2⟩ hO
      rw [eH4]
      show G 4 [(0, .ref 251), (1, .int x1), (2, .int x2)] [] h
      have k4 : ∀ s : (Int32 × Int32), H4 s → G 4 [(0, .ref 251), (1, .int (s.1)), (2, .int (s.2))] [] (h) := fun s q => by rw [eH4] at q; exact q
      replace hO : Okk (M_allPasts_b4 x1 x2 h) (Sum.elim H4 P) := hO
      clear eH4
      unfold M_allPasts_b4 at hO
      refine rb hG 6 4 9 [.iload 2, .aload 0, .getfield 1224] [] [] [(0, .ref 251), (1, .int x1), (2, .int x2)] [.int (h.1 251 24), .int x2] h [kd 251 = 12] (by decide +kernel) rfl kd_251 ?_
      refine rj hG .ge (18) 27 9 (by decide +kernel) (by decide) (fun c1 => ?_) (fun c1 => ?_)
      · have hO := ok_pos c1 hO
        refine rs hG [(1, .int x1)] [1] rfl ?_
        exact j27 x1 (ok_inr hO)
      · have hO := ok_neg c1 hO
        obtain ⟨g2, hO⟩ := ok_if hO
        refine rbx hG 10 12 21 [.iload 1, .aload 0, .invokeinterface 1230 15, .iload 2, .iaload, .iadd, .istore 1] [] [] ((x1 + (h.1 266 (Int32.toNatClampNeg x2)))) (fun y3 => [(1, .int y3), (0, .ref 251), (2, .int x2)]) (fun y3 => []) (fun y3 => h) [kd 251 = 12, kd 266 = 20 ∧ inb x2 (ln 266)] (by decide +kernel) rfl ⟨kd_251, ⟨kd_266, g2⟩⟩ hO (fun y3 hO => ?_)
        refine rbx hG 4 21 24 [.iinc 2 0] [1] [] ((x2 + (1 : Int32))) (fun y4 => [(2, .int y4), (1, .int y3), (0, .ref 251)]) (fun y4 => []) (fun y4 => h) [] (by decide +kernel) rfl trivial hO (fun y4 hO => ?_)
        refine rb hG 4 24 4 [] [] [] [(2, .int y4), (1, .int y3), (0, .ref 251)] [] h [] (by decide +kernel) rfl trivial ?_
        refine rs hG [(0, .ref 251), (1, .int y3), (2, .int y4)] [2, 1, 0] rfl ?_
        exact k4 (y3, y4) (ok_some (Q := (Sum.elim H4 P)) hO)
    rw [eH4] at w9
    exact w9
  refine rb hG 7 0 4 [.ldc_w 0, .istore 1, .ldc_w 0, .istore 2] [0] [] [(2, .int (0 : Int32)), (1, .int (0 : Int32)), (0, .ref 251)] [] h [] (by decide +kernel) rfl trivial ?_
  refine rs hG [(0, .ref 251), (1, .int (0 : Int32)), (2, .int (0 : Int32))] [2, 1, 0] rfl ?_
  exact l4 (0 : Int32) (0 : Int32) hO
/-! GrainInnModel.ghosts(IIII)I -/
noncomputable def M_ghosts_j25 (h : Hp) : Option (Int32 × Hp) := some ((-2 : Int32), h)
noncomputable def M_ghosts_j189 (s0 : Int32) (h : Hp) : Option (Int32 × Hp) := some (s0, h)
noncomputable def M_ghosts_j157 (s0 : Int32) (h : Hp) : Option (Int32 × Hp) := some (s0, h)
noncomputable def M_ghosts_j124 (x4 : Int32) (x5 : Int32) (x6 : Int32) (h : Hp) : Option (Int32 × Hp) := if (2 : Int32) ≤ x4 then (if (h.1 251 24) = 0 then ((M_ghosts_j189 (-1 : Int32) h)) else (if x4 = (2 : Int32) then ((M_ghosts_j189 x6 h)) else ((M_crowdOf h x6).bind fun r4 => (M_ones r4).bind fun r5 => (M_ghosts_j189 r5 h)))) else ((M_allPasts h).bind fun r6 => if r6 = 0 then ((M_ghosts_j157 (-1 : Int32) h)) else (if x4 = 0 then ((M_ghosts_j157 x5 h)) else ((M_pastsOf h x5).bind fun r9 => (M_ghosts_j157 r9 h))))
noncomputable def M_ghosts_j116 (x4 : Int32) (x5 : Int32) (x7 : Int32) (s0 : Int32) (h : Hp) : Option ((Int32 × Int32) ⊕ (Int32 × Hp)) := bnd ((x7 + (1 : Int32))) fun y10 => some (.inl (s0, y10))
noncomputable def M_ghosts_b79 (x4 : Int32) (x5 : Int32) (x6 : Int32) (x7 : Int32) (h : Hp) : Option ((Int32 × Int32) ⊕ (Int32 × Hp)) := if (h.1 251 24) ≤ x7 then (((M_ghosts_j124 x4 x5 x6 h).map Sum.inr)) else ((M_crowdOf h x7).bind fun r12 => (M_ones r12).bind fun r13 => (M_crowdOf h x6).bind fun r14 => (M_ones r14).bind fun r15 => if r13 ≤ r15 then ((M_ghosts_j116 x4 x5 x7 x6 h)) else ((M_ghosts_j116 x4 x5 x7 x7 h)))
noncomputable def M_ghosts_l79 (x4 : Int32) (x5 : Int32) (x6 : Int32) (x7 : Int32) (h : Hp) : Option (Int32 × Hp) := lp (fun s : (Int32 × Int32) => M_ghosts_b79 x4 x5 s.1 s.2 h) (x6, x7)
theorem M_ghosts_l79_eq (x4 : Int32) (x5 : Int32) (x6 : Int32) (x7 : Int32) (h : Hp) : M_ghosts_l79 x4 x5 x6 x7 h = (M_ghosts_b79 x4 x5 x6 x7 h).bind (Sum.elim (fun q : (Int32 × Int32) => M_ghosts_l79 x4 x5 q.1 q.2 h) some) := lp_eq _ _
noncomputable def M_ghosts_j76 (x4 : Int32) (x5 : Int32) (x6 : Int32) (h : Hp) : Option (Int32 × Hp) := (M_ghosts_l79 x4 x5 x6 (1 : Int32) h)
noncomputable def M_ghosts_j68 (x4 : Int32) (x6 : Int32) (x7 : Int32) (s0 : Int32) (h : Hp) : Option ((Int32 × Int32) ⊕ (Int32 × Hp)) := bnd ((x7 + (1 : Int32))) fun y17 => some (.inl (s0, y17))
noncomputable def M_ghosts_b37 (x4 : Int32) (x5 : Int32) (x6 : Int32) (x7 : Int32) (h : Hp) : Option ((Int32 × Int32) ⊕ (Int32 × Hp)) := if (h.1 251 25) ≤ x7 then (((M_ghosts_j76 x4 x5 x6 h).map Sum.inr)) else ((M_pastsOf h x7).bind fun r19 => (M_pastsOf h x5).bind fun r20 => if r19 ≤ r20 then ((M_ghosts_j68 x4 x6 x7 x5 h)) else ((M_ghosts_j68 x4 x6 x7 x7 h)))
noncomputable def M_ghosts_l37 (x4 : Int32) (x5 : Int32) (x6 : Int32) (x7 : Int32) (h : Hp) : Option (Int32 × Hp) := lp (fun s : (Int32 × Int32) => M_ghosts_b37 x4 s.1 x6 s.2 h) (x5, x7)
theorem M_ghosts_l37_eq (x4 : Int32) (x5 : Int32) (x6 : Int32) (x7 : Int32) (h : Hp) : M_ghosts_l37 x4 x5 x6 x7 h = (M_ghosts_b37 x4 x5 x6 x7 h).bind (Sum.elim (fun q : (Int32 × Int32) => M_ghosts_l37 x4 q.1 x6 q.2 h) some) := lp_eq _ _
noncomputable def M_ghosts (h : Hp) (x1 : Int32) (x2 : Int32) (x3 : Int32) (x4 : Int32) : Option (Int32 × Hp) := bnd (wr h 251 0 (0 : Int32)) fun h22 => (M_in x4 (0 : Int32) (3 : Int32)).bind fun r23 => if r23 = 0 then ((M_ghosts_j25 h22)) else ((M_layState h22 x1 x2 x3).bind fun (r25, h26) => if r25 = 0 then ((M_ghosts_j25 h26)) else ((M_ghosts_l37 x4 (0 : Int32) (0 : Int32) (1 : Int32) h26)))
set_option maxRecDepth 100000 in
set_option maxHeartbeats 4000000 in
theorem c_M_ghosts {E : En} {d : Nat} (h : Hp) (x1 : Int32) (x2 : Int32) (x3 : Int32) (x4 : Int32) {P : (Int32 × Hp) → Prop} (hO : Okk (M_ghosts h x1 x2 x3 x4) P) : Cn E (d + 9) z_M_ghosts [.ref 251, .int x1, .int x2, .int x3, .int x4] h (RI P) := by
  refine cn_of (on := 12) (d := d + 8) ⟨rfl, by decide +kernel, Nat.le_of_ble_eq_true rfl⟩ (fun G hG => ?_)
  unfold M_ghosts at hO
  show G 0 [(0, .ref 251), (1, .int x1), (2, .int x2), (3, .int x3), (4, .int x4)] [] h
  have j25 : ∀ (h : Hp), Okk (M_ghosts_j25 h) P → G 25 [] [] h := by
    intro h hO
    unfold M_ghosts_j25 at hO
    refine rb hG 4 25 27 [.ldc_w 0] [-2] [] [] [.int (-2 : Int32)] h [] (by decide +kernel) rfl trivial ?_
    exact eI hG 27 (by decide +kernel) rfl ⟨(-2 : Int32), rfl, ok_some (Q := P) hO⟩
  have j189 : ∀ (s0 : Int32) (h : Hp), Okk (M_ghosts_j189 s0 h) P → G 189 [] [.int s0] h := by
    intro s0 h hO
    unfold M_ghosts_j189 at hO
    exact eI hG 189 (by decide +kernel) rfl ⟨s0, rfl, ok_some (Q := P) hO⟩
  have j157 : ∀ (s0 : Int32) (h : Hp), Okk (M_ghosts_j157 s0 h) P → G 157 [] [.int s0] h := by
    intro s0 h hO
    unfold M_ghosts_j157 at hO
    exact eI hG 157 (by decide +kernel) rfl ⟨s0, rfl, ok_some (Q := P) hO⟩
  have j124 : ∀ (x5 : Int32) (x6 : Int32) (h : Hp), Okk (M_ghosts_j124 x4 x5 x6 h) P → G 124 [(0, .ref 251), (4, .int x4), (5, .int x5), (6, .int x6)] [] h := by
    intro x5 x6 h hO
    unfold M_ghosts_j124 at hO
    refine rb hG 5 124 127 [.iload 4, .ldc_w 0] [2] [] [(0, .ref 251), (4, .int x4), (5, .int x5), (6, .int x6)] [.int (2 : Int32), .int x4] h [] (by decide +kernel) rfl trivial ?_
    refine rj hG .ge (31) 158 127 (by decide +kernel) (by decide) (fun c1 => ?_) (fun c1 => ?_)
    · have hO := ok_pos c1 hO
      refine rb hG 5 158 162 [.aload 0, .getfield 1224] [] [] [(0, .ref 251), (4, .int x4), (5, .int x5), (6, .int x6)] [.int (h.1 251 24)] h [kd 251 = 12] (by decide +kernel) rfl kd_251 ?_
      refine riN hG (7) 169 162 (by decide +kernel) (by decide) (fun c2 => ?_) (fun c2 => ?_)
      · have hO := ok_pos c2 hO
        refine rb hG 5 165 189 [.ldc_w 0] [-1] [] [(0, .ref 251), (4, .int x4), (5, .int x5), (6, .int x6)] [.int (-1 : Int32)] h [] (by decide +kernel) rfl trivial ?_
        refine rs hG [] [] rfl ?_
        exact j189 (-1 : Int32) h hO
      · have hO := ok_neg c2 hO
        refine rb hG 5 169 172 [.iload 4, .ldc_w 0] [2] [] [(0, .ref 251), (4, .int x4), (5, .int x5), (6, .int x6)] [.int (2 : Int32), .int x4] h [] (by decide +kernel) rfl trivial ?_
        refine rjN hG (8) 180 172 (by decide +kernel) (by decide) (fun c3 => ?_) (fun c3 => ?_)
        · have hO := ok_pos c3 hO
          refine rb hG 5 175 189 [.iload 6] [] [] [(0, .ref 251), (4, .int x4), (5, .int x5), (6, .int x6)] [.int x6] h [] (by decide +kernel) rfl trivial ?_
          refine rs hG [] [] rfl ?_
          exact j189 x6 h hO
        · have hO := ok_neg c3 hO
          refine rb hG 5 180 183 [.aload 0, .iload 6] [] [] [(0, .ref 251), (4, .int x4), (5, .int x5), (6, .int x6)] [.int x6, .ref 251] h [] (by decide +kernel) rfl trivial ?_
          refine rv hG z_M_crowdOf 513 1 183 251 [.int x6] [] (by decide +kernel) mk_M_crowdOf lk_12_513 rcv_251 rfl ⟨rfl, Nat.le_of_ble_eq_true rfl⟩ (c_M_crowdOf (d := d + 7) h x6 (ok_bind hO)) ?_
          rintro _ _ ⟨r4, rfl, rfl, hO⟩
          refine rt hG z_M_ones 347 1 186 [.int r4] [] (by decide +kernel) mk_M_ones lk_12_347 rfl ⟨rfl, Nat.le_of_ble_eq_true rfl⟩ (c_M_ones (d := d + 6) h r4 (ok_bind hO)) ?_
          rintro _ _ ⟨r5, rfl, rfl, hO⟩
          refine rs hG [] [] rfl ?_
          exact j189 r5 h hO
    · have hO := ok_neg c1 hO
      refine rb hG 4 130 131 [.aload 0] [] [] [(0, .ref 251), (4, .int x4), (5, .int x5), (6, .int x6)] [.ref 251] h [] (by decide +kernel) rfl trivial ?_
      refine rv hG z_M_allPasts 516 0 131 251 [] [] (by decide +kernel) mk_M_allPasts lk_12_516 rcv_251 rfl ⟨rfl, Nat.le_of_ble_eq_true rfl⟩ (c_M_allPasts (d := d + 7) h (ok_bind hO)) ?_
      rintro _ _ ⟨r6, rfl, rfl, hO⟩
      refine riN hG (7) 141 134 (by decide +kernel) (by decide) (fun c7 => ?_) (fun c7 => ?_)
      · have hO := ok_pos c7 hO
        refine rb hG 5 137 157 [.ldc_w 0] [-1] [] [(0, .ref 251), (4, .int x4), (5, .int x5), (6, .int x6)] [.int (-1 : Int32)] h [] (by decide +kernel) rfl trivial ?_
        refine rs hG [] [] rfl ?_
        exact j157 (-1 : Int32) h hO
      · have hO := ok_neg c7 hO
        refine rb hG 4 141 143 [.iload 4] [] [] [(0, .ref 251), (4, .int x4), (5, .int x5), (6, .int x6)] [.int x4] h [] (by decide +kernel) rfl trivial ?_
        refine riN hG (8) 151 143 (by decide +kernel) (by decide) (fun c8 => ?_) (fun c8 => ?_)
        · have hO := ok_pos c8 hO
          refine rb hG 5 146 157 [.iload 5] [] [] [(0, .ref 251), (4, .int x4), (5, .int x5), (6, .int x6)] [.int x5] h [] (by decide +kernel) rfl trivial ?_
          refine rs hG [] [] rfl ?_
          exact j157 x5 h hO
        · have hO := ok_neg c8 hO
          refine rb hG 5 151 154 [.aload 0, .iload 5] [] [] [(0, .ref 251), (4, .int x4), (5, .int x5), (6, .int x6)] [.int x5, .ref 251] h [] (by decide +kernel) rfl trivial ?_
          refine rv hG z_M_pastsOf 510 1 154 251 [.int x5] [] (by decide +kernel) mk_M_pastsOf lk_12_510 rcv_251 rfl ⟨rfl, Nat.le_of_ble_eq_true rfl⟩ (c_M_pastsOf (d := d + 6) h x5 (ok_bind hO)) ?_
          rintro _ _ ⟨r9, rfl, rfl, hO⟩
          refine rs hG [] [] rfl ?_
          exact j157 r9 h hO
  have l79 : ∀ (x5 : Int32) (x6 : Int32) (x7 : Int32) (h : Hp), Okk (M_ghosts_l79 x4 x5 x6 x7 h) P → G 79 [(0, .ref 251), (4, .int x4), (5, .int x5), (6, .int x6), (7, .int x7)] [] h := by
    intro x5 x6 x7 h hO
    obtain ⟨H79, eH79⟩ : ∃ q : (Int32 × Int32) → Prop, q = fun s => G 79 [(0, .ref 251), (4, .int x4), (5, .int x5), (6, .int (s.1)), (7, .int (s.2))] [] (h) := ⟨_, rfl⟩
    have w9 : H79 (x6, x7) := by
      refine lp_wp (f := fun s : (Int32 × Int32) => M_ghosts_b79 x4 x5 s.1 s.2 h) (H := H79) (Q := P) ?_ (x6, x7) hO
      rintro ⟨x6, x7⟩ hO
      rw [eH79]
      show G 79 [(0, .ref 251), (4, .int x4), (5, .int x5), (6, .int x6), (7, .int x7)] [] h
      have k79 : ∀ s : (Int32 × Int32), H79 s → G 79 [(0, .ref 251), (4, .int x4), (5, .int x5), (6, .int (s.1)), (7, .int (s.2))] [] (h) := fun s q => by rw [eH79] at q; exact q
      replace hO : Okk (M_ghosts_b79 x4 x5 x6 x7 h) (Sum.elim H79 P) := hO
      clear eH79
      have j116 : ∀ (x7 : Int32) (s0 : Int32), Okk (M_ghosts_j116 x4 x5 x7 s0 h) (Sum.elim H79 P) → G 116 [(0, .ref 251), (4, .int x4), (5, .int x5), (7, .int x7)] [.int s0] h := by
        intro x7 s0 hO
        unfold M_ghosts_j116 at hO
        refine rbx hG 5 116 121 [.istore 6, .iinc 7 0] [1] [] ((x7 + (1 : Int32))) (fun y10 => [(7, .int y10), (6, .int s0), (0, .ref 251), (4, .int x4), (5, .int x5)]) (fun y10 => []) (fun y10 => h) [] (by decide +kernel) rfl trivial hO (fun y10 hO => ?_)
        refine rb hG 4 121 79 [] [] [] [(7, .int y10), (6, .int s0), (0, .ref 251), (4, .int x4), (5, .int x5)] [] h [] (by decide +kernel) rfl trivial ?_
        refine rs hG [(0, .ref 251), (4, .int x4), (5, .int x5), (6, .int s0), (7, .int y10)] [2, 3, 4, 1, 0] rfl ?_
        exact k79 (s0, y10) (ok_some (Q := (Sum.elim H79 P)) hO)
      unfold M_ghosts_b79 at hO
      refine rb hG 6 79 85 [.iload 7, .aload 0, .getfield 1224] [] [] [(0, .ref 251), (4, .int x4), (5, .int x5), (6, .int x6), (7, .int x7)] [.int (h.1 251 24), .int x7] h [kd 251 = 12] (by decide +kernel) rfl kd_251 ?_
      refine rj hG .ge (39) 124 85 (by decide +kernel) (by decide) (fun c11 => ?_) (fun c11 => ?_)
      · have hO := ok_pos c11 hO
        refine rs hG [(0, .ref 251), (4, .int x4), (5, .int x5), (6, .int x6)] [0, 1, 2, 3] rfl ?_
        exact j124 x5 x6 h (ok_inr hO)
      · have hO := ok_neg c11 hO
        refine rb hG 5 88 91 [.aload 0, .iload 7] [] [] [(0, .ref 251), (4, .int x4), (5, .int x5), (6, .int x6), (7, .int x7)] [.int x7, .ref 251] h [] (by decide +kernel) rfl trivial ?_
        refine rv hG z_M_crowdOf 513 1 91 251 [.int x7] [] (by decide +kernel) mk_M_crowdOf lk_12_513 rcv_251 rfl ⟨rfl, Nat.le_of_ble_eq_true rfl⟩ (c_M_crowdOf (d := d + 7) h x7 (ok_bind hO)) ?_
        rintro _ _ ⟨r12, rfl, rfl, hO⟩
        refine rt hG z_M_ones 347 1 94 [.int r12] [] (by decide +kernel) mk_M_ones lk_12_347 rfl ⟨rfl, Nat.le_of_ble_eq_true rfl⟩ (c_M_ones (d := d + 6) h r12 (ok_bind hO)) ?_
        rintro _ _ ⟨r13, rfl, rfl, hO⟩
        refine rb hG 5 97 100 [.aload 0, .iload 6] [] [] [(0, .ref 251), (4, .int x4), (5, .int x5), (6, .int x6), (7, .int x7)] [.int x6, .ref 251, .int r13] h [] (by decide +kernel) rfl trivial ?_
        refine rv hG z_M_crowdOf 513 1 100 251 [.int x6] [.int r13] (by decide +kernel) mk_M_crowdOf lk_12_513 rcv_251 rfl ⟨rfl, Nat.le_of_ble_eq_true rfl⟩ (c_M_crowdOf (d := d + 7) h x6 (ok_bind hO)) ?_
        rintro _ _ ⟨r14, rfl, rfl, hO⟩
        refine rt hG z_M_ones 347 1 103 [.int r14] [.int r13] (by decide +kernel) mk_M_ones lk_12_347 rfl ⟨rfl, Nat.le_of_ble_eq_true rfl⟩ (c_M_ones (d := d + 6) h r14 (ok_bind hO)) ?_
        rintro _ _ ⟨r15, rfl, rfl, hO⟩
        refine rj hG .le (8) 114 106 (by decide +kernel) (by decide) (fun c16 => ?_) (fun c16 => ?_)
        · have hO := ok_pos c16 hO
          refine rb hG 4 114 116 [.iload 6] [] [] [(0, .ref 251), (4, .int x4), (5, .int x5), (6, .int x6), (7, .int x7)] [.int x6] h [] (by decide +kernel) rfl trivial ?_
          refine rs hG [(0, .ref 251), (4, .int x4), (5, .int x5), (7, .int x7)] [0, 1, 2, 4] rfl ?_
          exact j116 x7 x6 hO
        · have hO := ok_neg c16 hO
          refine rb hG 5 109 116 [.iload 7] [] [] [(0, .ref 251), (4, .int x4), (5, .int x5), (6, .int x6), (7, .int x7)] [.int x7] h [] (by decide +kernel) rfl trivial ?_
          refine rs hG [(0, .ref 251), (4, .int x4), (5, .int x5), (7, .int x7)] [0, 1, 2, 4] rfl ?_
          exact j116 x7 x7 hO
    rw [eH79] at w9
    exact w9
  have j76 : ∀ (x5 : Int32) (x6 : Int32) (h : Hp), Okk (M_ghosts_j76 x4 x5 x6 h) P → G 76 [(0, .ref 251), (4, .int x4), (5, .int x5), (6, .int x6)] [] h := by
    intro x5 x6 h hO
    unfold M_ghosts_j76 at hO
    refine rb hG 5 76 79 [.ldc_w 0, .istore 7] [1] [] [(7, .int (1 : Int32)), (0, .ref 251), (4, .int x4), (5, .int x5), (6, .int x6)] [] h [] (by decide +kernel) rfl trivial ?_
    refine rs hG [(0, .ref 251), (4, .int x4), (5, .int x5), (6, .int x6), (7, .int (1 : Int32))] [1, 2, 3, 4, 0] rfl ?_
    exact l79 x5 x6 (1 : Int32) h hO
  have l37 : ∀ (x5 : Int32) (x6 : Int32) (x7 : Int32) (h : Hp), Okk (M_ghosts_l37 x4 x5 x6 x7 h) P → G 37 [(0, .ref 251), (4, .int x4), (5, .int x5), (6, .int x6), (7, .int x7)] [] h := by
    intro x5 x6 x7 h hO
    obtain ⟨H37, eH37⟩ : ∃ q : (Int32 × Int32) → Prop, q = fun s => G 37 [(0, .ref 251), (4, .int x4), (5, .int (s.1)), (6, .int x6), (7, .int (s.2))] [] (h) := ⟨_, rfl⟩
    have w9 : H37 (x5, x7) := by
      refine lp_wp (f := fun s : (Int32 × Int32) => M_ghosts_b37 x4 s.1 x6 s.2 h) (H := H37) (Q := P) ?_ (x5, x7) hO
      rintro ⟨x5, x7⟩ hO
      rw [eH37]
      show G 37 [(0, .ref 251), (4, .int x4), (5, .int x5), (6, .int x6), (7, .int x7)] [] h
      have k37 : ∀ s : (Int32 × Int32), H37 s → G 37 [(0, .ref 251), (4, .int x4), (5, .int (s.1)), (6, .int x6), (7, .int (s.2))] [] (h) := fun s q => by rw [eH37] at q; exact q
      replace hO : Okk (M_ghosts_b37 x4 x5 x6 x7 h) (Sum.elim H37 P) := hO
      clear eH37
      have j68 : ∀ (x7 : Int32) (s0 : Int32), Okk (M_ghosts_j68 x4 x6 x7 s0 h) (Sum.elim H37 P) → G 68 [(0, .ref 251), (4, .int x4), (6, .int x6), (7, .int x7)] [.int s0] h := by
        intro x7 s0 hO
        unfold M_ghosts_j68 at hO
        refine rbx hG 5 68 73 [.istore 5, .iinc 7 0] [1] [] ((x7 + (1 : Int32))) (fun y17 => [(7, .int y17), (5, .int s0), (0, .ref 251), (4, .int x4), (6, .int x6)]) (fun y17 => []) (fun y17 => h) [] (by decide +kernel) rfl trivial hO (fun y17 hO => ?_)
        refine rb hG 4 73 37 [] [] [] [(7, .int y17), (5, .int s0), (0, .ref 251), (4, .int x4), (6, .int x6)] [] h [] (by decide +kernel) rfl trivial ?_
        refine rs hG [(0, .ref 251), (4, .int x4), (5, .int s0), (6, .int x6), (7, .int y17)] [2, 3, 1, 4, 0] rfl ?_
        exact k37 (s0, y17) (ok_some (Q := (Sum.elim H37 P)) hO)
      unfold M_ghosts_b37 at hO
      refine rb hG 6 37 43 [.iload 7, .aload 0, .getfield 1225] [] [] [(0, .ref 251), (4, .int x4), (5, .int x5), (6, .int x6), (7, .int x7)] [.int (h.1 251 25), .int x7] h [kd 251 = 12] (by decide +kernel) rfl kd_251 ?_
      refine rj hG .ge (33) 76 43 (by decide +kernel) (by decide) (fun c18 => ?_) (fun c18 => ?_)
      · have hO := ok_pos c18 hO
        refine rs hG [(0, .ref 251), (4, .int x4), (5, .int x5), (6, .int x6)] [0, 1, 2, 3] rfl ?_
        exact j76 x5 x6 h (ok_inr hO)
      · have hO := ok_neg c18 hO
        refine rb hG 5 46 49 [.aload 0, .iload 7] [] [] [(0, .ref 251), (4, .int x4), (5, .int x5), (6, .int x6), (7, .int x7)] [.int x7, .ref 251] h [] (by decide +kernel) rfl trivial ?_
        refine rv hG z_M_pastsOf 510 1 49 251 [.int x7] [] (by decide +kernel) mk_M_pastsOf lk_12_510 rcv_251 rfl ⟨rfl, Nat.le_of_ble_eq_true rfl⟩ (c_M_pastsOf (d := d + 6) h x7 (ok_bind hO)) ?_
        rintro _ _ ⟨r19, rfl, rfl, hO⟩
        refine rb hG 5 52 55 [.aload 0, .iload 5] [] [] [(0, .ref 251), (4, .int x4), (5, .int x5), (6, .int x6), (7, .int x7)] [.int x5, .ref 251, .int r19] h [] (by decide +kernel) rfl trivial ?_
        refine rv hG z_M_pastsOf 510 1 55 251 [.int x5] [.int r19] (by decide +kernel) mk_M_pastsOf lk_12_510 rcv_251 rfl ⟨rfl, Nat.le_of_ble_eq_true rfl⟩ (c_M_pastsOf (d := d + 6) h x5 (ok_bind hO)) ?_
        rintro _ _ ⟨r20, rfl, rfl, hO⟩
        refine rj hG .le (8) 66 58 (by decide +kernel) (by decide) (fun c21 => ?_) (fun c21 => ?_)
        · have hO := ok_pos c21 hO
          refine rb hG 4 66 68 [.iload 5] [] [] [(0, .ref 251), (4, .int x4), (5, .int x5), (6, .int x6), (7, .int x7)] [.int x5] h [] (by decide +kernel) rfl trivial ?_
          refine rs hG [(0, .ref 251), (4, .int x4), (6, .int x6), (7, .int x7)] [0, 1, 3, 4] rfl ?_
          exact j68 x7 x5 hO
        · have hO := ok_neg c21 hO
          refine rb hG 5 61 68 [.iload 7] [] [] [(0, .ref 251), (4, .int x4), (5, .int x5), (6, .int x6), (7, .int x7)] [.int x7] h [] (by decide +kernel) rfl trivial ?_
          refine rs hG [(0, .ref 251), (4, .int x4), (6, .int x6), (7, .int x7)] [0, 1, 3, 4] rfl ?_
          exact j68 x7 x7 hO
    rw [eH37] at w9
    exact w9
  refine rbx hG 6 0 5 [.aload 0, .ldc_w 0, .putfield 1200] [0] [] (wr h 251 0 (0 : Int32)) (fun h22 => [(0, .ref 251), (1, .int x1), (2, .int x2), (3, .int x3), (4, .int x4)]) (fun h22 => []) (fun h22 => h22) [kd 251 = 12] (by decide +kernel) rfl kd_251 hO (fun h22 hO => ?_)
  refine rb hG 6 5 9 [.iload 4, .ldc_w 0, .ldc_w 1] [0, 3] [] [(0, .ref 251), (1, .int x1), (2, .int x2), (3, .int x3), (4, .int x4)] [.int (3 : Int32), .int (0 : Int32), .int x4] h22 [] (by decide +kernel) rfl trivial ?_
  refine rt hG z_M_in 111 3 9 [.int x4, .int (0 : Int32), .int (3 : Int32)] [] (by decide +kernel) mk_M_in lk_12_111 rfl ⟨rfl, Nat.le_of_ble_eq_true rfl⟩ (c_M_in (d := d + 7) h22 x4 (0 : Int32) (3 : Int32) (ok_bind hO)) ?_
  rintro _ _ ⟨r23, rfl, rfl, hO⟩
  refine ri hG .eq (13) 25 12 (by decide +kernel) (by decide) (fun c24 => ?_) (fun c24 => ?_)
  · have hO := ok_pos c24 hO
    refine rs hG [] [] rfl ?_
    exact j25 h22 hO
  · have hO := ok_neg c24 hO
    refine rb hG 7 15 19 [.aload 0, .iload 1, .iload 2, .iload 3] [] [] [(0, .ref 251), (1, .int x1), (2, .int x2), (3, .int x3), (4, .int x4)] [.int x3, .int x2, .int x1, .ref 251] h22 [] (by decide +kernel) rfl trivial ?_
    refine rv hG z_M_layState 380 3 19 251 [.int x1, .int x2, .int x3] [] (by decide +kernel) mk_M_layState lk_12_380 rcv_251 rfl ⟨rfl, Nat.le_of_ble_eq_true rfl⟩ (c_M_layState (d := d) h22 x1 x2 x3 (ok_bind hO)) ?_
    rintro _ h26 ⟨r25, rfl, hO⟩
    refine riN hG (6) 28 22 (by decide +kernel) (by decide) (fun c27 => ?_) (fun c27 => ?_)
    · have hO := ok_pos c27 hO
      refine rs hG [] [] rfl ?_
      exact j25 h26 hO
    · have hO := ok_neg c27 hO
      refine rb hG 9 28 37 [.ldc_w 0, .istore 5, .ldc_w 0, .istore 6, .ldc_w 1, .istore 7] [0, 1] [] [(7, .int (1 : Int32)), (6, .int (0 : Int32)), (5, .int (0 : Int32)), (0, .ref 251), (1, .int x1), (2, .int x2), (3, .int x3), (4, .int x4)] [] h26 [] (by decide +kernel) rfl trivial ?_
      refine rs hG [(0, .ref 251), (4, .int x4), (5, .int (0 : Int32)), (6, .int (0 : Int32)), (7, .int (1 : Int32))] [3, 7, 2, 1, 0] rfl ?_
      exact l37 (0 : Int32) (0 : Int32) (1 : Int32) h26 hO
/-! GrainInn.Rounds.untilForgotten(LGrainInn$State;II)I -/
noncomputable def N_untilForgotten_j55 (x1 : Nat) (x4 : Int32) (h : Hp) : Option (Int32 × Hp) := some (x4, h)
noncomputable def N_untilForgotten_b9 (x1 : Nat) (x2 : Int32) (x3 : Int32) (x4 : Int32) (h : Hp) : Option ((Int32 × Hp) ⊕ (Int32 × Hp)) := if (6 : Int32) ≤ x4 then (((N_untilForgotten_j55 x1 x4 h).map Sum.inr)) else ((B_allGuests h 91).bind fun r2 => (K_isIn r2 x3).bind fun r3 => if r3 = 0 then (((N_untilForgotten_j55 x1 x4 h).map Sum.inr)) else (if x1 = 57 then (if kd (Int32.toNatClampNeg (h.1 57 6)) = 1 then ((H_keepsOf h (Int32.toNatClampNeg (h.1 57 6)) x2).bind fun r7 => (B_sitQuietly h 91 (h.1 57 7) r7).bind fun h8 => bnd ((x4 + (1 : Int32))) fun y9 => some (.inl (y9, h8))) else none) else none))
noncomputable def N_untilForgotten_l9 (x1 : Nat) (x2 : Int32) (x3 : Int32) (x4 : Int32) (h : Hp) : Option (Int32 × Hp) := lp (fun s : (Int32 × Hp) => N_untilForgotten_b9 x1 x2 x3 s.1 s.2) (x4, h)
theorem N_untilForgotten_l9_eq (x1 : Nat) (x2 : Int32) (x3 : Int32) (x4 : Int32) (h : Hp) : N_untilForgotten_l9 x1 x2 x3 x4 h = (N_untilForgotten_b9 x1 x2 x3 x4 h).bind (Sum.elim (fun q : (Int32 × Hp) => N_untilForgotten_l9 x1 x2 x3 q.1 q.2) some) := lp_eq _ _
noncomputable def N_untilForgotten (h : Hp) (x1 : Nat) (x2 : Int32) (x3 : Int32) : Option (Int32 × Hp) := (N_tryFrom h x1 x2).bind fun h10 => (N_untilForgotten_l9 x1 x2 x3 (0 : Int32) h10)
set_option maxRecDepth 100000 in
set_option maxHeartbeats 4000000 in
theorem c_N_untilForgotten {E : En} {d : Nat} (h : Hp) (x1 : Nat) (x2 : Int32) (x3 : Int32) {P : (Int32 × Hp) → Prop} (hO : Okk (N_untilForgotten h x1 x2 x3) P) : Cn E (d + 4) z_N_untilForgotten [.ref 90, .ref x1, .int x2, .int x3] h (RI P) := by
  refine cn_of (on := 5) (d := d + 3) ⟨rfl, by decide +kernel, Nat.le_of_ble_eq_true rfl⟩ (fun G hG => ?_)
  unfold N_untilForgotten at hO
  show G 0 [(0, .ref 90), (1, .ref x1), (2, .int x2), (3, .int x3)] [] h
  have j55 : ∀ (x4 : Int32) (h : Hp), Okk (N_untilForgotten_j55 x1 x4 h) P → G 55 [(4, .int x4)] [] h := by
    intro x4 h hO
    unfold N_untilForgotten_j55 at hO
    refine rb hG 4 55 57 [.iload 4] [] [] [(4, .int x4)] [.int x4] h [] (by decide +kernel) rfl trivial ?_
    exact eI hG 57 (by decide +kernel) rfl ⟨x4, rfl, ok_some (Q := P) hO⟩
  have l9 : ∀ (x4 : Int32) (h : Hp), Okk (N_untilForgotten_l9 x1 x2 x3 x4 h) P → G 9 [(0, .ref 90), (1, .ref x1), (2, .int x2), (3, .int x3), (4, .int x4)] [] h := by
    intro x4 h hO
    obtain ⟨H9, eH9⟩ : ∃ q : (Int32 × Hp) → Prop, q = fun s => G 9 [(0, .ref 90), (1, .ref x1), (2, .int x2), (3, .int x3), (4, .int (s.1))] [] (s.2) := ⟨_, rfl⟩
    have w9 : H9 (x4, h) := by
      refine lp_wp (f := fun s : (Int32 × Hp) => N_untilForgotten_b9 x1 x2 x3 s.1 s.2) (H := H9) (Q := P) ?_ (x4, h) hO
      rintro ⟨x4, h⟩ hO
      rw [eH9]
      show G 9 [(0, .ref 90), (1, .ref x1), (2, .int x2), (3, .int x3), (4, .int x4)] [] h
      have k9 : ∀ s : (Int32 × Hp), H9 s → G 9 [(0, .ref 90), (1, .ref x1), (2, .int x2), (3, .int x3), (4, .int (s.1))] [] (s.2) := fun s q => by rw [eH9] at q; exact q
      replace hO : Okk (N_untilForgotten_b9 x1 x2 x3 x4 h) (Sum.elim H9 P) := hO
      clear eH9
      unfold N_untilForgotten_b9 at hO
      refine rb hG 5 9 13 [.iload 4, .ldc_w 0] [6] [] [(0, .ref 90), (1, .ref x1), (2, .int x2), (3, .int x3), (4, .int x4)] [.int (6 : Int32), .int x4] h [] (by decide +kernel) rfl trivial ?_
      refine rj hG .ge (42) 55 13 (by decide +kernel) (by decide) (fun c1 => ?_) (fun c1 => ?_)
      · have hO := ok_pos c1 hO
        refine rs hG [(4, .int x4)] [4] rfl ?_
        exact j55 x4 h (ok_inr hO)
      · have hO := ok_neg c1 hO
        refine rb hG 5 16 20 [.aload 0, .invokeinterface 500 1] [] [] [(0, .ref 90), (1, .ref x1), (2, .int x2), (3, .int x3), (4, .int x4)] [.ref 91] h [kd 90 = 5] (by decide +kernel) rfl kd_90 ?_
        refine rv hG z_B_allGuests 95 0 20 91 [] [] (by decide +kernel) mk_B_allGuests lk_5_95 rcv_91 rfl ⟨rfl, Nat.le_of_ble_eq_true rfl⟩ (c_B_allGuests (d := d + 2) h 91 (ok_bind hO)) ?_
        rintro _ _ ⟨r2, rfl, rfl, hO⟩
        refine rb hG 4 23 24 [.iload 3] [] [] [(0, .ref 90), (1, .ref x1), (2, .int x2), (3, .int x3), (4, .int x4)] [.int x3, .int r2] h [] (by decide +kernel) rfl trivial ?_
        refine rt hG z_K_isIn 88 2 24 [.int r2, .int x3] [] (by decide +kernel) mk_K_isIn lk_5_88 rfl ⟨rfl, Nat.le_of_ble_eq_true rfl⟩ (c_K_isIn (d := d + 2) h r2 x3 (ok_bind hO)) ?_
        rintro _ _ ⟨r3, rfl, rfl, hO⟩
        refine ri hG .eq (28) 55 27 (by decide +kernel) (by decide) (fun c4 => ?_) (fun c4 => ?_)
        · have hO := ok_pos c4 hO
          refine rs hG [(4, .int x4)] [4] rfl ?_
          exact j55 x4 h (ok_inr hO)
        · have hO := ok_neg c4 hO
          obtain ⟨g5, hOg5⟩ := ok_if hO
          subst g5
          have hO := hOg5
          obtain ⟨g6, hO⟩ := ok_if hO
          refine rb hG 10 30 43 [.aload 0, .invokeinterface 500 1, .aload 1, .getfield 707, .aload 1, .instanceof 706, .iload 2] [] [] [(0, .ref 90), (1, .ref 57), (2, .int x2), (3, .int x3), (4, .int x4)] [.int x2, .ref (Int32.toNatClampNeg (h.1 57 6)), .int (h.1 57 7), .ref 91] h [kd 90 = 5, kd 57 = 7, kd 57 = 7] (by decide +kernel) rfl ⟨kd_90, kd_57, kd_57⟩ ?_
          refine rv hG z_H_keepsOf 68 1 43 (Int32.toNatClampNeg (h.1 57 6)) [.int x2] [.int (h.1 57 7), .ref 91] (by decide +kernel) mk_H_keepsOf lk_5_68 (rcv_H g6) rfl ⟨rfl, Nat.le_of_ble_eq_true rfl⟩ (c_H_keepsOf (d := d + 1) h (Int32.toNatClampNeg (h.1 57 6)) x2 (ok_bind hO)) ?_
          rintro _ _ ⟨r7, rfl, rfl, hO⟩
          refine rv hG z_B_sitQuietly 92 2 46 91 [.int (h.1 57 7), .int r7] [] (by decide +kernel) mk_B_sitQuietly lk_5_92 rcv_91 rfl ⟨rfl, Nat.le_of_ble_eq_true rfl⟩ (c_B_sitQuietly (d := d + 1) h 91 (h.1 57 7) r7 (ok_bind hO)) ?_
          rintro _ h8 ⟨rfl, hO⟩
          refine rbx hG 4 49 52 [.iinc 4 0] [1] [] ((x4 + (1 : Int32))) (fun y9 => [(4, .int y9), (0, .ref 90), (1, .ref 57), (2, .int x2), (3, .int x3)]) (fun y9 => []) (fun y9 => h8) [] (by decide +kernel) rfl trivial hO (fun y9 hO => ?_)
          refine rb hG 4 52 9 [] [] [] [(4, .int y9), (0, .ref 90), (1, .ref 57), (2, .int x2), (3, .int x3)] [] h8 [] (by decide +kernel) rfl trivial ?_
          refine rs hG [(0, .ref 90), (1, .ref 57), (2, .int x2), (3, .int x3), (4, .int y9)] [1, 2, 3, 4, 0] rfl ?_
          exact k9 (y9, h8) (ok_some (Q := (Sum.elim H9 P)) hO)
    rw [eH9] at w9
    exact w9
  refine rb hG 6 0 3 [.aload 0, .aload 1, .iload 2] [] [] [(0, .ref 90), (1, .ref x1), (2, .int x2), (3, .int x3)] [.int x2, .ref x1, .ref 90] h [] (by decide +kernel) rfl trivial ?_
  refine rv hG z_N_tryFrom 78 2 3 90 [.ref x1, .int x2] [] (by decide +kernel) mk_N_tryFrom lk_5_78 rcv_90 rfl ⟨rfl, Nat.le_of_ble_eq_true rfl⟩ (c_N_tryFrom (d := d) h x1 x2 (ok_bind hO)) ?_
  rintro _ h10 ⟨rfl, hO⟩
  refine rb hG 5 6 9 [.ldc_w 0, .istore 4] [0] [] [(4, .int (0 : Int32)), (0, .ref 90), (1, .ref x1), (2, .int x2), (3, .int x3)] [] h10 [] (by decide +kernel) rfl trivial ?_
  refine rs hG [(0, .ref 90), (1, .ref x1), (2, .int x2), (3, .int x3), (4, .int (0 : Int32))] [1, 2, 3, 4, 0] rfl ?_
  exact l9 (0 : Int32) h10 hO
/-! GrainInn.forgets(IIIII)I -/
noncomputable def K_forgets_j40 (h : Hp) : Option (Int32 × Hp) := some ((-1 : Int32), h)
noncomputable def K_forgets (h : Hp) (x1 : Int32) (x2 : Int32) (x3 : Int32) (x4 : Int32) (x5 : Int32) : Option (Int32 × Hp) := (K_reach h x1 x2 x3).bind fun (r1, h2) => if r1 = 0 then ((K_forgets_j40 h2)) else (if r1 = 57 then (if kd (Int32.toNatClampNeg (h2.1 57 6)) = 1 then ((H_hasTable h2 (Int32.toNatClampNeg (h2.1 57 6)) x4).bind fun r6 => if r6 = 0 then ((K_forgets_j40 h2)) else ((H_hasGuest h2 (Int32.toNatClampNeg (h2.1 57 6)) x5).bind fun r8 => if r8 = 0 then ((K_forgets_j40 h2)) else ((N_untilForgotten h2 57 x4 x5).bind fun (r10, h11) => some (r10, h11)))) else none) else none)
set_option maxRecDepth 100000 in
set_option maxHeartbeats 4000000 in
theorem c_K_forgets {E : En} {d : Nat} (h : Hp) (x1 : Int32) (x2 : Int32) (x3 : Int32) (x4 : Int32) (x5 : Int32) {P : (Int32 × Hp) → Prop} (hO : Okk (K_forgets h x1 x2 x3 x4 x5) P) : Cn E (d + 8) z_K_forgets [.ref 1, .int x1, .int x2, .int x3, .int x4, .int x5] h (RI P) := by
  refine cn_of (on := 11) (d := d + 7) ⟨rfl, by decide +kernel, Nat.le_of_ble_eq_true rfl⟩ (fun G hG => ?_)
  unfold K_forgets at hO
  show G 0 [(0, .ref 1), (1, .int x1), (2, .int x2), (3, .int x3), (4, .int x4), (5, .int x5)] [] h
  have j40 : ∀ (h : Hp), Okk (K_forgets_j40 h) P → G 40 [] [] h := by
    intro h hO
    unfold K_forgets_j40 at hO
    refine rb hG 4 40 41 [.ldc_w 0] [-1] [] [] [.int (-1 : Int32)] h [] (by decide +kernel) rfl trivial ?_
    exact eI hG 41 (by decide +kernel) rfl ⟨(-1 : Int32), rfl, ok_some (Q := P) hO⟩
  refine rb hG 7 0 4 [.aload 0, .iload 1, .iload 2, .iload 3] [] [] [(0, .ref 1), (1, .int x1), (2, .int x2), (3, .int x3), (4, .int x4), (5, .int x5)] [.int x3, .int x2, .int x1, .ref 1] h [] (by decide +kernel) rfl trivial ?_
  refine rv hG z_K_reach 155 3 4 1 [.int x1, .int x2, .int x3] [] (by decide +kernel) mk_K_reach lk_11_155 rcv_1 rfl ⟨rfl, Nat.le_of_ble_eq_true rfl⟩ (c_K_reach (d := d) h x1 x2 x3 (ok_bind hO)) ?_
  rintro _ h2 ⟨r1, rfl, hO⟩
  refine rb hG 5 7 11 [.astore 6, .aload 6] [] [] [(6, .ref r1), (0, .ref 1), (1, .int x1), (2, .int x2), (3, .int x3), (4, .int x4), (5, .int x5)] [.ref r1] h2 [] (by decide +kernel) rfl trivial ?_
  refine rn hG (29) 40 11 (by decide +kernel) (by decide) (fun c3 => ?_) (fun c3 => ?_)
  · have hO := ok_pos c3 hO
    refine rs hG [] [] rfl ?_
    exact j40 h2 hO
  · have hO := ok_neg c3 hO
    obtain ⟨g4, hOg4⟩ := ok_if hO
    subst g4
    have hO := hOg4
    obtain ⟨g5, hO⟩ := ok_if hO
    refine rb hG 6 14 21 [.aload 6, .instanceof 706, .iload 4] [] [] [(6, .ref 57), (0, .ref 1), (1, .int x1), (2, .int x2), (3, .int x3), (4, .int x4), (5, .int x5)] [.int x4, .ref (Int32.toNatClampNeg (h2.1 57 6))] h2 [kd 57 = 7] (by decide +kernel) rfl kd_57 ?_
    refine rv hG z_H_hasTable 245 1 21 (Int32.toNatClampNeg (h2.1 57 6)) [.int x4] [] (by decide +kernel) mk_H_hasTable lk_11_245 (rcv_H g5) rfl ⟨rfl, Nat.le_of_ble_eq_true rfl⟩ (c_H_hasTable (d := d + 6) h2 (Int32.toNatClampNeg (h2.1 57 6)) x4 (ok_bind hO)) ?_
    rintro _ _ ⟨r6, rfl, rfl, hO⟩
    refine ri hG .eq (16) 40 24 (by decide +kernel) (by decide) (fun c7 => ?_) (fun c7 => ?_)
    · have hO := ok_pos c7 hO
      refine rs hG [] [] rfl ?_
      exact j40 h2 hO
    · have hO := ok_neg c7 hO
      refine rb hG 6 27 34 [.aload 6, .instanceof 706, .iload 5] [] [] [(6, .ref 57), (0, .ref 1), (1, .int x1), (2, .int x2), (3, .int x3), (4, .int x4), (5, .int x5)] [.int x5, .ref (Int32.toNatClampNeg (h2.1 57 6))] h2 [kd 57 = 7] (by decide +kernel) rfl kd_57 ?_
      refine rv hG z_H_hasGuest 183 1 34 (Int32.toNatClampNeg (h2.1 57 6)) [.int x5] [] (by decide +kernel) mk_H_hasGuest lk_11_183 (rcv_H g5) rfl ⟨rfl, Nat.le_of_ble_eq_true rfl⟩ (c_H_hasGuest (d := d + 6) h2 (Int32.toNatClampNeg (h2.1 57 6)) x5 (ok_bind hO)) ?_
      rintro _ _ ⟨r8, rfl, rfl, hO⟩
      refine riN hG (5) 42 37 (by decide +kernel) (by decide) (fun c9 => ?_) (fun c9 => ?_)
      · have hO := ok_pos c9 hO
        refine rs hG [] [] rfl ?_
        exact j40 h2 hO
      · have hO := ok_neg c9 hO
        refine rb hG 8 42 52 [.aload 0, .invokeinterface 1105 89, .aload 6, .iload 4, .iload 5] [] [] [(6, .ref 57), (0, .ref 1), (1, .int x1), (2, .int x2), (3, .int x3), (4, .int x4), (5, .int x5)] [.int x5, .int x4, .ref 57, .ref 90] h2 [kd 1 = 11] (by decide +kernel) rfl kd_1 ?_
        refine rv hG z_N_untilForgotten 335 3 52 90 [.ref 57, .int x4, .int x5] [] (by decide +kernel) mk_N_untilForgotten lk_11_335 rcv_90 rfl ⟨rfl, Nat.le_of_ble_eq_true rfl⟩ (c_N_untilForgotten (d := d + 3) h2 57 x4 x5 (ok_bind hO)) ?_
        rintro _ h11 ⟨r10, rfl, hO⟩
        exact eI hG 55 (by decide +kernel) rfl ⟨r10, rfl, ok_some (Q := P) hO⟩
/-! GrainInnModel.forgets(IIIII)I -/
noncomputable def M_forgets_j33 (h : Hp) : Option (Int32 × Hp) := some ((-1 : Int32), h)
noncomputable def M_forgets_j90 (x6 : Int32) (h : Hp) : Option (Int32 × Hp) := some (x6, h)
noncomputable def M_forgets_b54 (x4 : Int32) (x5 : Int32) (x6 : Int32) (h : Hp) : Option ((Int32 × Hp) ⊕ (Int32 × Hp)) := (M_crowdOf h x4).bind fun r1 => (M_has r1 x5).bind fun r2 => if r2 = 0 then (((M_forgets_j90 x6 h).map Sum.inr)) else (if inb x4 (ln 268) then (bnd (wr h 268 (Int32.toNatClampNeg x4) (256 : Int32)) fun h5 => (M_becomesPast h5 x4).bind fun h6 => bnd ((x6 + (1 : Int32))) fun y7 => some (.inl (y7, h6))) else none)
noncomputable def M_forgets_l54 (x4 : Int32) (x5 : Int32) (x6 : Int32) (h : Hp) : Option (Int32 × Hp) := lp (fun s : (Int32 × Hp) => M_forgets_b54 x4 x5 s.1 s.2) (x6, h)
theorem M_forgets_l54_eq (x4 : Int32) (x5 : Int32) (x6 : Int32) (h : Hp) : M_forgets_l54 x4 x5 x6 h = (M_forgets_b54 x4 x5 x6 h).bind (Sum.elim (fun q : (Int32 × Hp) => M_forgets_l54 x4 x5 q.1 q.2) some) := lp_eq _ _
noncomputable def M_forgets_j51 (x4 : Int32) (x5 : Int32) (h : Hp) : Option (Int32 × Hp) := (M_forgets_l54 x4 x5 (0 : Int32) h)
noncomputable def M_forgets (h : Hp) (x1 : Int32) (x2 : Int32) (x3 : Int32) (x4 : Int32) (x5 : Int32) : Option (Int32 × Hp) := bnd (wr h 251 0 (0 : Int32)) fun h8 => (M_layState h8 x1 x2 x3).bind fun (r9, h10) => if r9 = 0 then ((M_forgets_j33 h10)) else ((M_isTable h10 x4).bind fun r12 => if r12 = 0 then ((M_forgets_j33 h10)) else ((M_isGuest h10 x5).bind fun r14 => if r14 = 0 then ((M_forgets_j33 h10)) else (if inb x4 (ln 268) then (if (h10.1 268 (Int32.toNatClampNeg x4)) = 0 then ((M_forgets_j51 x4 x5 h10)) else ((M_becomesPast h10 x4).bind fun h18 => (M_forgets_j51 x4 x5 h18))) else none)))
set_option maxRecDepth 100000 in
set_option maxHeartbeats 4000000 in
theorem c_M_forgets {E : En} {d : Nat} (h : Hp) (x1 : Int32) (x2 : Int32) (x3 : Int32) (x4 : Int32) (x5 : Int32) {P : (Int32 × Hp) → Prop} (hO : Okk (M_forgets h x1 x2 x3 x4 x5) P) : Cn E (d + 9) z_M_forgets [.ref 251, .int x1, .int x2, .int x3, .int x4, .int x5] h (RI P) := by
  refine cn_of (on := 12) (d := d + 8) ⟨rfl, by decide +kernel, Nat.le_of_ble_eq_true rfl⟩ (fun G hG => ?_)
  unfold M_forgets at hO
  show G 0 [(0, .ref 251), (1, .int x1), (2, .int x2), (3, .int x3), (4, .int x4), (5, .int x5)] [] h
  have j33 : ∀ (h : Hp), Okk (M_forgets_j33 h) P → G 33 [] [] h := by
    intro h hO
    unfold M_forgets_j33 at hO
    refine rb hG 4 33 34 [.ldc_w 0] [-1] [] [] [.int (-1 : Int32)] h [] (by decide +kernel) rfl trivial ?_
    exact eI hG 34 (by decide +kernel) rfl ⟨(-1 : Int32), rfl, ok_some (Q := P) hO⟩
  have j90 : ∀ (x6 : Int32) (h : Hp), Okk (M_forgets_j90 x6 h) P → G 90 [(6, .int x6)] [] h := by
    intro x6 h hO
    unfold M_forgets_j90 at hO
    refine rb hG 4 90 92 [.iload 6] [] [] [(6, .int x6)] [.int x6] h [] (by decide +kernel) rfl trivial ?_
    exact eI hG 92 (by decide +kernel) rfl ⟨x6, rfl, ok_some (Q := P) hO⟩
  have l54 : ∀ (x6 : Int32) (h : Hp), Okk (M_forgets_l54 x4 x5 x6 h) P → G 54 [(0, .ref 251), (4, .int x4), (5, .int x5), (6, .int x6)] [] h := by
    intro x6 h hO
    obtain ⟨H54, eH54⟩ : ∃ q : (Int32 × Hp) → Prop, q = fun s => G 54 [(0, .ref 251), (4, .int x4), (5, .int x5), (6, .int (s.1))] [] (s.2) := ⟨_, rfl⟩
    have w9 : H54 (x6, h) := by
      refine lp_wp (f := fun s : (Int32 × Hp) => M_forgets_b54 x4 x5 s.1 s.2) (H := H54) (Q := P) ?_ (x6, h) hO
      rintro ⟨x6, h⟩ hO
      rw [eH54]
      show G 54 [(0, .ref 251), (4, .int x4), (5, .int x5), (6, .int x6)] [] h
      have k54 : ∀ s : (Int32 × Hp), H54 s → G 54 [(0, .ref 251), (4, .int x4), (5, .int x5), (6, .int (s.1))] [] (s.2) := fun s q => by rw [eH54] at q; exact q
      replace hO : Okk (M_forgets_b54 x4 x5 x6 h) (Sum.elim H54 P) := hO
      clear eH54
      unfold M_forgets_b54 at hO
      refine rb hG 5 54 57 [.aload 0, .iload 4] [] [] [(0, .ref 251), (4, .int x4), (5, .int x5), (6, .int x6)] [.int x4, .ref 251] h [] (by decide +kernel) rfl trivial ?_
      refine rv hG z_M_crowdOf 513 1 57 251 [.int x4] [] (by decide +kernel) mk_M_crowdOf lk_12_513 rcv_251 rfl ⟨rfl, Nat.le_of_ble_eq_true rfl⟩ (c_M_crowdOf (d := d + 7) h x4 (ok_bind hO)) ?_
      rintro _ _ ⟨r1, rfl, rfl, hO⟩
      refine rb hG 4 60 62 [.iload 5] [] [] [(0, .ref 251), (4, .int x4), (5, .int x5), (6, .int x6)] [.int x5, .int r1] h [] (by decide +kernel) rfl trivial ?_
      refine rt hG z_M_has 103 2 62 [.int r1, .int x5] [] (by decide +kernel) mk_M_has lk_12_103 rfl ⟨rfl, Nat.le_of_ble_eq_true rfl⟩ (c_M_has (d := d + 7) h r1 x5 (ok_bind hO)) ?_
      rintro _ _ ⟨r2, rfl, rfl, hO⟩
      refine ri hG .eq (25) 90 65 (by decide +kernel) (by decide) (fun c3 => ?_) (fun c3 => ?_)
      · have hO := ok_pos c3 hO
        refine rs hG [(6, .int x6)] [3] rfl ?_
        exact j90 x6 h (ok_inr hO)
      · have hO := ok_neg c3 hO
        obtain ⟨g4, hO⟩ := ok_if hO
        refine rbx hG 8 68 78 [.aload 0, .invokeinterface 1232 17, .iload 4, .ldc_w 0, .iastore] [256] [] (wr h 268 (Int32.toNatClampNeg x4) (256 : Int32)) (fun h5 => [(0, .ref 251), (4, .int x4), (5, .int x5), (6, .int x6)]) (fun h5 => []) (fun h5 => h5) [kd 251 = 12, kd 268 = 20 ∧ inb x4 (ln 268)] (by decide +kernel) rfl ⟨kd_251, ⟨kd_268, g4⟩⟩ hO (fun h5 hO => ?_)
        refine rb hG 5 78 81 [.aload 0, .iload 4] [] [] [(0, .ref 251), (4, .int x4), (5, .int x5), (6, .int x6)] [.int x4, .ref 251] h5 [] (by decide +kernel) rfl trivial ?_
        refine rv hG z_M_becomesPast 329 1 81 251 [.int x4] [] (by decide +kernel) mk_M_becomesPast lk_12_329 rcv_251 rfl ⟨rfl, Nat.le_of_ble_eq_true rfl⟩ (c_M_becomesPast (d := d + 4) h5 x4 (ok_bind hO)) ?_
        rintro _ h6 ⟨rfl, hO⟩
        refine rbx hG 4 84 87 [.iinc 6 0] [1] [] ((x6 + (1 : Int32))) (fun y7 => [(6, .int y7), (0, .ref 251), (4, .int x4), (5, .int x5)]) (fun y7 => []) (fun y7 => h6) [] (by decide +kernel) rfl trivial hO (fun y7 hO => ?_)
        refine rb hG 4 87 54 [] [] [] [(6, .int y7), (0, .ref 251), (4, .int x4), (5, .int x5)] [] h6 [] (by decide +kernel) rfl trivial ?_
        refine rs hG [(0, .ref 251), (4, .int x4), (5, .int x5), (6, .int y7)] [1, 2, 3, 0] rfl ?_
        exact k54 (y7, h6) (ok_some (Q := (Sum.elim H54 P)) hO)
    rw [eH54] at w9
    exact w9
  have j51 : ∀ (h : Hp), Okk (M_forgets_j51 x4 x5 h) P → G 51 [(0, .ref 251), (4, .int x4), (5, .int x5)] [] h := by
    intro h hO
    unfold M_forgets_j51 at hO
    refine rb hG 5 51 54 [.ldc_w 0, .istore 6] [0] [] [(6, .int (0 : Int32)), (0, .ref 251), (4, .int x4), (5, .int x5)] [] h [] (by decide +kernel) rfl trivial ?_
    refine rs hG [(0, .ref 251), (4, .int x4), (5, .int x5), (6, .int (0 : Int32))] [1, 2, 3, 0] rfl ?_
    exact l54 (0 : Int32) h hO
  refine rbx hG 6 0 5 [.aload 0, .ldc_w 0, .putfield 1200] [0] [] (wr h 251 0 (0 : Int32)) (fun h8 => [(0, .ref 251), (1, .int x1), (2, .int x2), (3, .int x3), (4, .int x4), (5, .int x5)]) (fun h8 => []) (fun h8 => h8) [kd 251 = 12] (by decide +kernel) rfl kd_251 hO (fun h8 hO => ?_)
  refine rb hG 7 5 9 [.aload 0, .iload 1, .iload 2, .iload 3] [] [] [(0, .ref 251), (1, .int x1), (2, .int x2), (3, .int x3), (4, .int x4), (5, .int x5)] [.int x3, .int x2, .int x1, .ref 251] h8 [] (by decide +kernel) rfl trivial ?_
  refine rv hG z_M_layState 380 3 9 251 [.int x1, .int x2, .int x3] [] (by decide +kernel) mk_M_layState lk_12_380 rcv_251 rfl ⟨rfl, Nat.le_of_ble_eq_true rfl⟩ (c_M_layState (d := d) h8 x1 x2 x3 (ok_bind hO)) ?_
  rintro _ h10 ⟨r9, rfl, hO⟩
  refine ri hG .eq (21) 33 12 (by decide +kernel) (by decide) (fun c11 => ?_) (fun c11 => ?_)
  · have hO := ok_pos c11 hO
    refine rs hG [] [] rfl ?_
    exact j33 h10 hO
  · have hO := ok_neg c11 hO
    refine rb hG 5 15 18 [.aload 0, .iload 4] [] [] [(0, .ref 251), (1, .int x1), (2, .int x2), (3, .int x3), (4, .int x4), (5, .int x5)] [.int x4, .ref 251] h10 [] (by decide +kernel) rfl trivial ?_
    refine rv hG z_M_isTable 338 1 18 251 [.int x4] [] (by decide +kernel) mk_M_isTable lk_12_338 rcv_251 rfl ⟨rfl, Nat.le_of_ble_eq_true rfl⟩ (c_M_isTable (d := d + 6) h10 x4 (ok_bind hO)) ?_
    rintro _ _ ⟨r12, rfl, rfl, hO⟩
    refine ri hG .eq (12) 33 21 (by decide +kernel) (by decide) (fun c13 => ?_) (fun c13 => ?_)
    · have hO := ok_pos c13 hO
      refine rs hG [] [] rfl ?_
      exact j33 h10 hO
    · have hO := ok_neg c13 hO
      refine rb hG 5 24 27 [.aload 0, .iload 5] [] [] [(0, .ref 251), (1, .int x1), (2, .int x2), (3, .int x3), (4, .int x4), (5, .int x5)] [.int x5, .ref 251] h10 [] (by decide +kernel) rfl trivial ?_
      refine rv hG z_M_isGuest 332 1 27 251 [.int x5] [] (by decide +kernel) mk_M_isGuest lk_12_332 rcv_251 rfl ⟨rfl, Nat.le_of_ble_eq_true rfl⟩ (c_M_isGuest (d := d + 6) h10 x5 (ok_bind hO)) ?_
      rintro _ _ ⟨r14, rfl, rfl, hO⟩
      refine riN hG (5) 35 30 (by decide +kernel) (by decide) (fun c15 => ?_) (fun c15 => ?_)
      · have hO := ok_pos c15 hO
        refine rs hG [] [] rfl ?_
        exact j33 h10 hO
      · have hO := ok_neg c15 hO
        obtain ⟨g16, hO⟩ := ok_if hO
        refine rb hG 7 35 42 [.aload 0, .invokeinterface 1232 17, .iload 4, .iaload] [] [] [(0, .ref 251), (1, .int x1), (2, .int x2), (3, .int x3), (4, .int x4), (5, .int x5)] [.int (h10.1 268 (Int32.toNatClampNeg x4))] h10 [kd 251 = 12, kd 268 = 20 ∧ inb x4 (ln 268)] (by decide +kernel) rfl ⟨kd_251, ⟨kd_268, g16⟩⟩ ?_
        refine ri hG .eq (9) 51 42 (by decide +kernel) (by decide) (fun c17 => ?_) (fun c17 => ?_)
        · have hO := ok_pos c17 hO
          refine rs hG [(0, .ref 251), (4, .int x4), (5, .int x5)] [0, 4, 5] rfl ?_
          exact j51 h10 hO
        · have hO := ok_neg c17 hO
          refine rb hG 5 45 48 [.aload 0, .iload 4] [] [] [(0, .ref 251), (1, .int x1), (2, .int x2), (3, .int x3), (4, .int x4), (5, .int x5)] [.int x4, .ref 251] h10 [] (by decide +kernel) rfl trivial ?_
          refine rv hG z_M_becomesPast 329 1 48 251 [.int x4] [] (by decide +kernel) mk_M_becomesPast lk_12_329 rcv_251 rfl ⟨rfl, Nat.le_of_ble_eq_true rfl⟩ (c_M_becomesPast (d := d + 4) h10 x4 (ok_bind hO)) ?_
          rintro _ h18 ⟨rfl, hO⟩
          refine rs hG [(0, .ref 251), (4, .int x4), (5, .int x5)] [0, 4, 5] rfl ?_
          exact j51 h18 hO
/-! GrainInn.Rounds.wordsOn(III)I -/
noncomputable def N_wordsOn_j142 (x5 : Int32) (h : Hp) : Option (Int32 × Hp) := some (x5, h)
noncomputable def N_wordsOn_j136 (x2 : Int32) (x5 : Int32) (x6 : Int32) (h : Hp) : Option ((Int32 × Int32 × Hp) ⊕ (Int32 × Hp)) := bnd ((x6 + (1 : Int32))) fun y1 => some (.inl (x5, y1, h))
noncomputable def N_wordsOn_b61 (x2 : Int32) (x5 : Int32) (x6 : Int32) (h : Hp) : Option ((Int32 × Int32 × Hp) ⊕ (Int32 × Hp)) := if x2 ≤ x6 then (((N_wordsOn_j142 x5 h).map Sum.inr)) else (if (4 : Int32) ≤ x6 then (((N_wordsOn_j142 x5 h).map Sum.inr)) else (if inb x6 (ln 97) then (bnd ((h.1 97 (Int32.toNatClampNeg x6))) fun y5 => (K_isOf y5 (0 : Int32) (5 : Int32)).bind fun r6 => if r6 = 0 then ((N_wordsOn_j136 x2 x5 x6 h)) else (if inb y5 (ln 96) then (if (4 : Int32) ≤ (h.1 96 (Int32.toNatClampNeg y5)) then ((N_wordsOn_j136 x2 x5 x6 h)) else (if inb y5 (ln 96) then (if inb (((4 : Int32) * y5) + (h.1 96 (Int32.toNatClampNeg y5))) (ln 95) then (bnd ((x5 ||| (h.1 95 (Int32.toNatClampNeg (((4 : Int32) * y5) + (h.1 96 (Int32.toNatClampNeg y5))))))) fun y12 => if inb y5 (ln 96) then (if inb y5 (ln 96) then (bnd (wr h 96 (Int32.toNatClampNeg y5) ((h.1 96 (Int32.toNatClampNeg y5)) + (1 : Int32))) fun h15 => (N_wordsOn_j136 x2 y12 x6 h15)) else none) else none) else none) else none)) else none)) else none))
noncomputable def N_wordsOn_l61 (x2 : Int32) (x5 : Int32) (x6 : Int32) (h : Hp) : Option (Int32 × Hp) := lp (fun s : (Int32 × Int32 × Hp) => N_wordsOn_b61 x2 s.1 s.2.1 s.2.2) (x5, x6, h)
theorem N_wordsOn_l61_eq (x2 : Int32) (x5 : Int32) (x6 : Int32) (h : Hp) : N_wordsOn_l61 x2 x5 x6 h = (N_wordsOn_b61 x2 x5 x6 h).bind (Sum.elim (fun q : (Int32 × Int32 × Hp) => N_wordsOn_l61 x2 q.1 q.2.1 q.2.2) some) := lp_eq _ _
noncomputable def N_wordsOn_j47 (x2 : Int32) (h : Hp) : Option (Int32 × Hp) := (J_fill h 96 (0 : Int32)).bind fun h16 => (N_wordsOn_l61 x2 (0 : Int32) (0 : Int32) h16)
noncomputable def N_wordsOn_b19 (x2 : Int32) (x3 : Int32) (x4 : Int32) (x5 : Int32) (h : Hp) : Option ((Int32 × Int32 × Hp) ⊕ (Int32 × Hp)) := if x5 < 0 then (((N_wordsOn_j47 x2 h).map Sum.inr)) else (if ¬ x3 = 0 then (if inb x5 (ln 97) then (bnd (wr h 97 (Int32.toNatClampNeg x5) (rm x4 x3)) fun h20 => if ¬ x3 = 0 then (bnd ((x4 / x3)) fun y22 => bnd ((x5 + (-1 : Int32))) fun y23 => some (.inl (y22, y23, h20))) else none) else none) else none)
noncomputable def N_wordsOn_l19 (x2 : Int32) (x3 : Int32) (x4 : Int32) (x5 : Int32) (h : Hp) : Option (Int32 × Hp) := lp (fun s : (Int32 × Int32 × Hp) => N_wordsOn_b19 x2 x3 s.1 s.2.1 s.2.2) (x4, x5, h)
theorem N_wordsOn_l19_eq (x2 : Int32) (x3 : Int32) (x4 : Int32) (x5 : Int32) (h : Hp) : N_wordsOn_l19 x2 x3 x4 x5 h = (N_wordsOn_b19 x2 x3 x4 x5 h).bind (Sum.elim (fun q : (Int32 × Int32 × Hp) => N_wordsOn_l19 x2 x3 q.1 q.2.1 q.2.2) some) := lp_eq _ _
noncomputable def N_wordsOn (h : Hp) (x1 : Int32) (x2 : Int32) (x3 : Int32) : Option (Int32 × Hp) := if (1 : Int32) ≤ x3 then (bnd (((mn x2 (4 : Int32)) - (1 : Int32))) fun y25 => (N_wordsOn_l19 x2 x3 x1 y25 h)) else (some ((0 : Int32), h))
set_option maxRecDepth 100000 in
set_option maxHeartbeats 4000000 in
theorem c_N_wordsOn {E : En} {d : Nat} (h : Hp) (x1 : Int32) (x2 : Int32) (x3 : Int32) {P : (Int32 × Hp) → Prop} (hO : Okk (N_wordsOn h x1 x2 x3) P) : Cn E (d + 2) z_N_wordsOn [.ref 90, .int x1, .int x2, .int x3] h (RI P) := by
  refine cn_of (on := 5) (d := d + 1) ⟨rfl, by decide +kernel, Nat.le_of_ble_eq_true rfl⟩ (fun G hG => ?_)
  unfold N_wordsOn at hO
  show G 0 [(0, .ref 90), (1, .int x1), (2, .int x2), (3, .int x3)] [] h
  have j142 : ∀ (x5 : Int32) (h : Hp), Okk (N_wordsOn_j142 x5 h) P → G 142 [(5, .int x5)] [] h := by
    intro x5 h hO
    unfold N_wordsOn_j142 at hO
    refine rb hG 4 142 144 [.iload 5] [] [] [(5, .int x5)] [.int x5] h [] (by decide +kernel) rfl trivial ?_
    exact eI hG 144 (by decide +kernel) rfl ⟨x5, rfl, ok_some (Q := P) hO⟩
  have l61 : ∀ (x5 : Int32) (x6 : Int32) (h : Hp), Okk (N_wordsOn_l61 x2 x5 x6 h) P → G 61 [(0, .ref 90), (2, .int x2), (5, .int x5), (6, .int x6)] [] h := by
    intro x5 x6 h hO
    obtain ⟨H61, eH61⟩ : ∃ q : (Int32 × Int32 × Hp) → Prop, q = fun s => G 61 [(0, .ref 90), (2, .int x2), (5, .int (s.1)), (6, .int (s.2.1))] [] (s.2.2) := ⟨_, rfl⟩
    have w9 : H61 (x5, x6, h) := by
      refine lp_wp (f := fun s : (Int32 × Int32 × Hp) => N_wordsOn_b61 x2 s.1 s.2.1 s.2.2) (H := H61) (Q := P) ?_ (x5, x6, h) hO
      rintro ⟨x5, x6, h⟩ hO
      rw [eH61]
      show G 61 [(0, .ref 90), (2, .int x2), (5, .int x5), (6, .int x6)] [] h
      have k61 : ∀ s : (Int32 × Int32 × Hp), H61 s → G 61 [(0, .ref 90), (2, .int x2), (5, .int (s.1)), (6, .int (s.2.1))] [] (s.2.2) := fun s q => by rw [eH61] at q; exact q
      replace hO : Okk (N_wordsOn_b61 x2 x5 x6 h) (Sum.elim H61 P) := hO
      clear eH61
      have j136 : ∀ (x5 : Int32) (x6 : Int32) (h : Hp), Okk (N_wordsOn_j136 x2 x5 x6 h) (Sum.elim H61 P) → G 136 [(0, .ref 90), (2, .int x2), (5, .int x5), (6, .int x6)] [] h := by
        intro x5 x6 h hO
        unfold N_wordsOn_j136 at hO
        refine rbx hG 4 136 139 [.iinc 6 0] [1] [] ((x6 + (1 : Int32))) (fun y1 => [(6, .int y1), (0, .ref 90), (2, .int x2), (5, .int x5)]) (fun y1 => []) (fun y1 => h) [] (by decide +kernel) rfl trivial hO (fun y1 hO => ?_)
        refine rb hG 4 139 61 [] [] [] [(6, .int y1), (0, .ref 90), (2, .int x2), (5, .int x5)] [] h [] (by decide +kernel) rfl trivial ?_
        refine rs hG [(0, .ref 90), (2, .int x2), (5, .int x5), (6, .int y1)] [1, 2, 3, 0] rfl ?_
        exact k61 (x5, y1, h) (ok_some (Q := (Sum.elim H61 P)) hO)
      unfold N_wordsOn_b61 at hO
      refine rb hG 5 61 64 [.iload 6, .iload 2] [] [] [(0, .ref 90), (2, .int x2), (5, .int x5), (6, .int x6)] [.int x2, .int x6] h [] (by decide +kernel) rfl trivial ?_
      refine rj hG .ge (78) 142 64 (by decide +kernel) (by decide) (fun c2 => ?_) (fun c2 => ?_)
      · have hO := ok_pos c2 hO
        refine rs hG [(5, .int x5)] [2] rfl ?_
        exact j142 x5 h (ok_inr hO)
      · have hO := ok_neg c2 hO
        refine rb hG 5 67 70 [.iload 6, .ldc_w 0] [4] [] [(0, .ref 90), (2, .int x2), (5, .int x5), (6, .int x6)] [.int (4 : Int32), .int x6] h [] (by decide +kernel) rfl trivial ?_
        refine rj hG .ge (72) 142 70 (by decide +kernel) (by decide) (fun c3 => ?_) (fun c3 => ?_)
        · have hO := ok_pos c3 hO
          refine rs hG [(5, .int x5)] [2] rfl ?_
          exact j142 x5 h (ok_inr hO)
        · have hO := ok_neg c3 hO
          obtain ⟨g4, hO⟩ := ok_if hO
          refine rbx hG 8 73 82 [.aload 0, .invokeinterface 503 7, .iload 6, .iaload, .istore 7] [] [] ((h.1 97 (Int32.toNatClampNeg x6))) (fun y5 => [(7, .int y5), (0, .ref 90), (2, .int x2), (5, .int x5), (6, .int x6)]) (fun y5 => []) (fun y5 => h) [kd 90 = 5, kd 97 = 20 ∧ inb x6 (ln 97)] (by decide +kernel) rfl ⟨kd_90, ⟨kd_97, g4⟩⟩ hO (fun y5 hO => ?_)
          refine rb hG 6 82 86 [.iload 7, .ldc_w 0, .ldc_w 1] [0, 5] [] [(7, .int y5), (0, .ref 90), (2, .int x2), (5, .int x5), (6, .int x6)] [.int (5 : Int32), .int (0 : Int32), .int y5] h [] (by decide +kernel) rfl trivial ?_
          refine rt hG z_K_isOf 118 3 86 [.int y5, .int (0 : Int32), .int (5 : Int32)] [] (by decide +kernel) mk_K_isOf lk_5_118 rfl ⟨rfl, Nat.le_of_ble_eq_true rfl⟩ (c_K_isOf (d := d) h y5 (0 : Int32) (5 : Int32) (ok_bind hO)) ?_
          rintro _ _ ⟨r6, rfl, rfl, hO⟩
          refine ri hG .eq (47) 136 89 (by decide +kernel) (by decide) (fun c7 => ?_) (fun c7 => ?_)
          · have hO := ok_pos c7 hO
            refine rs hG [(0, .ref 90), (2, .int x2), (5, .int x5), (6, .int x6)] [1, 2, 3, 4] rfl ?_
            exact j136 x5 x6 h hO
          · have hO := ok_neg c7 hO
            obtain ⟨g8, hO⟩ := ok_if hO
            refine rb hG 8 92 100 [.aload 0, .invokeinterface 502 6, .iload 7, .iaload, .ldc_w 0] [4] [] [(7, .int y5), (0, .ref 90), (2, .int x2), (5, .int x5), (6, .int x6)] [.int (4 : Int32), .int (h.1 96 (Int32.toNatClampNeg y5))] h [kd 90 = 5, kd 96 = 20 ∧ inb y5 (ln 96)] (by decide +kernel) rfl ⟨kd_90, ⟨kd_96, g8⟩⟩ ?_
            refine rj hG .ge (36) 136 100 (by decide +kernel) (by decide) (fun c9 => ?_) (fun c9 => ?_)
            · have hO := ok_pos c9 hO
              refine rs hG [(0, .ref 90), (2, .int x2), (5, .int x5), (6, .int x6)] [1, 2, 3, 4] rfl ?_
              exact j136 x5 x6 h hO
            · have hO := ok_neg c9 hO
              obtain ⟨g10, hO⟩ := ok_if hO
              obtain ⟨g11, hO⟩ := ok_if hO
              refine rbx hG 17 103 125 [.iload 5, .aload 0, .invokeinterface 501 5, .ldc_w 0, .iload 7, .imul, .aload 0, .invokeinterface 502 6, .iload 7, .iaload, .iadd, .iaload, .ior, .istore 5] [4] [] ((x5 ||| (h.1 95 (Int32.toNatClampNeg (((4 : Int32) * y5) + (h.1 96 (Int32.toNatClampNeg y5))))))) (fun y12 => [(5, .int y12), (7, .int y5), (0, .ref 90), (2, .int x2), (6, .int x6)]) (fun y12 => []) (fun y12 => h) [kd 90 = 5, kd 90 = 5, kd 96 = 20 ∧ inb y5 (ln 96), kd 95 = 20 ∧ inb (((4 : Int32) * y5) + (h.1 96 (Int32.toNatClampNeg y5))) (ln 95)] (by decide +kernel) rfl ⟨kd_90, kd_90, ⟨kd_96, g10⟩, ⟨kd_95, g11⟩⟩ hO (fun y12 hO => ?_)
              obtain ⟨g13, hO⟩ := ok_if hO
              obtain ⟨g14, hO⟩ := ok_if hO
              refine rbx hG 11 125 136 [.aload 0, .invokeinterface 502 6, .iload 7, .dup2, .iaload, .ldc_w 0, .iadd, .iastore] [1] [] (wr h 96 (Int32.toNatClampNeg y5) ((h.1 96 (Int32.toNatClampNeg y5)) + (1 : Int32))) (fun h15 => [(5, .int y12), (7, .int y5), (0, .ref 90), (2, .int x2), (6, .int x6)]) (fun h15 => []) (fun h15 => h15) [kd 90 = 5, kd 96 = 20 ∧ inb y5 (ln 96), kd 96 = 20 ∧ inb y5 (ln 96)] (by decide +kernel) rfl ⟨kd_90, ⟨kd_96, g13⟩, ⟨kd_96, g14⟩⟩ hO (fun h15 hO => ?_)
              refine rs hG [(0, .ref 90), (2, .int x2), (5, .int y12), (6, .int x6)] [2, 3, 0, 4] rfl ?_
              exact j136 y12 x6 h15 hO
    rw [eH61] at w9
    exact w9
  have j47 : ∀ (h : Hp), Okk (N_wordsOn_j47 x2 h) P → G 47 [(0, .ref 90), (2, .int x2)] [] h := by
    intro h hO
    unfold N_wordsOn_j47 at hO
    refine rb hG 6 47 52 [.aload 0, .invokeinterface 502 6, .ldc_w 0] [0] [] [(0, .ref 90), (2, .int x2)] [.int (0 : Int32), .ref 96] h [kd 90 = 5] (by decide +kernel) rfl kd_90 ?_
    refine rt hG z_J_fill 112 2 52 [.ref 96, .int (0 : Int32)] [] (by decide +kernel) mk_J_fill lk_5_112 rfl ⟨rfl, Nat.le_of_ble_eq_true rfl⟩ (c_J_fill (d := d) h 96 (0 : Int32) (ok_bind hO)) ?_
    rintro _ h16 ⟨rfl, hO⟩
    refine rb hG 7 55 61 [.ldc_w 0, .istore 5, .ldc_w 0, .istore 6] [0] [] [(6, .int (0 : Int32)), (5, .int (0 : Int32)), (0, .ref 90), (2, .int x2)] [] h16 [] (by decide +kernel) rfl trivial ?_
    refine rs hG [(0, .ref 90), (2, .int x2), (5, .int (0 : Int32)), (6, .int (0 : Int32))] [2, 3, 1, 0] rfl ?_
    exact l61 (0 : Int32) (0 : Int32) h16 hO
  have l19 : ∀ (x4 : Int32) (x5 : Int32) (h : Hp), Okk (N_wordsOn_l19 x2 x3 x4 x5 h) P → G 19 [(0, .ref 90), (2, .int x2), (3, .int x3), (4, .int x4), (5, .int x5)] [] h := by
    intro x4 x5 h hO
    obtain ⟨H19, eH19⟩ : ∃ q : (Int32 × Int32 × Hp) → Prop, q = fun s => G 19 [(0, .ref 90), (2, .int x2), (3, .int x3), (4, .int (s.1)), (5, .int (s.2.1))] [] (s.2.2) := ⟨_, rfl⟩
    have w9 : H19 (x4, x5, h) := by
      refine lp_wp (f := fun s : (Int32 × Int32 × Hp) => N_wordsOn_b19 x2 x3 s.1 s.2.1 s.2.2) (H := H19) (Q := P) ?_ (x4, x5, h) hO
      rintro ⟨x4, x5, h⟩ hO
      rw [eH19]
      show G 19 [(0, .ref 90), (2, .int x2), (3, .int x3), (4, .int x4), (5, .int x5)] [] h
      have k19 : ∀ s : (Int32 × Int32 × Hp), H19 s → G 19 [(0, .ref 90), (2, .int x2), (3, .int x3), (4, .int (s.1)), (5, .int (s.2.1))] [] (s.2.2) := fun s q => by rw [eH19] at q; exact q
      replace hO : Okk (N_wordsOn_b19 x2 x3 x4 x5 h) (Sum.elim H19 P) := hO
      clear eH19
      unfold N_wordsOn_b19 at hO
      refine rb hG 4 19 21 [.iload 5] [] [] [(0, .ref 90), (2, .int x2), (3, .int x3), (4, .int x4), (5, .int x5)] [.int x5] h [] (by decide +kernel) rfl trivial ?_
      refine ri hG .lt (26) 47 21 (by decide +kernel) (by decide) (fun c17 => ?_) (fun c17 => ?_)
      · have hO := ok_pos c17 hO
        refine rs hG [(0, .ref 90), (2, .int x2)] [0, 1] rfl ?_
        exact j47 h (ok_inr hO)
      · have hO := ok_neg c17 hO
        obtain ⟨g18, hO⟩ := ok_if hO
        obtain ⟨g19, hO⟩ := ok_if hO
        refine rbx hG 10 24 35 [.aload 0, .invokeinterface 503 7, .iload 5, .iload 4, .iload 3, .irem, .iastore] [] [] (wr h 97 (Int32.toNatClampNeg x5) (rm x4 x3)) (fun h20 => [(0, .ref 90), (2, .int x2), (3, .int x3), (4, .int x4), (5, .int x5)]) (fun h20 => []) (fun h20 => h20) [kd 90 = 5, ¬ x3 = 0, kd 97 = 20 ∧ inb x5 (ln 97)] (by decide +kernel) rfl ⟨kd_90, g18, ⟨kd_97, g19⟩⟩ hO (fun h20 hO => ?_)
        obtain ⟨g21, hO⟩ := ok_if hO
        refine rbx hG 7 35 41 [.iload 4, .iload 3, .idiv, .istore 4] [] [] ((x4 / x3)) (fun y22 => [(4, .int y22), (0, .ref 90), (2, .int x2), (3, .int x3), (5, .int x5)]) (fun y22 => []) (fun y22 => h20) [¬ x3 = 0] (by decide +kernel) rfl g21 hO (fun y22 hO => ?_)
        refine rbx hG 4 41 44 [.iinc 5 0] [-1] [] ((x5 + (-1 : Int32))) (fun y23 => [(5, .int y23), (4, .int y22), (0, .ref 90), (2, .int x2), (3, .int x3)]) (fun y23 => []) (fun y23 => h20) [] (by decide +kernel) rfl trivial hO (fun y23 hO => ?_)
        refine rb hG 4 44 19 [] [] [] [(5, .int y23), (4, .int y22), (0, .ref 90), (2, .int x2), (3, .int x3)] [] h20 [] (by decide +kernel) rfl trivial ?_
        refine rs hG [(0, .ref 90), (2, .int x2), (3, .int x3), (4, .int y22), (5, .int y23)] [2, 3, 4, 1, 0] rfl ?_
        exact k19 (y22, y23, h20) (ok_some (Q := (Sum.elim H19 P)) hO)
    rw [eH19] at w9
    exact w9
  refine rb hG 5 0 2 [.iload 3, .ldc_w 0] [1] [] [(0, .ref 90), (1, .int x1), (2, .int x2), (3, .int x3)] [.int (1 : Int32), .int x3] h [] (by decide +kernel) rfl trivial ?_
  refine rj hG .ge (5) 7 2 (by decide +kernel) (by decide) (fun c24 => ?_) (fun c24 => ?_)
  · have hO := ok_pos c24 hO
    refine rbx hG 11 7 19 [.iload 1, .istore 4, .iload 2, .ldc_w 0, .invokestatic 2, .ldc_w 1, .isub, .istore 5] [4, 1] [] (((mn x2 (4 : Int32)) - (1 : Int32))) (fun y25 => [(5, .int y25), (4, .int x1), (0, .ref 90), (1, .int x1), (2, .int x2), (3, .int x3)]) (fun y25 => []) (fun y25 => h) [sm [] ≤ 8] (by decide +kernel) rfl (Nat.le_of_ble_eq_true rfl) hO (fun y25 hO => ?_)
    refine rs hG [(0, .ref 90), (2, .int x2), (3, .int x3), (4, .int x1), (5, .int y25)] [2, 4, 5, 1, 0] rfl ?_
    exact l19 x1 y25 h hO
  · have hO := ok_neg c24 hO
    refine rb hG 4 5 6 [.ldc_w 0] [0] [] [(0, .ref 90), (1, .int x1), (2, .int x2), (3, .int x3)] [.int (0 : Int32)] h [] (by decide +kernel) rfl trivial ?_
    exact eI hG 6 (by decide +kernel) rfl ⟨(0 : Int32), rfl, ok_some (Q := P) hO⟩
/-! GrainInn.Rounds.spyOut(LGrainInn$State;I)I -/
noncomputable def N_spyOut_j156 (x1 : Nat) (h : Hp) : Option (Int32 × Hp) := some ((-1 : Int32), h)
noncomputable def N_spyOut_j144 (x1 : Nat) (x2 : Int32) (x3 : Int32) (x4 : Int32) (x5 : Int32) (h : Hp) : Option ((Int32 × Int32 × Hp) ⊕ (Int32 × Hp)) := bnd ((x4 * x3)) fun y1 => bnd ((x5 + (1 : Int32))) fun y2 => some (.inl (y1, y2, h))
noncomputable def N_spyOut_j135 (x1 : Nat) (x5 : Int32) (h : Hp) : Option (Int32 × Hp) := some (x5, h)
noncomputable def N_spyOut_b112 (x1 : Nat) (x2 : Int32) (x3 : Int32) (x4 : Int32) (x5 : Int32) (x6 : Int32) (h : Hp) : Option ((Int32 × Hp) ⊕ ((Int32 × Int32 × Hp) ⊕ (Int32 × Hp))) := if x4 ≤ x6 then (((N_spyOut_j144 x1 x2 x3 x4 x5 h).map Sum.inr)) else ((N_wordsOn h x6 x5 x3).bind fun (r4, h5) => if (x2 &&& (r4 ^^^ (-1 : Int32))) = 0 then ((((N_spyOut_j135 x1 x5 h5).map Sum.inr).map Sum.inr)) else (bnd ((x6 + (1 : Int32))) fun y7 => some (.inl (y7, h5))))
noncomputable def N_spyOut_l112 (x1 : Nat) (x2 : Int32) (x3 : Int32) (x4 : Int32) (x5 : Int32) (x6 : Int32) (h : Hp) : Option ((Int32 × Int32 × Hp) ⊕ (Int32 × Hp)) := lp (fun s : (Int32 × Hp) => N_spyOut_b112 x1 x2 x3 x4 x5 s.1 s.2) (x6, h)
theorem N_spyOut_l112_eq (x1 : Nat) (x2 : Int32) (x3 : Int32) (x4 : Int32) (x5 : Int32) (x6 : Int32) (h : Hp) : N_spyOut_l112 x1 x2 x3 x4 x5 x6 h = (N_spyOut_b112 x1 x2 x3 x4 x5 x6 h).bind (Sum.elim (fun q : (Int32 × Hp) => N_spyOut_l112 x1 x2 x3 x4 x5 q.1 q.2) some) := lp_eq _ _
noncomputable def N_spyOut_b103 (x1 : Nat) (x2 : Int32) (x3 : Int32) (x4 : Int32) (x5 : Int32) (h : Hp) : Option ((Int32 × Int32 × Hp) ⊕ (Int32 × Hp)) := if (4 : Int32) < x5 then (((N_spyOut_j156 x1 h).map Sum.inr)) else ((N_spyOut_l112 x1 x2 x3 x4 x5 (0 : Int32) h))
noncomputable def N_spyOut_l103 (x1 : Nat) (x2 : Int32) (x3 : Int32) (x4 : Int32) (x5 : Int32) (h : Hp) : Option (Int32 × Hp) := lp (fun s : (Int32 × Int32 × Hp) => N_spyOut_b103 x1 x2 x3 s.1 s.2.1 s.2.2) (x4, x5, h)
theorem N_spyOut_l103_eq (x1 : Nat) (x2 : Int32) (x3 : Int32) (x4 : Int32) (x5 : Int32) (h : Hp) : N_spyOut_l103 x1 x2 x3 x4 x5 h = (N_spyOut_b103 x1 x2 x3 x4 x5 h).bind (Sum.elim (fun q : (Int32 × Int32 × Hp) => N_spyOut_l103 x1 x2 x3 q.1 q.2.1 q.2.2) some) := lp_eq _ _
noncomputable def N_spyOut_j97 (x1 : Nat) (x2 : Int32) (x3 : Int32) (h : Hp) : Option (Int32 × Hp) := (N_spyOut_l103 x1 x2 x3 (1 : Int32) (0 : Int32) h)
noncomputable def N_spyOut_j91 (x1 : Nat) (x2 : Int32) (x3 : Int32) (x4 : Int32) (h : Hp) : Option ((Int32 × Hp) ⊕ (Int32 × Hp)) := bnd ((x4 + (1 : Int32))) fun y9 => some (.inl (y9, h))
noncomputable def N_spyOut_b33 (x1 : Nat) (x2 : Int32) (x3 : Int32) (x4 : Int32) (x5 : Int32) (h : Hp) : Option ((Int32 × Hp) ⊕ ((Int32 × Hp) ⊕ (Int32 × Hp))) := if (4 : Int32) ≤ x5 then (((N_spyOut_j91 x1 x2 x3 x4 h).map Sum.inr)) else ((B_wordsOf h 91 (h.1 91 4)).bind fun r11 => if inb (((4 : Int32) * x4) + x5) (ln 95) then (bnd (wr h 95 (Int32.toNatClampNeg (((4 : Int32) * x4) + x5)) r11) fun h13 => if x1 = 57 then (if kd (Int32.toNatClampNeg (h13.1 57 6)) = 1 then ((H_keepsOf h13 (Int32.toNatClampNeg (h13.1 57 6)) x4).bind fun r16 => (B_sitQuietly h13 91 (h13.1 57 7) r16).bind fun h17 => bnd ((x5 + (1 : Int32))) fun y18 => some (.inl (y18, h17))) else none) else none) else none)
noncomputable def N_spyOut_l33 (x1 : Nat) (x2 : Int32) (x3 : Int32) (x4 : Int32) (x5 : Int32) (h : Hp) : Option ((Int32 × Hp) ⊕ (Int32 × Hp)) := lp (fun s : (Int32 × Hp) => N_spyOut_b33 x1 x2 x3 x4 s.1 s.2) (x5, h)
theorem N_spyOut_l33_eq (x1 : Nat) (x2 : Int32) (x3 : Int32) (x4 : Int32) (x5 : Int32) (h : Hp) : N_spyOut_l33 x1 x2 x3 x4 x5 h = (N_spyOut_b33 x1 x2 x3 x4 x5 h).bind (Sum.elim (fun q : (Int32 × Hp) => N_spyOut_l33 x1 x2 x3 x4 q.1 q.2) some) := lp_eq _ _
noncomputable def N_spyOut_b11 (x1 : Nat) (x2 : Int32) (x3 : Int32) (x4 : Int32) (h : Hp) : Option ((Int32 × Hp) ⊕ (Int32 × Hp)) := if x3 ≤ x4 then (((N_spyOut_j97 x1 x2 x3 h).map Sum.inr)) else (if (5 : Int32) ≤ x4 then (((N_spyOut_j97 x1 x2 x3 h).map Sum.inr)) else ((N_tryFrom h x1 x4).bind fun h21 => (N_spyOut_l33 x1 x2 x3 x4 (0 : Int32) h21)))
noncomputable def N_spyOut_l11 (x1 : Nat) (x2 : Int32) (x3 : Int32) (x4 : Int32) (h : Hp) : Option (Int32 × Hp) := lp (fun s : (Int32 × Hp) => N_spyOut_b11 x1 x2 x3 s.1 s.2) (x4, h)
theorem N_spyOut_l11_eq (x1 : Nat) (x2 : Int32) (x3 : Int32) (x4 : Int32) (h : Hp) : N_spyOut_l11 x1 x2 x3 x4 h = (N_spyOut_b11 x1 x2 x3 x4 h).bind (Sum.elim (fun q : (Int32 × Hp) => N_spyOut_l11 x1 x2 x3 q.1 q.2) some) := lp_eq _ _
noncomputable def N_spyOut (h : Hp) (x1 : Nat) (x2 : Int32) : Option (Int32 × Hp) := if x1 = 57 then (if kd (Int32.toNatClampNeg (h.1 57 6)) = 1 then (bnd ((h.1 (Int32.toNatClampNeg (h.1 57 6)) 5)) fun y24 => (N_spyOut_l11 x1 x2 y24 (0 : Int32) h)) else none) else none
set_option maxRecDepth 100000 in
set_option maxHeartbeats 4000000 in
theorem c_N_spyOut {E : En} {d : Nat} (h : Hp) (x1 : Nat) (x2 : Int32) {P : (Int32 × Hp) → Prop} (hO : Okk (N_spyOut h x1 x2) P) : Cn E (d + 4) z_N_spyOut [.ref 90, .ref x1, .int x2] h (RI P) := by
  refine cn_of (on := 5) (d := d + 3) ⟨rfl, by decide +kernel, Nat.le_of_ble_eq_true rfl⟩ (fun G hG => ?_)
  unfold N_spyOut at hO
  show G 0 [(0, .ref 90), (1, .ref x1), (2, .int x2)] [] h
  have j156 : ∀ (h : Hp), Okk (N_spyOut_j156 x1 h) P → G 156 [] [] h := by
    intro h hO
    unfold N_spyOut_j156 at hO
    refine rb hG 4 156 157 [.ldc_w 0] [-1] [] [] [.int (-1 : Int32)] h [] (by decide +kernel) rfl trivial ?_
    exact eI hG 157 (by decide +kernel) rfl ⟨(-1 : Int32), rfl, ok_some (Q := P) hO⟩
  have j135 : ∀ (x5 : Int32) (h : Hp), Okk (N_spyOut_j135 x1 x5 h) P → G 135 [(5, .int x5)] [] h := by
    intro x5 h hO
    unfold N_spyOut_j135 at hO
    refine rb hG 4 135 137 [.iload 5] [] [] [(5, .int x5)] [.int x5] h [] (by decide +kernel) rfl trivial ?_
    exact eI hG 137 (by decide +kernel) rfl ⟨x5, rfl, ok_some (Q := P) hO⟩
  have l103 : ∀ (x3 : Int32) (x4 : Int32) (x5 : Int32) (h : Hp), Okk (N_spyOut_l103 x1 x2 x3 x4 x5 h) P → G 103 [(0, .ref 90), (2, .int x2), (3, .int x3), (4, .int x4), (5, .int x5)] [] h := by
    intro x3 x4 x5 h hO
    obtain ⟨H103, eH103⟩ : ∃ q : (Int32 × Int32 × Hp) → Prop, q = fun s => G 103 [(0, .ref 90), (2, .int x2), (3, .int x3), (4, .int (s.1)), (5, .int (s.2.1))] [] (s.2.2) := ⟨_, rfl⟩
    have w9 : H103 (x4, x5, h) := by
      refine lp_wp (f := fun s : (Int32 × Int32 × Hp) => N_spyOut_b103 x1 x2 x3 s.1 s.2.1 s.2.2) (H := H103) (Q := P) ?_ (x4, x5, h) hO
      rintro ⟨x4, x5, h⟩ hO
      rw [eH103]
      show G 103 [(0, .ref 90), (2, .int x2), (3, .int x3), (4, .int x4), (5, .int x5)] [] h
      have k103 : ∀ s : (Int32 × Int32 × Hp), H103 s → G 103 [(0, .ref 90), (2, .int x2), (3, .int x3), (4, .int (s.1)), (5, .int (s.2.1))] [] (s.2.2) := fun s q => by rw [eH103] at q; exact q
      replace hO : Okk (N_spyOut_b103 x1 x2 x3 x4 x5 h) (Sum.elim H103 P) := hO
      clear eH103
      have j144 : ∀ (x4 : Int32) (x5 : Int32) (h : Hp), Okk (N_spyOut_j144 x1 x2 x3 x4 x5 h) (Sum.elim H103 P) → G 144 [(0, .ref 90), (2, .int x2), (3, .int x3), (4, .int x4), (5, .int x5)] [] h := by
        intro x4 x5 h hO
        unfold N_spyOut_j144 at hO
        refine rbx hG 7 144 150 [.iload 4, .iload 3, .imul, .istore 4] [] [] ((x4 * x3)) (fun y1 => [(4, .int y1), (0, .ref 90), (2, .int x2), (3, .int x3), (5, .int x5)]) (fun y1 => []) (fun y1 => h) [] (by decide +kernel) rfl trivial hO (fun y1 hO => ?_)
        refine rbx hG 4 150 153 [.iinc 5 0] [1] [] ((x5 + (1 : Int32))) (fun y2 => [(5, .int y2), (4, .int y1), (0, .ref 90), (2, .int x2), (3, .int x3)]) (fun y2 => []) (fun y2 => h) [] (by decide +kernel) rfl trivial hO (fun y2 hO => ?_)
        refine rb hG 4 153 103 [] [] [] [(5, .int y2), (4, .int y1), (0, .ref 90), (2, .int x2), (3, .int x3)] [] h [] (by decide +kernel) rfl trivial ?_
        refine rs hG [(0, .ref 90), (2, .int x2), (3, .int x3), (4, .int y1), (5, .int y2)] [2, 3, 4, 1, 0] rfl ?_
        exact k103 (y1, y2, h) (ok_some (Q := (Sum.elim H103 P)) hO)
      have l112 : ∀ (x4 : Int32) (x5 : Int32) (x6 : Int32) (h : Hp), Okk (N_spyOut_l112 x1 x2 x3 x4 x5 x6 h) (Sum.elim H103 P) → G 112 [(0, .ref 90), (2, .int x2), (3, .int x3), (4, .int x4), (5, .int x5), (6, .int x6)] [] h := by
        intro x4 x5 x6 h hO
        obtain ⟨H112, eH112⟩ : ∃ q : (Int32 × Hp) → Prop, q = fun s => G 112 [(0, .ref 90), (2, .int x2), (3, .int x3), (4, .int x4), (5, .int x5), (6, .int (s.1))] [] (s.2) := ⟨_, rfl⟩
        have w9 : H112 (x6, h) := by
          refine lp_wp (f := fun s : (Int32 × Hp) => N_spyOut_b112 x1 x2 x3 x4 x5 s.1 s.2) (H := H112) (Q := (Sum.elim H103 P)) ?_ (x6, h) hO
          rintro ⟨x6, h⟩ hO
          rw [eH112]
          show G 112 [(0, .ref 90), (2, .int x2), (3, .int x3), (4, .int x4), (5, .int x5), (6, .int x6)] [] h
          have k112 : ∀ s : (Int32 × Hp), H112 s → G 112 [(0, .ref 90), (2, .int x2), (3, .int x3), (4, .int x4), (5, .int x5), (6, .int (s.1))] [] (s.2) := fun s q => by rw [eH112] at q; exact q
          replace hO : Okk (N_spyOut_b112 x1 x2 x3 x4 x5 x6 h) (Sum.elim H112 (Sum.elim H103 P)) := hO
          clear eH112
          unfold N_spyOut_b112 at hO
          refine rb hG 5 112 116 [.iload 6, .iload 4] [] [] [(0, .ref 90), (2, .int x2), (3, .int x3), (4, .int x4), (5, .int x5), (6, .int x6)] [.int x4, .int x6] h [] (by decide +kernel) rfl trivial ?_
          refine rj hG .ge (28) 144 116 (by decide +kernel) (by decide) (fun c3 => ?_) (fun c3 => ?_)
          · have hO := ok_pos c3 hO
            refine rs hG [(0, .ref 90), (2, .int x2), (3, .int x3), (4, .int x4), (5, .int x5)] [0, 1, 2, 3, 4] rfl ?_
            exact j144 x4 x5 h (ok_inr hO)
          · have hO := ok_neg c3 hO
            refine rb hG 8 119 126 [.iload 2, .aload 0, .iload 6, .iload 5, .iload 3] [] [] [(0, .ref 90), (2, .int x2), (3, .int x3), (4, .int x4), (5, .int x5), (6, .int x6)] [.int x3, .int x5, .int x6, .ref 90, .int x2] h [] (by decide +kernel) rfl trivial ?_
            refine rv hG z_N_wordsOn 102 3 126 90 [.int x6, .int x5, .int x3] [.int x2] (by decide +kernel) mk_N_wordsOn lk_5_102 rcv_90 rfl ⟨rfl, Nat.le_of_ble_eq_true rfl⟩ (c_N_wordsOn (d := d + 1) h x6 x5 x3 (ok_bind hO)) ?_
            rintro _ h5 ⟨r4, rfl, hO⟩
            refine rb hG 6 129 132 [.ldc_w 0, .ixor, .iand] [-1] [] [(0, .ref 90), (2, .int x2), (3, .int x3), (4, .int x4), (5, .int x5), (6, .int x6)] [.int (x2 &&& (r4 ^^^ (-1 : Int32)))] h5 [] (by decide +kernel) rfl trivial ?_
            refine riN hG (6) 138 132 (by decide +kernel) (by decide) (fun c6 => ?_) (fun c6 => ?_)
            · have hO := ok_pos c6 hO
              refine rs hG [(5, .int x5)] [4] rfl ?_
              exact j135 x5 h5 (ok_inr (ok_inr hO))
            · have hO := ok_neg c6 hO
              refine rbx hG 4 138 141 [.iinc 6 0] [1] [] ((x6 + (1 : Int32))) (fun y7 => [(6, .int y7), (0, .ref 90), (2, .int x2), (3, .int x3), (4, .int x4), (5, .int x5)]) (fun y7 => []) (fun y7 => h5) [] (by decide +kernel) rfl trivial hO (fun y7 hO => ?_)
              refine rb hG 4 141 112 [] [] [] [(6, .int y7), (0, .ref 90), (2, .int x2), (3, .int x3), (4, .int x4), (5, .int x5)] [] h5 [] (by decide +kernel) rfl trivial ?_
              refine rs hG [(0, .ref 90), (2, .int x2), (3, .int x3), (4, .int x4), (5, .int x5), (6, .int y7)] [1, 2, 3, 4, 5, 0] rfl ?_
              exact k112 (y7, h5) (ok_some (Q := (Sum.elim H112 (Sum.elim H103 P))) hO)
        rw [eH112] at w9
        exact w9
      unfold N_spyOut_b103 at hO
      refine rb hG 5 103 106 [.iload 5, .ldc_w 0] [4] [] [(0, .ref 90), (2, .int x2), (3, .int x3), (4, .int x4), (5, .int x5)] [.int (4 : Int32), .int x5] h [] (by decide +kernel) rfl trivial ?_
      refine rj hG .gt (50) 156 106 (by decide +kernel) (by decide) (fun c8 => ?_) (fun c8 => ?_)
      · have hO := ok_pos c8 hO
        refine rs hG [] [] rfl ?_
        exact j156 h (ok_inr hO)
      · have hO := ok_neg c8 hO
        refine rb hG 5 109 112 [.ldc_w 0, .istore 6] [0] [] [(6, .int (0 : Int32)), (0, .ref 90), (2, .int x2), (3, .int x3), (4, .int x4), (5, .int x5)] [] h [] (by decide +kernel) rfl trivial ?_
        refine rs hG [(0, .ref 90), (2, .int x2), (3, .int x3), (4, .int x4), (5, .int x5), (6, .int (0 : Int32))] [1, 2, 3, 4, 5, 0] rfl ?_
        exact l112 x4 x5 (0 : Int32) h hO
    rw [eH103] at w9
    exact w9
  have j97 : ∀ (x3 : Int32) (h : Hp), Okk (N_spyOut_j97 x1 x2 x3 h) P → G 97 [(0, .ref 90), (2, .int x2), (3, .int x3)] [] h := by
    intro x3 h hO
    unfold N_spyOut_j97 at hO
    refine rb hG 7 97 103 [.ldc_w 0, .istore 4, .ldc_w 1, .istore 5] [1, 0] [] [(5, .int (0 : Int32)), (4, .int (1 : Int32)), (0, .ref 90), (2, .int x2), (3, .int x3)] [] h [] (by decide +kernel) rfl trivial ?_
    refine rs hG [(0, .ref 90), (2, .int x2), (3, .int x3), (4, .int (1 : Int32)), (5, .int (0 : Int32))] [2, 3, 4, 1, 0] rfl ?_
    exact l103 x3 (1 : Int32) (0 : Int32) h hO
  have l11 : ∀ (x3 : Int32) (x4 : Int32) (h : Hp), Okk (N_spyOut_l11 x1 x2 x3 x4 h) P → G 11 [(0, .ref 90), (1, .ref x1), (2, .int x2), (3, .int x3), (4, .int x4)] [] h := by
    intro x3 x4 h hO
    obtain ⟨H11, eH11⟩ : ∃ q : (Int32 × Hp) → Prop, q = fun s => G 11 [(0, .ref 90), (1, .ref x1), (2, .int x2), (3, .int x3), (4, .int (s.1))] [] (s.2) := ⟨_, rfl⟩
    have w9 : H11 (x4, h) := by
      refine lp_wp (f := fun s : (Int32 × Hp) => N_spyOut_b11 x1 x2 x3 s.1 s.2) (H := H11) (Q := P) ?_ (x4, h) hO
      rintro ⟨x4, h⟩ hO
      rw [eH11]
      show G 11 [(0, .ref 90), (1, .ref x1), (2, .int x2), (3, .int x3), (4, .int x4)] [] h
      have k11 : ∀ s : (Int32 × Hp), H11 s → G 11 [(0, .ref 90), (1, .ref x1), (2, .int x2), (3, .int x3), (4, .int (s.1))] [] (s.2) := fun s q => by rw [eH11] at q; exact q
      replace hO : Okk (N_spyOut_b11 x1 x2 x3 x4 h) (Sum.elim H11 P) := hO
      clear eH11
      have j91 : ∀ (x4 : Int32) (h : Hp), Okk (N_spyOut_j91 x1 x2 x3 x4 h) (Sum.elim H11 P) → G 91 [(0, .ref 90), (1, .ref x1), (2, .int x2), (3, .int x3), (4, .int x4)] [] h := by
        intro x4 h hO
        unfold N_spyOut_j91 at hO
        refine rbx hG 4 91 94 [.iinc 4 0] [1] [] ((x4 + (1 : Int32))) (fun y9 => [(4, .int y9), (0, .ref 90), (1, .ref x1), (2, .int x2), (3, .int x3)]) (fun y9 => []) (fun y9 => h) [] (by decide +kernel) rfl trivial hO (fun y9 hO => ?_)
        refine rb hG 4 94 11 [] [] [] [(4, .int y9), (0, .ref 90), (1, .ref x1), (2, .int x2), (3, .int x3)] [] h [] (by decide +kernel) rfl trivial ?_
        refine rs hG [(0, .ref 90), (1, .ref x1), (2, .int x2), (3, .int x3), (4, .int y9)] [1, 2, 3, 4, 0] rfl ?_
        exact k11 (y9, h) (ok_some (Q := (Sum.elim H11 P)) hO)
      have l33 : ∀ (x4 : Int32) (x5 : Int32) (h : Hp), Okk (N_spyOut_l33 x1 x2 x3 x4 x5 h) (Sum.elim H11 P) → G 33 [(0, .ref 90), (1, .ref x1), (2, .int x2), (3, .int x3), (4, .int x4), (5, .int x5)] [] h := by
        intro x4 x5 h hO
        obtain ⟨H33, eH33⟩ : ∃ q : (Int32 × Hp) → Prop, q = fun s => G 33 [(0, .ref 90), (1, .ref x1), (2, .int x2), (3, .int x3), (4, .int x4), (5, .int (s.1))] [] (s.2) := ⟨_, rfl⟩
        have w9 : H33 (x5, h) := by
          refine lp_wp (f := fun s : (Int32 × Hp) => N_spyOut_b33 x1 x2 x3 x4 s.1 s.2) (H := H33) (Q := (Sum.elim H11 P)) ?_ (x5, h) hO
          rintro ⟨x5, h⟩ hO
          rw [eH33]
          show G 33 [(0, .ref 90), (1, .ref x1), (2, .int x2), (3, .int x3), (4, .int x4), (5, .int x5)] [] h
          have k33 : ∀ s : (Int32 × Hp), H33 s → G 33 [(0, .ref 90), (1, .ref x1), (2, .int x2), (3, .int x3), (4, .int x4), (5, .int (s.1))] [] (s.2) := fun s q => by rw [eH33] at q; exact q
          replace hO : Okk (N_spyOut_b33 x1 x2 x3 x4 x5 h) (Sum.elim H33 (Sum.elim H11 P)) := hO
          clear eH33
          unfold N_spyOut_b33 at hO
          refine rb hG 5 33 36 [.iload 5, .ldc_w 0] [4] [] [(0, .ref 90), (1, .ref x1), (2, .int x2), (3, .int x3), (4, .int x4), (5, .int x5)] [.int (4 : Int32), .int x5] h [] (by decide +kernel) rfl trivial ?_
          refine rj hG .ge (55) 91 36 (by decide +kernel) (by decide) (fun c10 => ?_) (fun c10 => ?_)
          · have hO := ok_pos c10 hO
            refine rs hG [(0, .ref 90), (1, .ref x1), (2, .int x2), (3, .int x3), (4, .int x4)] [0, 1, 2, 3, 4] rfl ?_
            exact j91 x4 h (ok_inr hO)
          · have hO := ok_neg c10 hO
            refine rb hG 15 39 61 [.aload 0, .invokeinterface 501 5, .ldc_w 0, .iload 4, .imul, .iload 5, .iadd, .aload 0, .invokeinterface 500 1, .aload 0, .invokeinterface 500 1, .getfield 4] [4] [] [(0, .ref 90), (1, .ref x1), (2, .int x2), (3, .int x3), (4, .int x4), (5, .int x5)] [.int (h.1 91 4), .ref 91, .int (((4 : Int32) * x4) + x5), .ref 95] h [kd 90 = 5, kd 90 = 5, kd 90 = 5, kd 91 = 0] (by decide +kernel) rfl ⟨kd_90, kd_90, kd_90, kd_91⟩ ?_
            refine rv hG z_B_wordsOf 85 1 61 91 [.int (h.1 91 4)] [.int (((4 : Int32) * x4) + x5), .ref 95] (by decide +kernel) mk_B_wordsOf lk_5_85 rcv_91 rfl ⟨rfl, Nat.le_of_ble_eq_true rfl⟩ (c_B_wordsOf (d := d + 2) h 91 (h.1 91 4) (ok_bind hO)) ?_
            rintro _ _ ⟨r11, rfl, rfl, hO⟩
            obtain ⟨g12, hO⟩ := ok_if hO
            refine rbx hG 4 64 65 [.iastore] [] [] (wr h 95 (Int32.toNatClampNeg (((4 : Int32) * x4) + x5)) r11) (fun h13 => [(0, .ref 90), (1, .ref x1), (2, .int x2), (3, .int x3), (4, .int x4), (5, .int x5)]) (fun h13 => []) (fun h13 => h13) [kd 95 = 20 ∧ inb (((4 : Int32) * x4) + x5) (ln 95)] (by decide +kernel) rfl ⟨kd_95, g12⟩ hO (fun h13 hO => ?_)
            obtain ⟨g14, hOg14⟩ := ok_if hO
            subst g14
            have hO := hOg14
            obtain ⟨g15, hO⟩ := ok_if hO
            refine rb hG 10 65 79 [.aload 0, .invokeinterface 500 1, .aload 1, .getfield 707, .aload 1, .instanceof 706, .iload 4] [] [] [(0, .ref 90), (1, .ref 57), (2, .int x2), (3, .int x3), (4, .int x4), (5, .int x5)] [.int x4, .ref (Int32.toNatClampNeg (h13.1 57 6)), .int (h13.1 57 7), .ref 91] h13 [kd 90 = 5, kd 57 = 7, kd 57 = 7] (by decide +kernel) rfl ⟨kd_90, kd_57, kd_57⟩ ?_
            refine rv hG z_H_keepsOf 68 1 79 (Int32.toNatClampNeg (h13.1 57 6)) [.int x4] [.int (h13.1 57 7), .ref 91] (by decide +kernel) mk_H_keepsOf lk_5_68 (rcv_H g15) rfl ⟨rfl, Nat.le_of_ble_eq_true rfl⟩ (c_H_keepsOf (d := d + 1) h13 (Int32.toNatClampNeg (h13.1 57 6)) x4 (ok_bind hO)) ?_
            rintro _ _ ⟨r16, rfl, rfl, hO⟩
            refine rv hG z_B_sitQuietly 92 2 82 91 [.int (h13.1 57 7), .int r16] [] (by decide +kernel) mk_B_sitQuietly lk_5_92 rcv_91 rfl ⟨rfl, Nat.le_of_ble_eq_true rfl⟩ (c_B_sitQuietly (d := d + 1) h13 91 (h13.1 57 7) r16 (ok_bind hO)) ?_
            rintro _ h17 ⟨rfl, hO⟩
            refine rbx hG 4 85 88 [.iinc 5 0] [1] [] ((x5 + (1 : Int32))) (fun y18 => [(5, .int y18), (0, .ref 90), (1, .ref 57), (2, .int x2), (3, .int x3), (4, .int x4)]) (fun y18 => []) (fun y18 => h17) [] (by decide +kernel) rfl trivial hO (fun y18 hO => ?_)
            refine rb hG 4 88 33 [] [] [] [(5, .int y18), (0, .ref 90), (1, .ref 57), (2, .int x2), (3, .int x3), (4, .int x4)] [] h17 [] (by decide +kernel) rfl trivial ?_
            refine rs hG [(0, .ref 90), (1, .ref 57), (2, .int x2), (3, .int x3), (4, .int x4), (5, .int y18)] [1, 2, 3, 4, 5, 0] rfl ?_
            exact k33 (y18, h17) (ok_some (Q := (Sum.elim H33 (Sum.elim H11 P))) hO)
        rw [eH33] at w9
        exact w9
      unfold N_spyOut_b11 at hO
      refine rb hG 5 11 14 [.iload 4, .iload 3] [] [] [(0, .ref 90), (1, .ref x1), (2, .int x2), (3, .int x3), (4, .int x4)] [.int x3, .int x4] h [] (by decide +kernel) rfl trivial ?_
      refine rj hG .ge (83) 97 14 (by decide +kernel) (by decide) (fun c19 => ?_) (fun c19 => ?_)
      · have hO := ok_pos c19 hO
        refine rs hG [(0, .ref 90), (2, .int x2), (3, .int x3)] [0, 2, 3] rfl ?_
        exact j97 x3 h (ok_inr hO)
      · have hO := ok_neg c19 hO
        refine rb hG 5 17 20 [.iload 4, .ldc_w 0] [5] [] [(0, .ref 90), (1, .ref x1), (2, .int x2), (3, .int x3), (4, .int x4)] [.int (5 : Int32), .int x4] h [] (by decide +kernel) rfl trivial ?_
        refine rj hG .ge (77) 97 20 (by decide +kernel) (by decide) (fun c20 => ?_) (fun c20 => ?_)
        · have hO := ok_pos c20 hO
          refine rs hG [(0, .ref 90), (2, .int x2), (3, .int x3)] [0, 2, 3] rfl ?_
          exact j97 x3 h (ok_inr hO)
        · have hO := ok_neg c20 hO
          refine rb hG 6 23 27 [.aload 0, .aload 1, .iload 4] [] [] [(0, .ref 90), (1, .ref x1), (2, .int x2), (3, .int x3), (4, .int x4)] [.int x4, .ref x1, .ref 90] h [] (by decide +kernel) rfl trivial ?_
          refine rv hG z_N_tryFrom 78 2 27 90 [.ref x1, .int x4] [] (by decide +kernel) mk_N_tryFrom lk_5_78 rcv_90 rfl ⟨rfl, Nat.le_of_ble_eq_true rfl⟩ (c_N_tryFrom (d := d) h x1 x4 (ok_bind hO)) ?_
          rintro _ h21 ⟨rfl, hO⟩
          refine rb hG 5 30 33 [.ldc_w 0, .istore 5] [0] [] [(5, .int (0 : Int32)), (0, .ref 90), (1, .ref x1), (2, .int x2), (3, .int x3), (4, .int x4)] [] h21 [] (by decide +kernel) rfl trivial ?_
          refine rs hG [(0, .ref 90), (1, .ref x1), (2, .int x2), (3, .int x3), (4, .int x4), (5, .int (0 : Int32))] [1, 2, 3, 4, 5, 0] rfl ?_
          exact l33 x4 (0 : Int32) h21 hO
    rw [eH11] at w9
    exact w9
  obtain ⟨g22, hOg22⟩ := ok_if hO
  subst g22
  have hO := hOg22
  obtain ⟨g23, hO⟩ := ok_if hO
  refine rbx hG 7 0 8 [.aload 1, .instanceof 706, .getfield 105, .istore 3] [] [] ((h.1 (Int32.toNatClampNeg (h.1 57 6)) 5)) (fun y24 => [(3, .int y24), (0, .ref 90), (1, .ref 57), (2, .int x2)]) (fun y24 => []) (fun y24 => h) [kd 57 = 7, kd (Int32.toNatClampNeg (h.1 57 6)) = 1] (by decide +kernel) rfl ⟨kd_57, g23⟩ hO (fun y24 hO => ?_)
  refine rb hG 5 8 11 [.ldc_w 0, .istore 4] [0] [] [(4, .int (0 : Int32)), (3, .int y24), (0, .ref 90), (1, .ref 57), (2, .int x2)] [] h [] (by decide +kernel) rfl trivial ?_
  refine rs hG [(0, .ref 90), (1, .ref 57), (2, .int x2), (3, .int y24), (4, .int (0 : Int32))] [2, 3, 4, 1, 0] rfl ?_
  exact l11 y24 (0 : Int32) h hO
/-! GrainInn.Rounds.spiedTable(I)I -/
noncomputable def N_spiedTable_j19 (s0 : Int32) (h : Hp) : Option Int32 := some s0
noncomputable def N_spiedTable (h : Hp) (x1 : Int32) : Option Int32 := (K_isOf x1 (0 : Int32) (4 : Int32)).bind fun r1 => if r1 = 0 then ((N_spiedTable_j19 (-1 : Int32) h)) else (if inb x1 (ln 97) then ((N_spiedTable_j19 (h.1 97 (Int32.toNatClampNeg x1)) h)) else none)
set_option maxRecDepth 100000 in
set_option maxHeartbeats 4000000 in
theorem c_N_spiedTable {E : En} {d : Nat} (h : Hp) (x1 : Int32) {P : Int32 → Prop} (hO : Okk (N_spiedTable h x1) P) : Cn E (d + 2) z_N_spiedTable [.ref 90, .int x1] h (RIp h P) := by
  refine cn_of (on := 5) (d := d + 1) ⟨rfl, by decide +kernel, Nat.le_of_ble_eq_true rfl⟩ (fun G hG => ?_)
  unfold N_spiedTable at hO
  show G 0 [(0, .ref 90), (1, .int x1)] [] h
  have j19 : ∀ (s0 : Int32), Okk (N_spiedTable_j19 s0 h) P → G 19 [] [.int s0] h := by
    intro s0 hO
    unfold N_spiedTable_j19 at hO
    exact eI hG 19 (by decide +kernel) rfl ⟨s0, rfl, rfl, ok_some (Q := P) hO⟩
  refine rb hG 6 0 3 [.iload 1, .ldc_w 0, .ldc_w 1] [0, 4] [] [(0, .ref 90), (1, .int x1)] [.int (4 : Int32), .int (0 : Int32), .int x1] h [] (by decide +kernel) rfl trivial ?_
  refine rt hG z_K_isOf 118 3 3 [.int x1, .int (0 : Int32), .int (4 : Int32)] [] (by decide +kernel) mk_K_isOf lk_5_118 rfl ⟨rfl, Nat.le_of_ble_eq_true rfl⟩ (c_K_isOf (d := d) h x1 (0 : Int32) (4 : Int32) (ok_bind hO)) ?_
  rintro _ _ ⟨r1, rfl, rfl, hO⟩
  refine ri hG .eq (12) 18 6 (by decide +kernel) (by decide) (fun c2 => ?_) (fun c2 => ?_)
  · have hO := ok_pos c2 hO
    refine rb hG 4 18 19 [.ldc_w 0] [-1] [] [(0, .ref 90), (1, .int x1)] [.int (-1 : Int32)] h [] (by decide +kernel) rfl trivial ?_
    refine rs hG [] [] rfl ?_
    exact j19 (-1 : Int32) hO
  · have hO := ok_neg c2 hO
    obtain ⟨g3, hO⟩ := ok_if hO
    refine rb hG 8 9 19 [.aload 0, .invokeinterface 503 7, .iload 1, .iaload] [] [] [(0, .ref 90), (1, .int x1)] [.int (h.1 97 (Int32.toNatClampNeg x1))] h [kd 90 = 5, kd 97 = 20 ∧ inb x1 (ln 97)] (by decide +kernel) rfl ⟨kd_90, ⟨kd_97, g3⟩⟩ ?_
    refine rs hG [] [] rfl ?_
    exact j19 (h.1 97 (Int32.toNatClampNeg x1)) hO
/-! GrainInn.spy(IIIII)I -/
noncomputable def K_spy_j34 (h : Hp) : Option (Int32 × Hp) := some ((-1 : Int32), h)
noncomputable def K_spy_j85 (s0 : Int32) (h : Hp) : Option (Int32 × Hp) := some (s0, h)
noncomputable def K_spy (h : Hp) (x1 : Int32) (x2 : Int32) (x3 : Int32) (x4 : Int32) (x5 : Int32) : Option (Int32 × Hp) := (K_reach h x1 x2 x3).bind fun (r1, h2) => if r1 = 0 then ((K_spy_j34 h2)) else (if r1 = 57 then ((S_seated h2).bind fun r5 => if r5 = 0 then ((K_isOf x4 (0 : Int32) (1024 : Int32)).bind fun r7 => if r7 = 0 then ((K_spy_j34 h2)) else ((N_spyOut h2 57 x4).bind fun (r9, h10) => if x5 = 0 then (some (r9, h10)) else ((K_isOf x5 (10 : Int32) r9).bind fun r12 => if r12 = 0 then ((K_spy_j85 (-1 : Int32) h10)) else ((N_spiedTable h10 (x5 - (10 : Int32))).bind fun r14 => (K_spy_j85 r14 h10))))) else ((K_spy_j34 h2))) else none)
set_option maxRecDepth 100000 in
set_option maxHeartbeats 4000000 in
theorem c_K_spy {E : En} {d : Nat} (h : Hp) (x1 : Int32) (x2 : Int32) (x3 : Int32) (x4 : Int32) (x5 : Int32) {P : (Int32 × Hp) → Prop} (hO : Okk (K_spy h x1 x2 x3 x4 x5) P) : Cn E (d + 8) z_K_spy [.ref 1, .int x1, .int x2, .int x3, .int x4, .int x5] h (RI P) := by
  refine cn_of (on := 11) (d := d + 7) ⟨rfl, by decide +kernel, Nat.le_of_ble_eq_true rfl⟩ (fun G hG => ?_)
  unfold K_spy at hO
  show G 0 [(0, .ref 1), (1, .int x1), (2, .int x2), (3, .int x3), (4, .int x4), (5, .int x5)] [] h
  have j34 : ∀ (h : Hp), Okk (K_spy_j34 h) P → G 34 [] [] h := by
    intro h hO
    unfold K_spy_j34 at hO
    refine rb hG 4 34 35 [.ldc_w 0] [-1] [] [] [.int (-1 : Int32)] h [] (by decide +kernel) rfl trivial ?_
    exact eI hG 35 (by decide +kernel) rfl ⟨(-1 : Int32), rfl, ok_some (Q := P) hO⟩
  have j85 : ∀ (s0 : Int32) (h : Hp), Okk (K_spy_j85 s0 h) P → G 85 [] [.int s0] h := by
    intro s0 h hO
    unfold K_spy_j85 at hO
    exact eI hG 85 (by decide +kernel) rfl ⟨s0, rfl, ok_some (Q := P) hO⟩
  refine rb hG 7 0 4 [.aload 0, .iload 1, .iload 2, .iload 3] [] [] [(0, .ref 1), (1, .int x1), (2, .int x2), (3, .int x3), (4, .int x4), (5, .int x5)] [.int x3, .int x2, .int x1, .ref 1] h [] (by decide +kernel) rfl trivial ?_
  refine rv hG z_K_reach 155 3 4 1 [.int x1, .int x2, .int x3] [] (by decide +kernel) mk_K_reach lk_11_155 rcv_1 rfl ⟨rfl, Nat.le_of_ble_eq_true rfl⟩ (c_K_reach (d := d) h x1 x2 x3 (ok_bind hO)) ?_
  rintro _ h2 ⟨r1, rfl, hO⟩
  refine rb hG 5 7 11 [.astore 6, .aload 6] [] [] [(6, .ref r1), (0, .ref 1), (1, .int x1), (2, .int x2), (3, .int x3), (4, .int x4), (5, .int x5)] [.ref r1] h2 [] (by decide +kernel) rfl trivial ?_
  refine rn hG (23) 34 11 (by decide +kernel) (by decide) (fun c3 => ?_) (fun c3 => ?_)
  · have hO := ok_pos c3 hO
    refine rs hG [] [] rfl ?_
    exact j34 h2 hO
  · have hO := ok_neg c3 hO
    obtain ⟨g4, hOg4⟩ := ok_if hO
    subst g4
    have hO := hOg4
    refine rb hG 4 14 16 [.aload 6] [] [] [(6, .ref 57), (0, .ref 1), (1, .int x1), (2, .int x2), (3, .int x3), (4, .int x4), (5, .int x5)] [.ref 57] h2 [] (by decide +kernel) rfl trivial ?_
    refine rv hG z_S_seated 172 0 16 57 [] [] (by decide +kernel) mk_S_seated lk_11_172 rcv_57 rfl ⟨rfl, Nat.le_of_ble_eq_true rfl⟩ (c_S_seated (d := d + 6) h2 (ok_bind hO)) ?_
    rintro _ _ ⟨r5, rfl, rfl, hO⟩
    refine riN hG (15) 34 19 (by decide +kernel) (by decide) (fun c6 => ?_) (fun c6 => ?_)
    · have hO := ok_pos c6 hO
      refine rb hG 6 22 28 [.iload 4, .ldc_w 0, .ldc_w 1] [0, 1024] [] [(6, .ref 57), (0, .ref 1), (1, .int x1), (2, .int x2), (3, .int x3), (4, .int x4), (5, .int x5)] [.int (1024 : Int32), .int (0 : Int32), .int x4] h2 [] (by decide +kernel) rfl trivial ?_
      refine rt hG z_K_isOf 119 3 28 [.int x4, .int (0 : Int32), .int (1024 : Int32)] [] (by decide +kernel) mk_K_isOf lk_11_119 rfl ⟨rfl, Nat.le_of_ble_eq_true rfl⟩ (c_K_isOf (d := d + 6) h2 x4 (0 : Int32) (1024 : Int32) (ok_bind hO)) ?_
      rintro _ _ ⟨r7, rfl, rfl, hO⟩
      refine riN hG (5) 36 31 (by decide +kernel) (by decide) (fun c8 => ?_) (fun c8 => ?_)
      · have hO := ok_pos c8 hO
        refine rs hG [] [] rfl ?_
        exact j34 h2 hO
      · have hO := ok_neg c8 hO
        refine rb hG 7 36 44 [.aload 0, .invokeinterface 1105 89, .aload 6, .iload 4] [] [] [(6, .ref 57), (0, .ref 1), (1, .int x1), (2, .int x2), (3, .int x3), (4, .int x4), (5, .int x5)] [.int x4, .ref 57, .ref 90] h2 [kd 1 = 11] (by decide +kernel) rfl kd_1 ?_
        refine rv hG z_N_spyOut 339 2 44 90 [.ref 57, .int x4] [] (by decide +kernel) mk_N_spyOut lk_11_339 rcv_90 rfl ⟨rfl, Nat.le_of_ble_eq_true rfl⟩ (c_N_spyOut (d := d + 3) h2 57 x4 (ok_bind hO)) ?_
        rintro _ h10 ⟨r9, rfl, hO⟩
        refine rb hG 5 47 51 [.istore 7, .iload 5] [] [] [(7, .int r9), (6, .ref 57), (0, .ref 1), (1, .int x1), (2, .int x2), (3, .int x3), (4, .int x4), (5, .int x5)] [.int x5] h10 [] (by decide +kernel) rfl trivial ?_
        refine riN hG (6) 57 51 (by decide +kernel) (by decide) (fun c11 => ?_) (fun c11 => ?_)
        · have hO := ok_pos c11 hO
          refine rb hG 4 54 56 [.iload 7] [] [] [(7, .int r9), (6, .ref 57), (0, .ref 1), (1, .int x1), (2, .int x2), (3, .int x3), (4, .int x4), (5, .int x5)] [.int r9] h10 [] (by decide +kernel) rfl trivial ?_
          exact eI hG 56 (by decide +kernel) rfl ⟨r9, rfl, ok_some (Q := P) hO⟩
        · have hO := ok_neg c11 hO
          refine rb hG 6 57 63 [.iload 5, .ldc_w 0, .iload 7] [10] [] [(7, .int r9), (6, .ref 57), (0, .ref 1), (1, .int x1), (2, .int x2), (3, .int x3), (4, .int x4), (5, .int x5)] [.int r9, .int (10 : Int32), .int x5] h10 [] (by decide +kernel) rfl trivial ?_
          refine rt hG z_K_isOf 119 3 63 [.int x5, .int (10 : Int32), .int r9] [] (by decide +kernel) mk_K_isOf lk_11_119 rfl ⟨rfl, Nat.le_of_ble_eq_true rfl⟩ (c_K_isOf (d := d + 6) h10 x5 (10 : Int32) r9 (ok_bind hO)) ?_
          rintro _ _ ⟨r12, rfl, rfl, hO⟩
          refine ri hG .eq (18) 84 66 (by decide +kernel) (by decide) (fun c13 => ?_) (fun c13 => ?_)
          · have hO := ok_pos c13 hO
            refine rb hG 4 84 85 [.ldc_w 0] [-1] [] [(7, .int r9), (6, .ref 57), (0, .ref 1), (1, .int x1), (2, .int x2), (3, .int x3), (4, .int x4), (5, .int x5)] [.int (-1 : Int32)] h10 [] (by decide +kernel) rfl trivial ?_
            refine rs hG [] [] rfl ?_
            exact j85 (-1 : Int32) h10 hO
          · have hO := ok_neg c13 hO
            refine rb hG 8 69 78 [.aload 0, .invokeinterface 1105 89, .iload 5, .ldc_w 0, .isub] [10] [] [(7, .int r9), (6, .ref 57), (0, .ref 1), (1, .int x1), (2, .int x2), (3, .int x3), (4, .int x4), (5, .int x5)] [.int (x5 - (10 : Int32)), .ref 90] h10 [kd 1 = 11] (by decide +kernel) rfl kd_1 ?_
            refine rv hG z_N_spiedTable 342 1 78 90 [.int (x5 - (10 : Int32))] [] (by decide +kernel) mk_N_spiedTable lk_11_342 rcv_90 rfl ⟨rfl, Nat.le_of_ble_eq_true rfl⟩ (c_N_spiedTable (d := d + 5) h10 (x5 - (10 : Int32)) (ok_bind hO)) ?_
            rintro _ _ ⟨r14, rfl, rfl, hO⟩
            refine rb hG 4 81 85 [] [] [] [(7, .int r9), (6, .ref 57), (0, .ref 1), (1, .int x1), (2, .int x2), (3, .int x3), (4, .int x4), (5, .int x5)] [.int r14] h10 [] (by decide +kernel) rfl trivial ?_
            refine rs hG [] [] rfl ?_
            exact j85 r14 h10 hO
    · have hO := ok_neg c6 hO
      refine rs hG [] [] rfl ?_
      exact j34 h2 hO
/-! GrainInnModel.spied(III)I -/
noncomputable def M_spied_j136 (x3 : Int32) (x4 : Int32) (h : Hp) : Option (Int32 × Hp) := some ((x3 &&& (x4 ^^^ (-1 : Int32))), h)
noncomputable def M_spied_j116 (x1 : Int32) (x2 : Int32) (x3 : Int32) (x4 : Int32) (x5 : Int32) (x6 : Int32) (x7 : Int32) (h : Hp) : Option ((Int32 × Int32 × Int32 × Hp) ⊕ (Int32 × Hp)) := if inb x7 (ln 268) then (bnd (wr h 268 (Int32.toNatClampNeg x7) (1 : Int32)) fun h2 => (M_becomesPast h2 x7).bind fun h3 => bnd ((x6 + (1 : Int32))) fun y4 => some (.inl (x4, x5, y4, h3))) else none
noncomputable def M_spied_b33 (x1 : Int32) (x2 : Int32) (x3 : Int32) (x4 : Int32) (x5 : Int32) (x6 : Int32) (h : Hp) : Option ((Int32 × Int32 × Int32 × Hp) ⊕ (Int32 × Hp)) := if x2 ≤ x6 then (((M_spied_j136 x3 x4 h).map Sum.inr)) else (if ¬ x5 = 0 then (if ¬ (h.1 251 24) = 0 then (bnd ((rm (x1 / x5) (h.1 251 24))) fun y8 => if ¬ (h.1 251 24) = 0 then (bnd ((x5 / (h.1 251 24))) fun y10 => if inb y8 (ln 266) then (if (h.1 266 (Int32.toNatClampNeg y8)) ≤ 0 then ((M_spied_j116 x1 x2 x3 x4 y10 x6 y8 h)) else (if inb y8 (ln 267) then (if inb (((16 : Int32) * y8) + (h.1 267 (Int32.toNatClampNeg y8))) (ln 264) then (bnd ((x4 ||| (h.1 264 (Int32.toNatClampNeg (((16 : Int32) * y8) + (h.1 267 (Int32.toNatClampNeg y8))))))) fun y15 => if inb y8 (ln 267) then (if inb y8 (ln 266) then (if ¬ (h.1 266 (Int32.toNatClampNeg y8)) = 0 then (if inb y8 (ln 267) then (bnd (wr h 267 (Int32.toNatClampNeg y8) (rm ((h.1 267 (Int32.toNatClampNeg y8)) + (1 : Int32)) (h.1 266 (Int32.toNatClampNeg y8)))) fun h20 => (M_spied_j116 x1 x2 x3 y15 y10 x6 y8 h20)) else none) else none) else none) else none) else none) else none)) else none) else none) else none) else none)
noncomputable def M_spied_l33 (x1 : Int32) (x2 : Int32) (x3 : Int32) (x4 : Int32) (x5 : Int32) (x6 : Int32) (h : Hp) : Option (Int32 × Hp) := lp (fun s : (Int32 × Int32 × Int32 × Hp) => M_spied_b33 x1 x2 x3 s.1 s.2.1 s.2.2.1 s.2.2.2) (x4, x5, x6, h)
theorem M_spied_l33_eq (x1 : Int32) (x2 : Int32) (x3 : Int32) (x4 : Int32) (x5 : Int32) (x6 : Int32) (h : Hp) : M_spied_l33 x1 x2 x3 x4 x5 x6 h = (M_spied_b33 x1 x2 x3 x4 x5 x6 h).bind (Sum.elim (fun q : (Int32 × Int32 × Int32 × Hp) => M_spied_l33 x1 x2 x3 q.1 q.2.1 q.2.2.1 q.2.2.2) some) := lp_eq _ _
noncomputable def M_spied_j30 (x1 : Int32) (x2 : Int32) (x3 : Int32) (x4 : Int32) (x5 : Int32) (h : Hp) : Option (Int32 × Hp) := (M_spied_l33 x1 x2 x3 x4 x5 (0 : Int32) h)
noncomputable def M_spied_b9 (x1 : Int32) (x2 : Int32) (x3 : Int32) (x4 : Int32) (x5 : Int32) (x6 : Int32) (h : Hp) : Option ((Int32 × Int32) ⊕ (Int32 × Hp)) := if x2 ≤ x6 then (((M_spied_j30 x1 x2 x3 x4 x5 h).map Sum.inr)) else (bnd ((x5 * (h.1 251 24))) fun y22 => bnd ((x6 + (1 : Int32))) fun y23 => some (.inl (y22, y23)))
noncomputable def M_spied_l9 (x1 : Int32) (x2 : Int32) (x3 : Int32) (x4 : Int32) (x5 : Int32) (x6 : Int32) (h : Hp) : Option (Int32 × Hp) := lp (fun s : (Int32 × Int32) => M_spied_b9 x1 x2 x3 x4 s.1 s.2 h) (x5, x6)
theorem M_spied_l9_eq (x1 : Int32) (x2 : Int32) (x3 : Int32) (x4 : Int32) (x5 : Int32) (x6 : Int32) (h : Hp) : M_spied_l9 x1 x2 x3 x4 x5 x6 h = (M_spied_b9 x1 x2 x3 x4 x5 x6 h).bind (Sum.elim (fun q : (Int32 × Int32) => M_spied_l9 x1 x2 x3 x4 q.1 q.2 h) some) := lp_eq _ _
noncomputable def M_spied (h : Hp) (x1 : Int32) (x2 : Int32) (x3 : Int32) : Option (Int32 × Hp) := (M_spied_l9 x1 x2 x3 (0 : Int32) (1 : Int32) (1 : Int32) h)
set_option maxRecDepth 100000 in
set_option maxHeartbeats 4000000 in
theorem c_M_spied {E : En} {d : Nat} (h : Hp) (x1 : Int32) (x2 : Int32) (x3 : Int32) {P : (Int32 × Hp) → Prop} (hO : Okk (M_spied h x1 x2 x3) P) : Cn E (d + 5) z_M_spied [.ref 251, .int x1, .int x2, .int x3] h (RI P) := by
  refine cn_of (on := 12) (d := d + 4) ⟨rfl, by decide +kernel, Nat.le_of_ble_eq_true rfl⟩ (fun G hG => ?_)
  unfold M_spied at hO
  show G 0 [(0, .ref 251), (1, .int x1), (2, .int x2), (3, .int x3)] [] h
  have j136 : ∀ (x4 : Int32) (h : Hp), Okk (M_spied_j136 x3 x4 h) P → G 136 [(3, .int x3), (4, .int x4)] [] h := by
    intro x4 h hO
    unfold M_spied_j136 at hO
    refine rb hG 8 136 142 [.iload 3, .iload 4, .ldc_w 0, .ixor, .iand] [-1] [] [(3, .int x3), (4, .int x4)] [.int (x3 &&& (x4 ^^^ (-1 : Int32)))] h [] (by decide +kernel) rfl trivial ?_
    exact eI hG 142 (by decide +kernel) rfl ⟨(x3 &&& (x4 ^^^ (-1 : Int32))), rfl, ok_some (Q := P) hO⟩
  have l33 : ∀ (x4 : Int32) (x5 : Int32) (x6 : Int32) (h : Hp), Okk (M_spied_l33 x1 x2 x3 x4 x5 x6 h) P → G 33 [(0, .ref 251), (1, .int x1), (2, .int x2), (3, .int x3), (4, .int x4), (5, .int x5), (6, .int x6)] [] h := by
    intro x4 x5 x6 h hO
    obtain ⟨H33, eH33⟩ : ∃ q : (Int32 × Int32 × Int32 × Hp) → Prop, q = fun s => G 33 [(0, .ref 251), (1, .int x1), (2, .int x2), (3, .int x3), (4, .int (s.1)), (5, .int (s.2.1)), (6, .int (s.2.2.1))] [] (s.2.2.2) := ⟨_, rfl⟩
    have w9 : H33 (x4, x5, x6, h) := by
      refine lp_wp (f := fun s : (Int32 × Int32 × Int32 × Hp) => M_spied_b33 x1 x2 x3 s.1 s.2.1 s.2.2.1 s.2.2.2) (H := H33) (Q := P) ?_ (x4, x5, x6, h) hO
      rintro ⟨x4, x5, x6, h⟩ hO
      rw [eH33]
      show G 33 [(0, .ref 251), (1, .int x1), (2, .int x2), (3, .int x3), (4, .int x4), (5, .int x5), (6, .int x6)] [] h
      have k33 : ∀ s : (Int32 × Int32 × Int32 × Hp), H33 s → G 33 [(0, .ref 251), (1, .int x1), (2, .int x2), (3, .int x3), (4, .int (s.1)), (5, .int (s.2.1)), (6, .int (s.2.2.1))] [] (s.2.2.2) := fun s q => by rw [eH33] at q; exact q
      replace hO : Okk (M_spied_b33 x1 x2 x3 x4 x5 x6 h) (Sum.elim H33 P) := hO
      clear eH33
      have j116 : ∀ (x4 : Int32) (x5 : Int32) (x6 : Int32) (x7 : Int32) (h : Hp), Okk (M_spied_j116 x1 x2 x3 x4 x5 x6 x7 h) (Sum.elim H33 P) → G 116 [(0, .ref 251), (1, .int x1), (2, .int x2), (3, .int x3), (4, .int x4), (5, .int x5), (6, .int x6), (7, .int x7)] [] h := by
        intro x4 x5 x6 x7 h hO
        unfold M_spied_j116 at hO
        obtain ⟨g1, hO⟩ := ok_if hO
        refine rbx hG 8 116 124 [.aload 0, .invokeinterface 1232 17, .iload 7, .ldc_w 0, .iastore] [1] [] (wr h 268 (Int32.toNatClampNeg x7) (1 : Int32)) (fun h2 => [(0, .ref 251), (1, .int x1), (2, .int x2), (3, .int x3), (4, .int x4), (5, .int x5), (6, .int x6), (7, .int x7)]) (fun h2 => []) (fun h2 => h2) [kd 251 = 12, kd 268 = 20 ∧ inb x7 (ln 268)] (by decide +kernel) rfl ⟨kd_251, ⟨kd_268, g1⟩⟩ hO (fun h2 hO => ?_)
        refine rb hG 5 124 127 [.aload 0, .iload 7] [] [] [(0, .ref 251), (1, .int x1), (2, .int x2), (3, .int x3), (4, .int x4), (5, .int x5), (6, .int x6), (7, .int x7)] [.int x7, .ref 251] h2 [] (by decide +kernel) rfl trivial ?_
        refine rv hG z_M_becomesPast 329 1 127 251 [.int x7] [] (by decide +kernel) mk_M_becomesPast lk_12_329 rcv_251 rfl ⟨rfl, Nat.le_of_ble_eq_true rfl⟩ (c_M_becomesPast (d := d) h2 x7 (ok_bind hO)) ?_
        rintro _ h3 ⟨rfl, hO⟩
        refine rbx hG 4 130 133 [.iinc 6 0] [1] [] ((x6 + (1 : Int32))) (fun y4 => [(6, .int y4), (0, .ref 251), (1, .int x1), (2, .int x2), (3, .int x3), (4, .int x4), (5, .int x5), (7, .int x7)]) (fun y4 => []) (fun y4 => h3) [] (by decide +kernel) rfl trivial hO (fun y4 hO => ?_)
        refine rb hG 4 133 33 [] [] [] [(6, .int y4), (0, .ref 251), (1, .int x1), (2, .int x2), (3, .int x3), (4, .int x4), (5, .int x5), (7, .int x7)] [] h3 [] (by decide +kernel) rfl trivial ?_
        refine rs hG [(0, .ref 251), (1, .int x1), (2, .int x2), (3, .int x3), (4, .int x4), (5, .int x5), (6, .int y4)] [1, 2, 3, 4, 5, 6, 0] rfl ?_
        exact k33 (x4, x5, y4, h3) (ok_some (Q := (Sum.elim H33 P)) hO)
      unfold M_spied_b33 at hO
      refine rb hG 5 33 36 [.iload 6, .iload 2] [] [] [(0, .ref 251), (1, .int x1), (2, .int x2), (3, .int x3), (4, .int x4), (5, .int x5), (6, .int x6)] [.int x2, .int x6] h [] (by decide +kernel) rfl trivial ?_
      refine rj hG .ge (100) 136 36 (by decide +kernel) (by decide) (fun c5 => ?_) (fun c5 => ?_)
      · have hO := ok_pos c5 hO
        refine rs hG [(3, .int x3), (4, .int x4)] [3, 4] rfl ?_
        exact j136 x4 h (ok_inr hO)
      · have hO := ok_neg c5 hO
        obtain ⟨g6, hO⟩ := ok_if hO
        obtain ⟨g7, hO⟩ := ok_if hO
        refine rbx hG 10 39 50 [.iload 1, .iload 5, .idiv, .aload 0, .getfield 1224, .irem, .istore 7] [] [] ((rm (x1 / x5) (h.1 251 24))) (fun y8 => [(7, .int y8), (0, .ref 251), (1, .int x1), (2, .int x2), (3, .int x3), (4, .int x4), (5, .int x5), (6, .int x6)]) (fun y8 => []) (fun y8 => h) [¬ x5 = 0, kd 251 = 12, ¬ (h.1 251 24) = 0] (by decide +kernel) rfl ⟨g6, kd_251, g7⟩ hO (fun y8 hO => ?_)
        obtain ⟨g9, hO⟩ := ok_if hO
        refine rbx hG 8 50 59 [.iload 5, .aload 0, .getfield 1224, .idiv, .istore 5] [] [] ((x5 / (h.1 251 24))) (fun y10 => [(5, .int y10), (7, .int y8), (0, .ref 251), (1, .int x1), (2, .int x2), (3, .int x3), (4, .int x4), (6, .int x6)]) (fun y10 => []) (fun y10 => h) [kd 251 = 12, ¬ (h.1 251 24) = 0] (by decide +kernel) rfl ⟨kd_251, g9⟩ hO (fun y10 hO => ?_)
        obtain ⟨g11, hO⟩ := ok_if hO
        refine rb hG 7 59 66 [.aload 0, .invokeinterface 1230 15, .iload 7, .iaload] [] [] [(5, .int y10), (7, .int y8), (0, .ref 251), (1, .int x1), (2, .int x2), (3, .int x3), (4, .int x4), (6, .int x6)] [.int (h.1 266 (Int32.toNatClampNeg y8))] h [kd 251 = 12, kd 266 = 20 ∧ inb y8 (ln 266)] (by decide +kernel) rfl ⟨kd_251, ⟨kd_266, g11⟩⟩ ?_
        refine ri hG .le (50) 116 66 (by decide +kernel) (by decide) (fun c12 => ?_) (fun c12 => ?_)
        · have hO := ok_pos c12 hO
          refine rs hG [(0, .ref 251), (1, .int x1), (2, .int x2), (3, .int x3), (4, .int x4), (5, .int y10), (6, .int x6), (7, .int y8)] [2, 3, 4, 5, 6, 0, 7, 1] rfl ?_
          exact j116 x4 y10 x6 y8 h hO
        · have hO := ok_neg c12 hO
          obtain ⟨g13, hO⟩ := ok_if hO
          obtain ⟨g14, hO⟩ := ok_if hO
          refine rbx hG 17 69 92 [.iload 4, .aload 0, .invokeinterface 1228 13, .ldc_w 0, .iload 7, .imul, .aload 0, .invokeinterface 1231 16, .iload 7, .iaload, .iadd, .iaload, .ior, .istore 4] [16] [] ((x4 ||| (h.1 264 (Int32.toNatClampNeg (((16 : Int32) * y8) + (h.1 267 (Int32.toNatClampNeg y8))))))) (fun y15 => [(4, .int y15), (5, .int y10), (7, .int y8), (0, .ref 251), (1, .int x1), (2, .int x2), (3, .int x3), (6, .int x6)]) (fun y15 => []) (fun y15 => h) [kd 251 = 12, kd 251 = 12, kd 267 = 20 ∧ inb y8 (ln 267), kd 264 = 20 ∧ inb (((16 : Int32) * y8) + (h.1 267 (Int32.toNatClampNeg y8))) (ln 264)] (by decide +kernel) rfl ⟨kd_251, kd_251, ⟨kd_267, g13⟩, ⟨kd_264, g14⟩⟩ hO (fun y15 hO => ?_)
          obtain ⟨g16, hO⟩ := ok_if hO
          obtain ⟨g17, hO⟩ := ok_if hO
          obtain ⟨g18, hO⟩ := ok_if hO
          obtain ⟨g19, hO⟩ := ok_if hO
          refine rbx hG 18 92 116 [.aload 0, .invokeinterface 1231 16, .iload 7, .aload 0, .invokeinterface 1231 16, .iload 7, .iaload, .ldc_w 0, .iadd, .aload 0, .invokeinterface 1230 15, .iload 7, .iaload, .irem, .iastore] [1] [] (wr h 267 (Int32.toNatClampNeg y8) (rm ((h.1 267 (Int32.toNatClampNeg y8)) + (1 : Int32)) (h.1 266 (Int32.toNatClampNeg y8)))) (fun h20 => [(4, .int y15), (5, .int y10), (7, .int y8), (0, .ref 251), (1, .int x1), (2, .int x2), (3, .int x3), (6, .int x6)]) (fun h20 => []) (fun h20 => h20) [kd 251 = 12, kd 251 = 12, kd 267 = 20 ∧ inb y8 (ln 267), kd 251 = 12, kd 266 = 20 ∧ inb y8 (ln 266), ¬ (h.1 266 (Int32.toNatClampNeg y8)) = 0, kd 267 = 20 ∧ inb y8 (ln 267)] (by decide +kernel) rfl ⟨kd_251, kd_251, ⟨kd_267, g16⟩, kd_251, ⟨kd_266, g17⟩, g18, ⟨kd_267, g19⟩⟩ hO (fun h20 hO => ?_)
          refine rs hG [(0, .ref 251), (1, .int x1), (2, .int x2), (3, .int x3), (4, .int y15), (5, .int y10), (6, .int x6), (7, .int y8)] [3, 4, 5, 6, 0, 1, 7, 2] rfl ?_
          exact j116 y15 y10 x6 y8 h20 hO
    rw [eH33] at w9
    exact w9
  have j30 : ∀ (x4 : Int32) (x5 : Int32) (h : Hp), Okk (M_spied_j30 x1 x2 x3 x4 x5 h) P → G 30 [(0, .ref 251), (1, .int x1), (2, .int x2), (3, .int x3), (4, .int x4), (5, .int x5)] [] h := by
    intro x4 x5 h hO
    unfold M_spied_j30 at hO
    refine rb hG 5 30 33 [.ldc_w 0, .istore 6] [0] [] [(6, .int (0 : Int32)), (0, .ref 251), (1, .int x1), (2, .int x2), (3, .int x3), (4, .int x4), (5, .int x5)] [] h [] (by decide +kernel) rfl trivial ?_
    refine rs hG [(0, .ref 251), (1, .int x1), (2, .int x2), (3, .int x3), (4, .int x4), (5, .int x5), (6, .int (0 : Int32))] [1, 2, 3, 4, 5, 6, 0] rfl ?_
    exact l33 x4 x5 (0 : Int32) h hO
  have l9 : ∀ (x4 : Int32) (x5 : Int32) (x6 : Int32) (h : Hp), Okk (M_spied_l9 x1 x2 x3 x4 x5 x6 h) P → G 9 [(0, .ref 251), (1, .int x1), (2, .int x2), (3, .int x3), (4, .int x4), (5, .int x5), (6, .int x6)] [] h := by
    intro x4 x5 x6 h hO
    obtain ⟨H9, eH9⟩ : ∃ q : (Int32 × Int32) → Prop, q = fun s => G 9 [(0, .ref 251), (1, .int x1), (2, .int x2), (3, .int x3), (4, .int x4), (5, .int (s.1)), (6, .int (s.2))] [] (h) := ⟨_, rfl⟩
    have w9 : H9 (x5, x6) := by
      refine lp_wp (f := fun s : (Int32 × Int32) => M_spied_b9 x1 x2 x3 x4 s.1 s.2 h) (H := H9) (Q := P) ?_ (x5, x6) hO
      rintro ⟨x5, x6⟩ hO
      rw [eH9]
      show G 9 [(0, .ref 251), (1, .int x1), (2, .int x2), (3, .int x3), (4, .int x4), (5, .int x5), (6, .int x6)] [] h
      have k9 : ∀ s : (Int32 × Int32), H9 s → G 9 [(0, .ref 251), (1, .int x1), (2, .int x2), (3, .int x3), (4, .int x4), (5, .int (s.1)), (6, .int (s.2))] [] (h) := fun s q => by rw [eH9] at q; exact q
      replace hO : Okk (M_spied_b9 x1 x2 x3 x4 x5 x6 h) (Sum.elim H9 P) := hO
      clear eH9
      unfold M_spied_b9 at hO
      refine rb hG 5 9 12 [.iload 6, .iload 2] [] [] [(0, .ref 251), (1, .int x1), (2, .int x2), (3, .int x3), (4, .int x4), (5, .int x5), (6, .int x6)] [.int x2, .int x6] h [] (by decide +kernel) rfl trivial ?_
      refine rj hG .ge (18) 30 12 (by decide +kernel) (by decide) (fun c21 => ?_) (fun c21 => ?_)
      · have hO := ok_pos c21 hO
        refine rs hG [(0, .ref 251), (1, .int x1), (2, .int x2), (3, .int x3), (4, .int x4), (5, .int x5)] [0, 1, 2, 3, 4, 5] rfl ?_
        exact j30 x4 x5 h (ok_inr hO)
      · have hO := ok_neg c21 hO
        refine rbx hG 8 15 24 [.iload 5, .aload 0, .getfield 1224, .imul, .istore 5] [] [] ((x5 * (h.1 251 24))) (fun y22 => [(5, .int y22), (0, .ref 251), (1, .int x1), (2, .int x2), (3, .int x3), (4, .int x4), (6, .int x6)]) (fun y22 => []) (fun y22 => h) [kd 251 = 12] (by decide +kernel) rfl kd_251 hO (fun y22 hO => ?_)
        refine rbx hG 4 24 27 [.iinc 6 0] [1] [] ((x6 + (1 : Int32))) (fun y23 => [(6, .int y23), (5, .int y22), (0, .ref 251), (1, .int x1), (2, .int x2), (3, .int x3), (4, .int x4)]) (fun y23 => []) (fun y23 => h) [] (by decide +kernel) rfl trivial hO (fun y23 hO => ?_)
        refine rb hG 4 27 9 [] [] [] [(6, .int y23), (5, .int y22), (0, .ref 251), (1, .int x1), (2, .int x2), (3, .int x3), (4, .int x4)] [] h [] (by decide +kernel) rfl trivial ?_
        refine rs hG [(0, .ref 251), (1, .int x1), (2, .int x2), (3, .int x3), (4, .int x4), (5, .int y22), (6, .int y23)] [2, 3, 4, 5, 6, 1, 0] rfl ?_
        exact k9 (y22, y23) (ok_some (Q := (Sum.elim H9 P)) hO)
    rw [eH9] at w9
    exact w9
  refine rb hG 9 0 9 [.ldc_w 0, .istore 4, .ldc_w 1, .istore 5, .ldc_w 1, .istore 6] [0, 1] [] [(6, .int (1 : Int32)), (5, .int (1 : Int32)), (4, .int (0 : Int32)), (0, .ref 251), (1, .int x1), (2, .int x2), (3, .int x3)] [] h [] (by decide +kernel) rfl trivial ?_
  refine rs hG [(0, .ref 251), (1, .int x1), (2, .int x2), (3, .int x3), (4, .int (0 : Int32)), (5, .int (1 : Int32)), (6, .int (1 : Int32))] [3, 4, 5, 6, 2, 1, 0] rfl ?_
  exact l9 (0 : Int32) (1 : Int32) (1 : Int32) h hO
/-! GrainInnModel.findSpy(II)V -/
noncomputable def M_findSpy_j90 (h : Hp) : Option Hp := some h
noncomputable def M_findSpy_j77 (x1 : Int32) (x2 : Int32) (x3 : Int32) (x4 : Int32) (h : Hp) : Option ((Int32 × Int32 × Hp) ⊕ Hp) := bnd ((x3 * (h.1 251 24))) fun y1 => bnd ((x4 + (1 : Int32))) fun y2 => some (.inl (y1, y2, h))
noncomputable def M_findSpy_j71 (x1 : Int32) (x2 : Int32) (x3 : Int32) (x4 : Int32) (x5 : Int32) (h : Hp) : Option ((Int32 × Hp) ⊕ ((Int32 × Int32 × Hp) ⊕ Hp)) := bnd ((x5 + (1 : Int32))) fun y3 => some (.inl (y3, h))
noncomputable def M_findSpy_b27 (x1 : Int32) (x2 : Int32) (x3 : Int32) (x4 : Int32) (x5 : Int32) (h : Hp) : Option ((Int32 × Hp) ⊕ ((Int32 × Int32 × Hp) ⊕ Hp)) := if x3 ≤ x5 then (((M_findSpy_j77 x1 x2 x3 x4 h).map Sum.inr)) else (if (h.1 251 57) = (-1 : Int32) then ((M_play h x1).bind fun (r6, h7) => (M_spied h7 x5 x4 x2).bind fun (r8, h9) => if r8 = 0 then (bnd (wr h9 251 57 x4) fun h11 => bnd (wr h11 251 58 x5) fun h12 => (M_findSpy_j71 x1 x2 x3 x4 x5 h12)) else ((M_findSpy_j71 x1 x2 x3 x4 x5 h9))) else (((M_findSpy_j77 x1 x2 x3 x4 h).map Sum.inr)))
noncomputable def M_findSpy_l27 (x1 : Int32) (x2 : Int32) (x3 : Int32) (x4 : Int32) (x5 : Int32) (h : Hp) : Option ((Int32 × Int32 × Hp) ⊕ Hp) := lp (fun s : (Int32 × Hp) => M_findSpy_b27 x1 x2 x3 x4 s.1 s.2) (x5, h)
theorem M_findSpy_l27_eq (x1 : Int32) (x2 : Int32) (x3 : Int32) (x4 : Int32) (x5 : Int32) (h : Hp) : M_findSpy_l27 x1 x2 x3 x4 x5 h = (M_findSpy_b27 x1 x2 x3 x4 x5 h).bind (Sum.elim (fun q : (Int32 × Hp) => M_findSpy_l27 x1 x2 x3 x4 q.1 q.2) some) := lp_eq _ _
noncomputable def M_findSpy_b10 (x1 : Int32) (x2 : Int32) (x3 : Int32) (x4 : Int32) (h : Hp) : Option ((Int32 × Int32 × Hp) ⊕ Hp) := if (5 : Int32) ≤ x4 then (((M_findSpy_j90 h).map Sum.inr)) else (if (h.1 251 57) = (-1 : Int32) then ((M_findSpy_l27 x1 x2 x3 x4 (0 : Int32) h)) else (((M_findSpy_j90 h).map Sum.inr)))
noncomputable def M_findSpy_l10 (x1 : Int32) (x2 : Int32) (x3 : Int32) (x4 : Int32) (h : Hp) : Option Hp := lp (fun s : (Int32 × Int32 × Hp) => M_findSpy_b10 x1 x2 s.1 s.2.1 s.2.2) (x3, x4, h)
theorem M_findSpy_l10_eq (x1 : Int32) (x2 : Int32) (x3 : Int32) (x4 : Int32) (h : Hp) : M_findSpy_l10 x1 x2 x3 x4 h = (M_findSpy_b10 x1 x2 x3 x4 h).bind (Sum.elim (fun q : (Int32 × Int32 × Hp) => M_findSpy_l10 x1 x2 q.1 q.2.1 q.2.2) some) := lp_eq _ _
noncomputable def M_findSpy (h : Hp) (x1 : Int32) (x2 : Int32) : Option Hp := bnd (wr h 251 57 (-1 : Int32)) fun h15 => (M_findSpy_l10 x1 x2 (1 : Int32) (0 : Int32) h15)
set_option maxRecDepth 100000 in
set_option maxHeartbeats 4000000 in
theorem c_M_findSpy {E : En} {d : Nat} (h : Hp) (x1 : Int32) (x2 : Int32) {P : Hp → Prop} (hO : Okk (M_findSpy h x1 x2) P) : Cn E (d + 8) z_M_findSpy [.ref 251, .int x1, .int x2] h (RV P) := by
  refine cn_of (on := 12) (d := d + 7) ⟨rfl, by decide +kernel, Nat.le_of_ble_eq_true rfl⟩ (fun G hG => ?_)
  unfold M_findSpy at hO
  show G 0 [(0, .ref 251), (1, .int x1), (2, .int x2)] [] h
  have j90 : ∀ (h : Hp), Okk (M_findSpy_j90 h) P → G 90 [] [] h := by
    intro h hO
    unfold M_findSpy_j90 at hO
    exact eV hG 90 (by decide +kernel) rfl ⟨rfl, ok_some (Q := P) hO⟩
  have l10 : ∀ (x3 : Int32) (x4 : Int32) (h : Hp), Okk (M_findSpy_l10 x1 x2 x3 x4 h) P → G 10 [(0, .ref 251), (1, .int x1), (2, .int x2), (3, .int x3), (4, .int x4)] [] h := by
    intro x3 x4 h hO
    obtain ⟨H10, eH10⟩ : ∃ q : (Int32 × Int32 × Hp) → Prop, q = fun s => G 10 [(0, .ref 251), (1, .int x1), (2, .int x2), (3, .int (s.1)), (4, .int (s.2.1))] [] (s.2.2) := ⟨_, rfl⟩
    have w9 : H10 (x3, x4, h) := by
      refine lp_wp (f := fun s : (Int32 × Int32 × Hp) => M_findSpy_b10 x1 x2 s.1 s.2.1 s.2.2) (H := H10) (Q := P) ?_ (x3, x4, h) hO
      rintro ⟨x3, x4, h⟩ hO
      rw [eH10]
      show G 10 [(0, .ref 251), (1, .int x1), (2, .int x2), (3, .int x3), (4, .int x4)] [] h
      have k10 : ∀ s : (Int32 × Int32 × Hp), H10 s → G 10 [(0, .ref 251), (1, .int x1), (2, .int x2), (3, .int (s.1)), (4, .int (s.2.1))] [] (s.2.2) := fun s q => by rw [eH10] at q; exact q
      replace hO : Okk (M_findSpy_b10 x1 x2 x3 x4 h) (Sum.elim H10 P) := hO
      clear eH10
      have j77 : ∀ (x3 : Int32) (x4 : Int32) (h : Hp), Okk (M_findSpy_j77 x1 x2 x3 x4 h) (Sum.elim H10 P) → G 77 [(0, .ref 251), (1, .int x1), (2, .int x2), (3, .int x3), (4, .int x4)] [] h := by
        intro x3 x4 h hO
        unfold M_findSpy_j77 at hO
        refine rbx hG 8 77 84 [.iload 3, .aload 0, .getfield 1224, .imul, .istore 3] [] [] ((x3 * (h.1 251 24))) (fun y1 => [(3, .int y1), (0, .ref 251), (1, .int x1), (2, .int x2), (4, .int x4)]) (fun y1 => []) (fun y1 => h) [kd 251 = 12] (by decide +kernel) rfl kd_251 hO (fun y1 hO => ?_)
        refine rbx hG 4 84 87 [.iinc 4 0] [1] [] ((x4 + (1 : Int32))) (fun y2 => [(4, .int y2), (3, .int y1), (0, .ref 251), (1, .int x1), (2, .int x2)]) (fun y2 => []) (fun y2 => h) [] (by decide +kernel) rfl trivial hO (fun y2 hO => ?_)
        refine rb hG 4 87 10 [] [] [] [(4, .int y2), (3, .int y1), (0, .ref 251), (1, .int x1), (2, .int x2)] [] h [] (by decide +kernel) rfl trivial ?_
        refine rs hG [(0, .ref 251), (1, .int x1), (2, .int x2), (3, .int y1), (4, .int y2)] [2, 3, 4, 1, 0] rfl ?_
        exact k10 (y1, y2, h) (ok_some (Q := (Sum.elim H10 P)) hO)
      have l27 : ∀ (x3 : Int32) (x4 : Int32) (x5 : Int32) (h : Hp), Okk (M_findSpy_l27 x1 x2 x3 x4 x5 h) (Sum.elim H10 P) → G 27 [(0, .ref 251), (1, .int x1), (2, .int x2), (3, .int x3), (4, .int x4), (5, .int x5)] [] h := by
        intro x3 x4 x5 h hO
        obtain ⟨H27, eH27⟩ : ∃ q : (Int32 × Hp) → Prop, q = fun s => G 27 [(0, .ref 251), (1, .int x1), (2, .int x2), (3, .int x3), (4, .int x4), (5, .int (s.1))] [] (s.2) := ⟨_, rfl⟩
        have w9 : H27 (x5, h) := by
          refine lp_wp (f := fun s : (Int32 × Hp) => M_findSpy_b27 x1 x2 x3 x4 s.1 s.2) (H := H27) (Q := (Sum.elim H10 P)) ?_ (x5, h) hO
          rintro ⟨x5, h⟩ hO
          rw [eH27]
          show G 27 [(0, .ref 251), (1, .int x1), (2, .int x2), (3, .int x3), (4, .int x4), (5, .int x5)] [] h
          have k27 : ∀ s : (Int32 × Hp), H27 s → G 27 [(0, .ref 251), (1, .int x1), (2, .int x2), (3, .int x3), (4, .int x4), (5, .int (s.1))] [] (s.2) := fun s q => by rw [eH27] at q; exact q
          replace hO : Okk (M_findSpy_b27 x1 x2 x3 x4 x5 h) (Sum.elim H27 (Sum.elim H10 P)) := hO
          clear eH27
          have j71 : ∀ (x5 : Int32) (h : Hp), Okk (M_findSpy_j71 x1 x2 x3 x4 x5 h) (Sum.elim H27 (Sum.elim H10 P)) → G 71 [(0, .ref 251), (1, .int x1), (2, .int x2), (3, .int x3), (4, .int x4), (5, .int x5)] [] h := by
            intro x5 h hO
            unfold M_findSpy_j71 at hO
            refine rbx hG 4 71 74 [.iinc 5 0] [1] [] ((x5 + (1 : Int32))) (fun y3 => [(5, .int y3), (0, .ref 251), (1, .int x1), (2, .int x2), (3, .int x3), (4, .int x4)]) (fun y3 => []) (fun y3 => h) [] (by decide +kernel) rfl trivial hO (fun y3 hO => ?_)
            refine rb hG 4 74 27 [] [] [] [(5, .int y3), (0, .ref 251), (1, .int x1), (2, .int x2), (3, .int x3), (4, .int x4)] [] h [] (by decide +kernel) rfl trivial ?_
            refine rs hG [(0, .ref 251), (1, .int x1), (2, .int x2), (3, .int x3), (4, .int x4), (5, .int y3)] [1, 2, 3, 4, 5, 0] rfl ?_
            exact k27 (y3, h) (ok_some (Q := (Sum.elim H27 (Sum.elim H10 P))) hO)
          unfold M_findSpy_b27 at hO
          refine rb hG 5 27 30 [.iload 5, .iload 3] [] [] [(0, .ref 251), (1, .int x1), (2, .int x2), (3, .int x3), (4, .int x4), (5, .int x5)] [.int x3, .int x5] h [] (by decide +kernel) rfl trivial ?_
          refine rj hG .ge (47) 77 30 (by decide +kernel) (by decide) (fun c4 => ?_) (fun c4 => ?_)
          · have hO := ok_pos c4 hO
            refine rs hG [(0, .ref 251), (1, .int x1), (2, .int x2), (3, .int x3), (4, .int x4)] [0, 1, 2, 3, 4] rfl ?_
            exact j77 x3 x4 h (ok_inr hO)
          · have hO := ok_neg c4 hO
            refine rb hG 6 33 38 [.aload 0, .getfield 1257, .ldc_w 0] [-1] [] [(0, .ref 251), (1, .int x1), (2, .int x2), (3, .int x3), (4, .int x4), (5, .int x5)] [.int (-1 : Int32), .int (h.1 251 57)] h [kd 251 = 12] (by decide +kernel) rfl kd_251 ?_
            refine rjN hG (39) 77 38 (by decide +kernel) (by decide) (fun c5 => ?_) (fun c5 => ?_)
            · have hO := ok_pos c5 hO
              refine rb hG 5 41 43 [.aload 0, .iload 1] [] [] [(0, .ref 251), (1, .int x1), (2, .int x2), (3, .int x3), (4, .int x4), (5, .int x5)] [.int x1, .ref 251] h [] (by decide +kernel) rfl trivial ?_
              refine rv hG z_M_play 377 1 43 251 [.int x1] [] (by decide +kernel) mk_M_play lk_12_377 rcv_251 rfl ⟨rfl, Nat.le_of_ble_eq_true rfl⟩ (c_M_play (d := d) h x1 (ok_bind hO)) ?_
              rintro _ h7 ⟨r6, rfl, hO⟩
              refine rb hG 8 46 53 [.pop, .aload 0, .iload 5, .iload 4, .iload 2] [] [] [(0, .ref 251), (1, .int x1), (2, .int x2), (3, .int x3), (4, .int x4), (5, .int x5)] [.int x2, .int x4, .int x5, .ref 251] h7 [] (by decide +kernel) rfl trivial ?_
              refine rv hG z_M_spied 522 3 53 251 [.int x5, .int x4, .int x2] [] (by decide +kernel) mk_M_spied lk_12_522 rcv_251 rfl ⟨rfl, Nat.le_of_ble_eq_true rfl⟩ (c_M_spied (d := d + 2) h7 x5 x4 x2 (ok_bind hO)) ?_
              rintro _ h9 ⟨r8, rfl, hO⟩
              refine riN hG (15) 71 56 (by decide +kernel) (by decide) (fun c10 => ?_) (fun c10 => ?_)
              · have hO := ok_pos c10 hO
                refine rbx hG 6 59 65 [.aload 0, .iload 4, .putfield 1257] [] [] (wr h9 251 57 x4) (fun h11 => [(0, .ref 251), (1, .int x1), (2, .int x2), (3, .int x3), (4, .int x4), (5, .int x5)]) (fun h11 => []) (fun h11 => h11) [kd 251 = 12] (by decide +kernel) rfl kd_251 hO (fun h11 hO => ?_)
                refine rbx hG 6 65 71 [.aload 0, .iload 5, .putfield 1258] [] [] (wr h11 251 58 x5) (fun h12 => [(0, .ref 251), (1, .int x1), (2, .int x2), (3, .int x3), (4, .int x4), (5, .int x5)]) (fun h12 => []) (fun h12 => h12) [kd 251 = 12] (by decide +kernel) rfl kd_251 hO (fun h12 hO => ?_)
                exact j71 x5 h12 hO
              · have hO := ok_neg c10 hO
                exact j71 x5 h9 hO
            · have hO := ok_neg c5 hO
              refine rs hG [(0, .ref 251), (1, .int x1), (2, .int x2), (3, .int x3), (4, .int x4)] [0, 1, 2, 3, 4] rfl ?_
              exact j77 x3 x4 h (ok_inr hO)
        rw [eH27] at w9
        exact w9
      unfold M_findSpy_b10 at hO
      refine rb hG 5 10 13 [.iload 4, .ldc_w 0] [5] [] [(0, .ref 251), (1, .int x1), (2, .int x2), (3, .int x3), (4, .int x4)] [.int (5 : Int32), .int x4] h [] (by decide +kernel) rfl trivial ?_
      refine rj hG .ge (77) 90 13 (by decide +kernel) (by decide) (fun c13 => ?_) (fun c13 => ?_)
      · have hO := ok_pos c13 hO
        refine rs hG [] [] rfl ?_
        exact j90 h (ok_inr hO)
      · have hO := ok_neg c13 hO
        refine rb hG 6 16 21 [.aload 0, .getfield 1257, .ldc_w 0] [-1] [] [(0, .ref 251), (1, .int x1), (2, .int x2), (3, .int x3), (4, .int x4)] [.int (-1 : Int32), .int (h.1 251 57)] h [kd 251 = 12] (by decide +kernel) rfl kd_251 ?_
        refine rjN hG (69) 90 21 (by decide +kernel) (by decide) (fun c14 => ?_) (fun c14 => ?_)
        · have hO := ok_pos c14 hO
          refine rb hG 5 24 27 [.ldc_w 0, .istore 5] [0] [] [(5, .int (0 : Int32)), (0, .ref 251), (1, .int x1), (2, .int x2), (3, .int x3), (4, .int x4)] [] h [] (by decide +kernel) rfl trivial ?_
          refine rs hG [(0, .ref 251), (1, .int x1), (2, .int x2), (3, .int x3), (4, .int x4), (5, .int (0 : Int32))] [1, 2, 3, 4, 5, 0] rfl ?_
          exact l27 x3 x4 (0 : Int32) h hO
        · have hO := ok_neg c14 hO
          refine rs hG [] [] rfl ?_
          exact j90 h (ok_inr hO)
    rw [eH10] at w9
    exact w9
  refine rbx hG 6 0 5 [.aload 0, .ldc_w 0, .putfield 1257] [-1] [] (wr h 251 57 (-1 : Int32)) (fun h15 => [(0, .ref 251), (1, .int x1), (2, .int x2)]) (fun h15 => []) (fun h15 => h15) [kd 251 = 12] (by decide +kernel) rfl kd_251 hO (fun h15 hO => ?_)
  refine rb hG 7 5 10 [.ldc_w 0, .istore 3, .ldc_w 1, .istore 4] [1, 0] [] [(4, .int (0 : Int32)), (3, .int (1 : Int32)), (0, .ref 251), (1, .int x1), (2, .int x2)] [] h15 [] (by decide +kernel) rfl trivial ?_
  refine rs hG [(0, .ref 251), (1, .int x1), (2, .int x2), (3, .int (1 : Int32)), (4, .int (0 : Int32))] [2, 3, 4, 1, 0] rfl ?_
  exact l10 (1 : Int32) (0 : Int32) h15 hO
/-! GrainInnModel.spy(IIIII)I -/
noncomputable def M_spy_j34 (h : Hp) : Option (Int32 × Hp) := some ((-1 : Int32), h)
noncomputable def M_spy_j56 (h : Hp) : Option (Int32 × Hp) := some ((h.1 251 57), h)
noncomputable def M_spy_j119 (x6 : Int32) (h : Hp) : Option (Int32 × Hp) := if ¬ (h.1 251 24) = 0 then (some ((rm x6 (h.1 251 24)), h)) else none
noncomputable def M_spy_b94 (x5 : Int32) (x6 : Int32) (x7 : Int32) (h : Hp) : Option ((Int32 × Int32) ⊕ (Int32 × Hp)) := if x7 ≤ (x5 - (10 : Int32)) then (((M_spy_j119 x6 h).map Sum.inr)) else (if ¬ (h.1 251 24) = 0 then (bnd ((x6 / (h.1 251 24))) fun y4 => bnd ((x7 + (-1 : Int32))) fun y5 => some (.inl (y4, y5))) else none)
noncomputable def M_spy_l94 (x5 : Int32) (x6 : Int32) (x7 : Int32) (h : Hp) : Option (Int32 × Hp) := lp (fun s : (Int32 × Int32) => M_spy_b94 x5 s.1 s.2 h) (x6, x7)
theorem M_spy_l94_eq (x5 : Int32) (x6 : Int32) (x7 : Int32) (h : Hp) : M_spy_l94 x5 x6 x7 h = (M_spy_b94 x5 x6 x7 h).bind (Sum.elim (fun q : (Int32 × Int32) => M_spy_l94 x5 q.1 q.2 h) some) := lp_eq _ _
noncomputable def M_spy (h : Hp) (x1 : Int32) (x2 : Int32) (x3 : Int32) (x4 : Int32) (x5 : Int32) : Option (Int32 × Hp) := bnd (wr h 251 0 (0 : Int32)) fun h6 => (M_in x4 (0 : Int32) (1023 : Int32)).bind fun r7 => if r7 = 0 then ((M_spy_j34 h6)) else ((M_layState h6 x1 x2 x3).bind fun (r9, h10) => if r9 = 0 then ((M_spy_j34 h10)) else ((M_allSeated h10).bind fun r12 => if r12 = 0 then ((M_findSpy h10 x3 x4).bind fun h14 => if (h14.1 251 57) = (-1 : Int32) then ((M_spy_j56 h14)) else (if x5 = 0 then ((M_spy_j56 h14)) else ((M_in x5 (10 : Int32) ((9 : Int32) + (h14.1 251 57))).bind fun r17 => if r17 = 0 then (some ((-1 : Int32), h14)) else (bnd ((h14.1 251 58)) fun y19 => bnd (((h14.1 251 57) - (1 : Int32))) fun y20 => (M_spy_l94 x5 y19 y20 h14))))) else ((M_spy_j34 h10))))
set_option maxRecDepth 100000 in
set_option maxHeartbeats 4000000 in
theorem c_M_spy {E : En} {d : Nat} (h : Hp) (x1 : Int32) (x2 : Int32) (x3 : Int32) (x4 : Int32) (x5 : Int32) {P : (Int32 × Hp) → Prop} (hO : Okk (M_spy h x1 x2 x3 x4 x5) P) : Cn E (d + 9) z_M_spy [.ref 251, .int x1, .int x2, .int x3, .int x4, .int x5] h (RI P) := by
  refine cn_of (on := 12) (d := d + 8) ⟨rfl, by decide +kernel, Nat.le_of_ble_eq_true rfl⟩ (fun G hG => ?_)
  unfold M_spy at hO
  show G 0 [(0, .ref 251), (1, .int x1), (2, .int x2), (3, .int x3), (4, .int x4), (5, .int x5)] [] h
  have j34 : ∀ (h : Hp), Okk (M_spy_j34 h) P → G 34 [] [] h := by
    intro h hO
    unfold M_spy_j34 at hO
    refine rb hG 4 34 35 [.ldc_w 0] [-1] [] [] [.int (-1 : Int32)] h [] (by decide +kernel) rfl trivial ?_
    exact eI hG 35 (by decide +kernel) rfl ⟨(-1 : Int32), rfl, ok_some (Q := P) hO⟩
  have j56 : ∀ (h : Hp), Okk (M_spy_j56 h) P → G 56 [(0, .ref 251)] [] h := by
    intro h hO
    unfold M_spy_j56 at hO
    refine rb hG 5 56 60 [.aload 0, .getfield 1257] [] [] [(0, .ref 251)] [.int (h.1 251 57)] h [kd 251 = 12] (by decide +kernel) rfl kd_251 ?_
    exact eI hG 60 (by decide +kernel) rfl ⟨(h.1 251 57), rfl, ok_some (Q := P) hO⟩
  have j119 : ∀ (x6 : Int32) (h : Hp), Okk (M_spy_j119 x6 h) P → G 119 [(0, .ref 251), (6, .int x6)] [] h := by
    intro x6 h hO
    unfold M_spy_j119 at hO
    obtain ⟨g1, hO⟩ := ok_if hO
    refine rb hG 7 119 126 [.iload 6, .aload 0, .getfield 1224, .irem] [] [] [(0, .ref 251), (6, .int x6)] [.int (rm x6 (h.1 251 24))] h [kd 251 = 12, ¬ (h.1 251 24) = 0] (by decide +kernel) rfl ⟨kd_251, g1⟩ ?_
    exact eI hG 126 (by decide +kernel) rfl ⟨(rm x6 (h.1 251 24)), rfl, ok_some (Q := P) hO⟩
  have l94 : ∀ (x6 : Int32) (x7 : Int32) (h : Hp), Okk (M_spy_l94 x5 x6 x7 h) P → G 94 [(0, .ref 251), (5, .int x5), (6, .int x6), (7, .int x7)] [] h := by
    intro x6 x7 h hO
    obtain ⟨H94, eH94⟩ : ∃ q : (Int32 × Int32) → Prop, q = fun s => G 94 [(0, .ref 251), (5, .int x5), (6, .int (s.1)), (7, .int (s.2))] [] (h) := ⟨_, rfl⟩
    have w9 : H94 (x6, x7) := by
      refine lp_wp (f := fun s : (Int32 × Int32) => M_spy_b94 x5 s.1 s.2 h) (H := H94) (Q := P) ?_ (x6, x7) hO
      rintro ⟨x6, x7⟩ hO
      rw [eH94]
      show G 94 [(0, .ref 251), (5, .int x5), (6, .int x6), (7, .int x7)] [] h
      have k94 : ∀ s : (Int32 × Int32), H94 s → G 94 [(0, .ref 251), (5, .int x5), (6, .int (s.1)), (7, .int (s.2))] [] (h) := fun s q => by rw [eH94] at q; exact q
      replace hO : Okk (M_spy_b94 x5 x6 x7 h) (Sum.elim H94 P) := hO
      clear eH94
      unfold M_spy_b94 at hO
      refine rb hG 7 94 101 [.iload 7, .iload 5, .ldc_w 0, .isub] [10] [] [(0, .ref 251), (5, .int x5), (6, .int x6), (7, .int x7)] [.int (x5 - (10 : Int32)), .int x7] h [] (by decide +kernel) rfl trivial ?_
      refine rj hG .le (18) 119 101 (by decide +kernel) (by decide) (fun c2 => ?_) (fun c2 => ?_)
      · have hO := ok_pos c2 hO
        refine rs hG [(0, .ref 251), (6, .int x6)] [0, 2] rfl ?_
        exact j119 x6 h (ok_inr hO)
      · have hO := ok_neg c2 hO
        obtain ⟨g3, hO⟩ := ok_if hO
        refine rbx hG 8 104 113 [.iload 6, .aload 0, .getfield 1224, .idiv, .istore 6] [] [] ((x6 / (h.1 251 24))) (fun y4 => [(6, .int y4), (0, .ref 251), (5, .int x5), (7, .int x7)]) (fun y4 => []) (fun y4 => h) [kd 251 = 12, ¬ (h.1 251 24) = 0] (by decide +kernel) rfl ⟨kd_251, g3⟩ hO (fun y4 hO => ?_)
        refine rbx hG 4 113 116 [.iinc 7 0] [-1] [] ((x7 + (-1 : Int32))) (fun y5 => [(7, .int y5), (6, .int y4), (0, .ref 251), (5, .int x5)]) (fun y5 => []) (fun y5 => h) [] (by decide +kernel) rfl trivial hO (fun y5 hO => ?_)
        refine rb hG 4 116 94 [] [] [] [(7, .int y5), (6, .int y4), (0, .ref 251), (5, .int x5)] [] h [] (by decide +kernel) rfl trivial ?_
        refine rs hG [(0, .ref 251), (5, .int x5), (6, .int y4), (7, .int y5)] [2, 3, 1, 0] rfl ?_
        exact k94 (y4, y5) (ok_some (Q := (Sum.elim H94 P)) hO)
    rw [eH94] at w9
    exact w9
  refine rbx hG 6 0 5 [.aload 0, .ldc_w 0, .putfield 1200] [0] [] (wr h 251 0 (0 : Int32)) (fun h6 => [(0, .ref 251), (1, .int x1), (2, .int x2), (3, .int x3), (4, .int x4), (5, .int x5)]) (fun h6 => []) (fun h6 => h6) [kd 251 = 12] (by decide +kernel) rfl kd_251 hO (fun h6 hO => ?_)
  refine rb hG 6 5 11 [.iload 4, .ldc_w 0, .ldc_w 1] [0, 1023] [] [(0, .ref 251), (1, .int x1), (2, .int x2), (3, .int x3), (4, .int x4), (5, .int x5)] [.int (1023 : Int32), .int (0 : Int32), .int x4] h6 [] (by decide +kernel) rfl trivial ?_
  refine rt hG z_M_in 111 3 11 [.int x4, .int (0 : Int32), .int (1023 : Int32)] [] (by decide +kernel) mk_M_in lk_12_111 rfl ⟨rfl, Nat.le_of_ble_eq_true rfl⟩ (c_M_in (d := d + 7) h6 x4 (0 : Int32) (1023 : Int32) (ok_bind hO)) ?_
  rintro _ _ ⟨r7, rfl, rfl, hO⟩
  refine ri hG .eq (20) 34 14 (by decide +kernel) (by decide) (fun c8 => ?_) (fun c8 => ?_)
  · have hO := ok_pos c8 hO
    refine rs hG [] [] rfl ?_
    exact j34 h6 hO
  · have hO := ok_neg c8 hO
    refine rb hG 7 17 21 [.aload 0, .iload 1, .iload 2, .iload 3] [] [] [(0, .ref 251), (1, .int x1), (2, .int x2), (3, .int x3), (4, .int x4), (5, .int x5)] [.int x3, .int x2, .int x1, .ref 251] h6 [] (by decide +kernel) rfl trivial ?_
    refine rv hG z_M_layState 380 3 21 251 [.int x1, .int x2, .int x3] [] (by decide +kernel) mk_M_layState lk_12_380 rcv_251 rfl ⟨rfl, Nat.le_of_ble_eq_true rfl⟩ (c_M_layState (d := d) h6 x1 x2 x3 (ok_bind hO)) ?_
    rintro _ h10 ⟨r9, rfl, hO⟩
    refine ri hG .eq (10) 34 24 (by decide +kernel) (by decide) (fun c11 => ?_) (fun c11 => ?_)
    · have hO := ok_pos c11 hO
      refine rs hG [] [] rfl ?_
      exact j34 h10 hO
    · have hO := ok_neg c11 hO
      refine rb hG 4 27 28 [.aload 0] [] [] [(0, .ref 251), (1, .int x1), (2, .int x2), (3, .int x3), (4, .int x4), (5, .int x5)] [.ref 251] h10 [] (by decide +kernel) rfl trivial ?_
      refine rv hG z_M_allSeated 344 0 28 251 [] [] (by decide +kernel) mk_M_allSeated lk_12_344 rcv_251 rfl ⟨rfl, Nat.le_of_ble_eq_true rfl⟩ (c_M_allSeated (d := d + 7) h10 (ok_bind hO)) ?_
      rintro _ _ ⟨r12, rfl, rfl, hO⟩
      refine ri hG .eq (5) 36 31 (by decide +kernel) (by decide) (fun c13 => ?_) (fun c13 => ?_)
      · have hO := ok_pos c13 hO
        refine rb hG 6 36 40 [.aload 0, .iload 3, .iload 4] [] [] [(0, .ref 251), (1, .int x1), (2, .int x2), (3, .int x3), (4, .int x4), (5, .int x5)] [.int x4, .int x3, .ref 251] h10 [] (by decide +kernel) rfl trivial ?_
        refine rv hG z_M_findSpy 528 2 40 251 [.int x3, .int x4] [] (by decide +kernel) mk_M_findSpy lk_12_528 rcv_251 rfl ⟨rfl, Nat.le_of_ble_eq_true rfl⟩ (c_M_findSpy (d := d) h10 x3 x4 (ok_bind hO)) ?_
        rintro _ h14 ⟨rfl, hO⟩
        refine rb hG 6 43 48 [.aload 0, .getfield 1257, .ldc_w 0] [-1] [] [(0, .ref 251), (1, .int x1), (2, .int x2), (3, .int x3), (4, .int x4), (5, .int x5)] [.int (-1 : Int32), .int (h14.1 251 57)] h14 [kd 251 = 12] (by decide +kernel) rfl kd_251 ?_
        refine rj hG .eq (8) 56 48 (by decide +kernel) (by decide) (fun c15 => ?_) (fun c15 => ?_)
        · have hO := ok_pos c15 hO
          refine rs hG [(0, .ref 251)] [0] rfl ?_
          exact j56 h14 hO
        · have hO := ok_neg c15 hO
          refine rb hG 4 51 53 [.iload 5] [] [] [(0, .ref 251), (1, .int x1), (2, .int x2), (3, .int x3), (4, .int x4), (5, .int x5)] [.int x5] h14 [] (by decide +kernel) rfl trivial ?_
          refine riN hG (8) 61 53 (by decide +kernel) (by decide) (fun c16 => ?_) (fun c16 => ?_)
          · have hO := ok_pos c16 hO
            refine rs hG [(0, .ref 251)] [0] rfl ?_
            exact j56 h14 hO
          · have hO := ok_neg c16 hO
            refine rb hG 9 61 72 [.iload 5, .ldc_w 0, .ldc_w 1, .aload 0, .getfield 1257, .iadd] [10, 9] [] [(0, .ref 251), (1, .int x1), (2, .int x2), (3, .int x3), (4, .int x4), (5, .int x5)] [.int ((9 : Int32) + (h14.1 251 57)), .int (10 : Int32), .int x5] h14 [kd 251 = 12] (by decide +kernel) rfl kd_251 ?_
            refine rt hG z_M_in 111 3 72 [.int x5, .int (10 : Int32), .int ((9 : Int32) + (h14.1 251 57))] [] (by decide +kernel) mk_M_in lk_12_111 rfl ⟨rfl, Nat.le_of_ble_eq_true rfl⟩ (c_M_in (d := d + 7) h14 x5 (10 : Int32) ((9 : Int32) + (h14.1 251 57)) (ok_bind hO)) ?_
            rintro _ _ ⟨r17, rfl, rfl, hO⟩
            refine riN hG (5) 80 75 (by decide +kernel) (by decide) (fun c18 => ?_) (fun c18 => ?_)
            · have hO := ok_pos c18 hO
              refine rb hG 4 78 79 [.ldc_w 0] [-1] [] [(0, .ref 251), (1, .int x1), (2, .int x2), (3, .int x3), (4, .int x4), (5, .int x5)] [.int (-1 : Int32)] h14 [] (by decide +kernel) rfl trivial ?_
              exact eI hG 79 (by decide +kernel) rfl ⟨(-1 : Int32), rfl, ok_some (Q := P) hO⟩
            · have hO := ok_neg c18 hO
              refine rbx hG 6 80 86 [.aload 0, .getfield 1258, .istore 6] [] [] ((h14.1 251 58)) (fun y19 => [(6, .int y19), (0, .ref 251), (1, .int x1), (2, .int x2), (3, .int x3), (4, .int x4), (5, .int x5)]) (fun y19 => []) (fun y19 => h14) [kd 251 = 12] (by decide +kernel) rfl kd_251 hO (fun y19 hO => ?_)
              refine rbx hG 8 86 94 [.aload 0, .getfield 1257, .ldc_w 0, .isub, .istore 7] [1] [] (((h14.1 251 57) - (1 : Int32))) (fun y20 => [(7, .int y20), (6, .int y19), (0, .ref 251), (1, .int x1), (2, .int x2), (3, .int x3), (4, .int x4), (5, .int x5)]) (fun y20 => []) (fun y20 => h14) [kd 251 = 12] (by decide +kernel) rfl kd_251 hO (fun y20 hO => ?_)
              refine rs hG [(0, .ref 251), (5, .int x5), (6, .int y19), (7, .int y20)] [2, 7, 1, 0] rfl ?_
              exact l94 y19 y20 h14 hO
      · have hO := ok_neg c13 hO
        refine rs hG [] [] rfl ?_
        exact j34 h10 hO
/-! GrainInn.Weddings.marryFrom(III)V -/
noncomputable def V_marryFrom_j46 (rec : Hp → Int32 → Int32 → Int32 → Option Hp) (x3 : Int32) (h : Hp) : Option Hp := bnd (wr h 113 4 x3) fun h1 => bnd (cpy h1 115 (Int32.toNatClampNeg (0 : Int32)) 116 (Int32.toNatClampNeg (0 : Int32)) (Int32.toNatClampNeg (5 : Int32))) fun h2 => some h2
noncomputable def V_marryFrom_j185 (rec : Hp → Int32 → Int32 → Int32 → Option Hp) (x1 : Int32) (x2 : Int32) (x3 : Int32) (h : Hp) : Option Hp := if inb x1 (ln 115) then (bnd (wr h 115 (Int32.toNatClampNeg x1) (-1 : Int32)) fun h4 => (rec h4 (x1 + (1 : Int32)) x2 x3).bind fun h5 => some h5) else none
noncomputable def V_marryFrom_j179 (rec : Hp → Int32 → Int32 → Int32 → Option Hp) (x1 : Int32) (x2 : Int32) (x3 : Int32) (x5 : Int32) (h : Hp) : Option ((Int32 × Hp) ⊕ Hp) := bnd ((x5 + (1 : Int32))) fun y6 => some (.inl (y6, h))
noncomputable def V_marryFrom_j173 (rec : Hp → Int32 → Int32 → Int32 → Option Hp) (x1 : Int32) (x2 : Int32) (x3 : Int32) (x5 : Int32) (x6 : Int32) (h : Hp) : Option ((Int32 × Hp) ⊕ ((Int32 × Hp) ⊕ Hp)) := bnd ((x6 + (1 : Int32))) fun y7 => some (.inl (y7, h))
noncomputable def V_marryFrom_b87 (rec : Hp → Int32 → Int32 → Int32 → Option Hp) (x1 : Int32) (x2 : Int32) (x3 : Int32) (x5 : Int32) (x6 : Int32) (h : Hp) : Option ((Int32 × Hp) ⊕ ((Int32 × Hp) ⊕ Hp)) := if kd (Int32.toNatClampNeg (h.1 113 3)) = 1 then (if (h.1 (Int32.toNatClampNeg (h.1 113 3)) 6) ≤ x6 then (((V_marryFrom_j179 rec x1 x2 x3 x5 h).map Sum.inr)) else (bnd (((sh (1 : Int32) x5) ||| (sh (1 : Int32) x6))) fun y10 => (H_lovesOf h (Int32.toNatClampNeg (h.1 113 3)) x5).bind fun r11 => (K_isIn r11 x6).bind fun r12 => if r12 = 0 then ((V_marryFrom_j173 rec x1 x2 x3 x5 x6 h)) else (if inb x1 (ln 114) then (if (y10 &&& ((x2 &&& (h.1 114 (Int32.toNatClampNeg x1))) ^^^ (-1 : Int32))) = 0 then (if inb x1 (ln 115) then (bnd (wr h 115 (Int32.toNatClampNeg x1) (((8 : Int32) * x5) + x6)) fun h17 => (rec h17 (x1 + (1 : Int32)) (x2 &&& (y10 ^^^ (-1 : Int32))) (x3 + (1 : Int32))).bind fun h18 => (V_marryFrom_j173 rec x1 x2 x3 x5 x6 h18)) else none) else ((V_marryFrom_j173 rec x1 x2 x3 x5 x6 h))) else none))) else none
noncomputable def V_marryFrom_l87 (rec : Hp → Int32 → Int32 → Int32 → Option Hp) (x1 : Int32) (x2 : Int32) (x3 : Int32) (x5 : Int32) (x6 : Int32) (h : Hp) : Option ((Int32 × Hp) ⊕ Hp) := lp (fun s : (Int32 × Hp) => V_marryFrom_b87 rec x1 x2 x3 x5 s.1 s.2) (x6, h)
theorem V_marryFrom_l87_eq (rec : Hp → Int32 → Int32 → Int32 → Option Hp) (x1 : Int32) (x2 : Int32) (x3 : Int32) (x5 : Int32) (x6 : Int32) (h : Hp) : V_marryFrom_l87 rec x1 x2 x3 x5 x6 h = (V_marryFrom_b87 rec x1 x2 x3 x5 x6 h).bind (Sum.elim (fun q : (Int32 × Hp) => V_marryFrom_l87 rec x1 x2 x3 x5 q.1 q.2) some) := lp_eq _ _
noncomputable def V_marryFrom_b69 (rec : Hp → Int32 → Int32 → Int32 → Option Hp) (x1 : Int32) (x2 : Int32) (x3 : Int32) (x5 : Int32) (h : Hp) : Option ((Int32 × Hp) ⊕ Hp) := if kd (Int32.toNatClampNeg (h.1 113 3)) = 1 then (if (h.1 (Int32.toNatClampNeg (h.1 113 3)) 6) ≤ x5 then (((V_marryFrom_j185 rec x1 x2 x3 h).map Sum.inr)) else (bnd ((x5 + (1 : Int32))) fun y21 => (V_marryFrom_l87 rec x1 x2 x3 x5 y21 h))) else none
noncomputable def V_marryFrom_l69 (rec : Hp → Int32 → Int32 → Int32 → Option Hp) (x1 : Int32) (x2 : Int32) (x3 : Int32) (x5 : Int32) (h : Hp) : Option Hp := lp (fun s : (Int32 × Hp) => V_marryFrom_b69 rec x1 x2 x3 s.1 s.2) (x5, h)
theorem V_marryFrom_l69_eq (rec : Hp → Int32 → Int32 → Int32 → Option Hp) (x1 : Int32) (x2 : Int32) (x3 : Int32) (x5 : Int32) (h : Hp) : V_marryFrom_l69 rec x1 x2 x3 x5 h = (V_marryFrom_b69 rec x1 x2 x3 x5 h).bind (Sum.elim (fun q : (Int32 × Hp) => V_marryFrom_l69 rec x1 x2 x3 q.1 q.2) some) := lp_eq _ _
noncomputable def V_marryFrom_b (rec : Hp → Int32 → Int32 → Int32 → Option Hp) (h : Hp) (x1 : Int32) (x2 : Int32) (x3 : Int32) : Option Hp := if kd (Int32.toNatClampNeg (h.1 113 3)) = 1 then (bnd (((h.1 (Int32.toNatClampNeg (h.1 113 3)) 5) - x1)) fun y23 => (J_bitCount x2).bind fun r24 => if (h.1 113 4) < (x3 + (mn y23 (r24 / (2 : Int32)))) then (if y23 ≤ 0 then ((V_marryFrom_j46 rec x3 h)) else ((K_isOf x1 (0 : Int32) (5 : Int32)).bind fun r27 => if r27 = 0 then ((V_marryFrom_j46 rec x3 h)) else ((V_marryFrom_l69 rec x1 x2 x3 (0 : Int32) h)))) else (some h)) else none
noncomputable def V_marryFrom : Nat → Hp → Int32 → Int32 → Int32 → Option Hp
  | 0 => fun _ _ _ _ => none
  | n + 1 => V_marryFrom_b (V_marryFrom n)
set_option maxRecDepth 100000 in
set_option maxHeartbeats 4000000 in
theorem cb_V_marryFrom {E : En} {D : Nat} (rec : Hp → Int32 → Int32 → Int32 → Option Hp) (hrec : ∀ (h : Hp) (x1 : Int32) (x2 : Int32) (x3 : Int32) (P : Hp → Prop), Okk (rec h x1 x2 x3) P → Cn E (D + 3) z_V_marryFrom [.ref 113, .int x1, .int x2, .int x3] h (RV P)) (h : Hp) (x1 : Int32) (x2 : Int32) (x3 : Int32) {P : Hp → Prop} (hO : Okk (V_marryFrom_b rec h x1 x2 x3) P) : Cn E (D + 3 + 1) z_V_marryFrom [.ref 113, .int x1, .int x2, .int x3] h (RV P) := by
  refine cn_of (on := 10) (d := D + 3) ⟨rfl, by decide +kernel, by simp only [lg_sl]; exact Nat.le_of_ble_eq_true rfl⟩ (fun G hG => ?_)
  unfold V_marryFrom_b at hO
  show G 0 [(0, .ref 113), (1, .int x1), (2, .int x2), (3, .int x3)] [] h
  have j46 : ∀ (h : Hp), Okk (V_marryFrom_j46 rec x3 h) P → G 46 [(0, .ref 113), (3, .int x3)] [] h := by
    intro h hO
    unfold V_marryFrom_j46 at hO
    refine rbx hG 6 46 51 [.aload 0, .iload 3, .putfield 1004] [] [] (wr h 113 4 x3) (fun h1 => [(0, .ref 113), (3, .int x3)]) (fun h1 => []) (fun h1 => h1) [kd 113 = 10] (by decide +kernel) rfl kd_113 hO (fun h1 hO => ?_)
    refine rbx hG 11 51 65 [.aload 0, .invokeinterface 1001 2, .ldc_w 0, .aload 0, .invokeinterface 1002 3, .ldc_w 0, .ldc_w 1, .invokestatic 3] [0, 5] [] (cpy h1 115 (Int32.toNatClampNeg (0 : Int32)) 116 (Int32.toNatClampNeg (0 : Int32)) (Int32.toNatClampNeg (5 : Int32))) (fun h2 => [(0, .ref 113), (3, .int x3)]) (fun h2 => []) (fun h2 => h2) [kd 113 = 10, kd 113 = 10, sm [] ≤ 8 ∧ (kd 115 = 20 ∧ kd 116 = 20) ∧ (¬ (0 : Int32) < 0 ∧ ¬ (0 : Int32) < 0 ∧ ¬ (5 : Int32) < 0) ∧ (Int32.toNatClampNeg (0 : Int32)) + (Int32.toNatClampNeg (5 : Int32)) ≤ ln 115 ∧ (Int32.toNatClampNeg (0 : Int32)) + (Int32.toNatClampNeg (5 : Int32)) ≤ ln 116] (by decide +kernel) rfl ⟨kd_113, kd_113, ⟨Nat.le_of_ble_eq_true rfl, (by decide +kernel)⟩⟩ hO (fun h2 hO => ?_)
    exact eV hG 65 (by decide +kernel) rfl ⟨rfl, ok_some (Q := P) hO⟩
  have j185 : ∀ (h : Hp), Okk (V_marryFrom_j185 rec x1 x2 x3 h) P → G 185 [(0, .ref 113), (1, .int x1), (2, .int x2), (3, .int x3)] [] h := by
    intro h hO
    unfold V_marryFrom_j185 at hO
    obtain ⟨g3, hO⟩ := ok_if hO
    refine rbx hG 8 185 192 [.aload 0, .invokeinterface 1001 2, .iload 1, .ldc_w 0, .iastore] [-1] [] (wr h 115 (Int32.toNatClampNeg x1) (-1 : Int32)) (fun h4 => [(0, .ref 113), (1, .int x1), (2, .int x2), (3, .int x3)]) (fun h4 => []) (fun h4 => h4) [kd 113 = 10, kd 115 = 20 ∧ inb x1 (ln 115)] (by decide +kernel) rfl ⟨kd_113, ⟨kd_115, g3⟩⟩ hO (fun h4 hO => ?_)
    refine rb hG 9 192 198 [.aload 0, .iload 1, .ldc_w 0, .iadd, .iload 2, .iload 3] [1] [] [(0, .ref 113), (1, .int x1), (2, .int x2), (3, .int x3)] [.int x3, .int x2, .int (x1 + (1 : Int32)), .ref 113] h4 [] (by decide +kernel) rfl trivial ?_
    refine rv hG z_V_marryFrom 55 3 198 113 [.int (x1 + (1 : Int32)), .int x2, .int x3] [] (by decide +kernel) mk_V_marryFrom lk_10_55 rcv_113 rfl ⟨rfl, Nat.le_of_ble_eq_true rfl⟩ (hrec h4 (x1 + (1 : Int32)) x2 x3 _ (ok_bind hO)) ?_
    rintro _ h5 ⟨rfl, hO⟩
    exact eV hG 201 (by decide +kernel) rfl ⟨rfl, ok_some (Q := P) hO⟩
  have l69 : ∀ (x5 : Int32) (h : Hp), Okk (V_marryFrom_l69 rec x1 x2 x3 x5 h) P → G 69 [(0, .ref 113), (1, .int x1), (2, .int x2), (3, .int x3), (5, .int x5)] [] h := by
    intro x5 h hO
    obtain ⟨H69, eH69⟩ : ∃ q : (Int32 × Hp) → Prop, q = fun s => G 69 [(0, .ref 113), (1, .int x1), (2, .int x2), (3, .int x3), (5, .int (s.1))] [] (s.2) := ⟨_, rfl⟩
    have w9 : H69 (x5, h) := by
      refine lp_wp (f := fun s : (Int32 × Hp) => V_marryFrom_b69 rec x1 x2 x3 s.1 s.2) (H := H69) (Q := P) ?_ (x5, h) hO
      rintro ⟨x5, h⟩ hO
      rw [eH69]
      show G 69 [(0, .ref 113), (1, .int x1), (2, .int x2), (3, .int x3), (5, .int x5)] [] h
      have k69 : ∀ s : (Int32 × Hp), H69 s → G 69 [(0, .ref 113), (1, .int x1), (2, .int x2), (3, .int x3), (5, .int (s.1))] [] (s.2) := fun s q => by rw [eH69] at q; exact q
      replace hO : Okk (V_marryFrom_b69 rec x1 x2 x3 x5 h) (Sum.elim H69 P) := hO
      clear eH69
      have j179 : ∀ (x5 : Int32) (h : Hp), Okk (V_marryFrom_j179 rec x1 x2 x3 x5 h) (Sum.elim H69 P) → G 179 [(0, .ref 113), (1, .int x1), (2, .int x2), (3, .int x3), (5, .int x5)] [] h := by
        intro x5 h hO
        unfold V_marryFrom_j179 at hO
        refine rbx hG 4 179 182 [.iinc 5 0] [1] [] ((x5 + (1 : Int32))) (fun y6 => [(5, .int y6), (0, .ref 113), (1, .int x1), (2, .int x2), (3, .int x3)]) (fun y6 => []) (fun y6 => h) [] (by decide +kernel) rfl trivial hO (fun y6 hO => ?_)
        refine rb hG 4 182 69 [] [] [] [(5, .int y6), (0, .ref 113), (1, .int x1), (2, .int x2), (3, .int x3)] [] h [] (by decide +kernel) rfl trivial ?_
        refine rs hG [(0, .ref 113), (1, .int x1), (2, .int x2), (3, .int x3), (5, .int y6)] [1, 2, 3, 4, 0] rfl ?_
        exact k69 (y6, h) (ok_some (Q := (Sum.elim H69 P)) hO)
      have l87 : ∀ (x5 : Int32) (x6 : Int32) (h : Hp), Okk (V_marryFrom_l87 rec x1 x2 x3 x5 x6 h) (Sum.elim H69 P) → G 87 [(0, .ref 113), (1, .int x1), (2, .int x2), (3, .int x3), (5, .int x5), (6, .int x6)] [] h := by
        intro x5 x6 h hO
        obtain ⟨H87, eH87⟩ : ∃ q : (Int32 × Hp) → Prop, q = fun s => G 87 [(0, .ref 113), (1, .int x1), (2, .int x2), (3, .int x3), (5, .int x5), (6, .int (s.1))] [] (s.2) := ⟨_, rfl⟩
        have w9 : H87 (x6, h) := by
          refine lp_wp (f := fun s : (Int32 × Hp) => V_marryFrom_b87 rec x1 x2 x3 x5 s.1 s.2) (H := H87) (Q := (Sum.elim H69 P)) ?_ (x6, h) hO
          rintro ⟨x6, h⟩ hO
          rw [eH87]
          show G 87 [(0, .ref 113), (1, .int x1), (2, .int x2), (3, .int x3), (5, .int x5), (6, .int x6)] [] h
          have k87 : ∀ s : (Int32 × Hp), H87 s → G 87 [(0, .ref 113), (1, .int x1), (2, .int x2), (3, .int x3), (5, .int x5), (6, .int (s.1))] [] (s.2) := fun s q => by rw [eH87] at q; exact q
          replace hO : Okk (V_marryFrom_b87 rec x1 x2 x3 x5 x6 h) (Sum.elim H87 (Sum.elim H69 P)) := hO
          clear eH87
          have j173 : ∀ (x6 : Int32) (h : Hp), Okk (V_marryFrom_j173 rec x1 x2 x3 x5 x6 h) (Sum.elim H87 (Sum.elim H69 P)) → G 173 [(0, .ref 113), (1, .int x1), (2, .int x2), (3, .int x3), (5, .int x5), (6, .int x6)] [] h := by
            intro x6 h hO
            unfold V_marryFrom_j173 at hO
            refine rbx hG 4 173 176 [.iinc 6 0] [1] [] ((x6 + (1 : Int32))) (fun y7 => [(6, .int y7), (0, .ref 113), (1, .int x1), (2, .int x2), (3, .int x3), (5, .int x5)]) (fun y7 => []) (fun y7 => h) [] (by decide +kernel) rfl trivial hO (fun y7 hO => ?_)
            refine rb hG 4 176 87 [] [] [] [(6, .int y7), (0, .ref 113), (1, .int x1), (2, .int x2), (3, .int x3), (5, .int x5)] [] h [] (by decide +kernel) rfl trivial ?_
            refine rs hG [(0, .ref 113), (1, .int x1), (2, .int x2), (3, .int x3), (5, .int x5), (6, .int y7)] [1, 2, 3, 4, 5, 0] rfl ?_
            exact k87 (y7, h) (ok_some (Q := (Sum.elim H87 (Sum.elim H69 P))) hO)
          unfold V_marryFrom_b87 at hO
          obtain ⟨g8, hO⟩ := ok_if hO
          refine rb hG 7 87 96 [.iload 6, .aload 0, .instanceof 1003, .getfield 106] [] [] [(0, .ref 113), (1, .int x1), (2, .int x2), (3, .int x3), (5, .int x5), (6, .int x6)] [.int (h.1 (Int32.toNatClampNeg (h.1 113 3)) 6), .int x6] h [kd 113 = 10, kd (Int32.toNatClampNeg (h.1 113 3)) = 1] (by decide +kernel) rfl ⟨kd_113, g8⟩ ?_
          refine rj hG .ge (83) 179 96 (by decide +kernel) (by decide) (fun c9 => ?_) (fun c9 => ?_)
          · have hO := ok_pos c9 hO
            refine rs hG [(0, .ref 113), (1, .int x1), (2, .int x2), (3, .int x3), (5, .int x5)] [0, 1, 2, 3, 4] rfl ?_
            exact j179 x5 h (ok_inr hO)
          · have hO := ok_neg c9 hO
            refine rbx hG 11 99 110 [.ldc_w 0, .iload 5, .ishl, .ldc_w 0, .iload 6, .ishl, .ior, .istore 7] [1] [] (((sh (1 : Int32) x5) ||| (sh (1 : Int32) x6))) (fun y10 => [(7, .int y10), (0, .ref 113), (1, .int x1), (2, .int x2), (3, .int x3), (5, .int x5), (6, .int x6)]) (fun y10 => []) (fun y10 => h) [] (by decide +kernel) rfl trivial hO (fun y10 hO => ?_)
            refine rb hG 6 110 116 [.aload 0, .instanceof 1003, .iload 5] [] [] [(7, .int y10), (0, .ref 113), (1, .int x1), (2, .int x2), (3, .int x3), (5, .int x5), (6, .int x6)] [.int x5, .ref (Int32.toNatClampNeg (h.1 113 3))] h [kd 113 = 10] (by decide +kernel) rfl kd_113 ?_
            refine rv hG z_H_lovesOf 83 1 116 (Int32.toNatClampNeg (h.1 113 3)) [.int x5] [] (by decide +kernel) mk_H_lovesOf lk_10_83 (rcv_H g8) rfl ⟨rfl, Nat.le_of_ble_eq_true rfl⟩ (c_H_lovesOf (d := D + 1) h (Int32.toNatClampNeg (h.1 113 3)) x5 (ok_bind hO)) ?_
            rintro _ _ ⟨r11, rfl, rfl, hO⟩
            refine rb hG 4 119 121 [.iload 6] [] [] [(7, .int y10), (0, .ref 113), (1, .int x1), (2, .int x2), (3, .int x3), (5, .int x5), (6, .int x6)] [.int x6, .int r11] h [] (by decide +kernel) rfl trivial ?_
            refine rt hG z_K_isIn 86 2 121 [.int r11, .int x6] [] (by decide +kernel) mk_K_isIn lk_10_86 rfl ⟨rfl, Nat.le_of_ble_eq_true rfl⟩ (c_K_isIn (d := D + 2) h r11 x6 (ok_bind hO)) ?_
            rintro _ _ ⟨r12, rfl, rfl, hO⟩
            refine ri hG .eq (49) 173 124 (by decide +kernel) (by decide) (fun c13 => ?_) (fun c13 => ?_)
            · have hO := ok_pos c13 hO
              refine rs hG [(0, .ref 113), (1, .int x1), (2, .int x2), (3, .int x3), (5, .int x5), (6, .int x6)] [1, 2, 3, 4, 5, 6] rfl ?_
              exact j173 x6 h hO
            · have hO := ok_neg c13 hO
              obtain ⟨g14, hO⟩ := ok_if hO
              refine rb hG 13 127 140 [.iload 7, .iload 2, .aload 0, .invokeinterface 1000 1, .iload 1, .iaload, .iand, .ldc_w 0, .ixor, .iand] [-1] [] [(7, .int y10), (0, .ref 113), (1, .int x1), (2, .int x2), (3, .int x3), (5, .int x5), (6, .int x6)] [.int (y10 &&& ((x2 &&& (h.1 114 (Int32.toNatClampNeg x1))) ^^^ (-1 : Int32)))] h [kd 113 = 10, kd 114 = 20 ∧ inb x1 (ln 114)] (by decide +kernel) rfl ⟨kd_113, ⟨kd_114, g14⟩⟩ ?_
              refine riN hG (33) 173 140 (by decide +kernel) (by decide) (fun c15 => ?_) (fun c15 => ?_)
              · have hO := ok_pos c15 hO
                obtain ⟨g16, hO⟩ := ok_if hO
                refine rbx hG 12 143 157 [.aload 0, .invokeinterface 1001 2, .iload 1, .ldc_w 0, .iload 5, .imul, .iload 6, .iadd, .iastore] [8] [] (wr h 115 (Int32.toNatClampNeg x1) (((8 : Int32) * x5) + x6)) (fun h17 => [(7, .int y10), (0, .ref 113), (1, .int x1), (2, .int x2), (3, .int x3), (5, .int x5), (6, .int x6)]) (fun h17 => []) (fun h17 => h17) [kd 113 = 10, kd 115 = 20 ∧ inb x1 (ln 115)] (by decide +kernel) rfl ⟨kd_113, ⟨kd_115, g16⟩⟩ hO (fun h17 hO => ?_)
                refine rb hG 15 157 170 [.aload 0, .iload 1, .ldc_w 0, .iadd, .iload 2, .iload 7, .ldc_w 1, .ixor, .iand, .iload 3, .ldc_w 0, .iadd] [1, -1] [] [(7, .int y10), (0, .ref 113), (1, .int x1), (2, .int x2), (3, .int x3), (5, .int x5), (6, .int x6)] [.int (x3 + (1 : Int32)), .int (x2 &&& (y10 ^^^ (-1 : Int32))), .int (x1 + (1 : Int32)), .ref 113] h17 [] (by decide +kernel) rfl trivial ?_
                refine rv hG z_V_marryFrom 55 3 170 113 [.int (x1 + (1 : Int32)), .int (x2 &&& (y10 ^^^ (-1 : Int32))), .int (x3 + (1 : Int32))] [] (by decide +kernel) mk_V_marryFrom lk_10_55 rcv_113 rfl ⟨rfl, Nat.le_of_ble_eq_true rfl⟩ (hrec h17 (x1 + (1 : Int32)) (x2 &&& (y10 ^^^ (-1 : Int32))) (x3 + (1 : Int32)) _ (ok_bind hO)) ?_
                rintro _ h18 ⟨rfl, hO⟩
                refine rs hG [(0, .ref 113), (1, .int x1), (2, .int x2), (3, .int x3), (5, .int x5), (6, .int x6)] [1, 2, 3, 4, 5, 6] rfl ?_
                exact j173 x6 h18 hO
              · have hO := ok_neg c15 hO
                refine rs hG [(0, .ref 113), (1, .int x1), (2, .int x2), (3, .int x3), (5, .int x5), (6, .int x6)] [1, 2, 3, 4, 5, 6] rfl ?_
                exact j173 x6 h hO
        rw [eH87] at w9
        exact w9
      unfold V_marryFrom_b69 at hO
      obtain ⟨g19, hO⟩ := ok_if hO
      refine rb hG 7 69 78 [.iload 5, .aload 0, .instanceof 1003, .getfield 106] [] [] [(0, .ref 113), (1, .int x1), (2, .int x2), (3, .int x3), (5, .int x5)] [.int (h.1 (Int32.toNatClampNeg (h.1 113 3)) 6), .int x5] h [kd 113 = 10, kd (Int32.toNatClampNeg (h.1 113 3)) = 1] (by decide +kernel) rfl ⟨kd_113, g19⟩ ?_
      refine rj hG .ge (107) 185 78 (by decide +kernel) (by decide) (fun c20 => ?_) (fun c20 => ?_)
      · have hO := ok_pos c20 hO
        refine rs hG [(0, .ref 113), (1, .int x1), (2, .int x2), (3, .int x3)] [0, 1, 2, 3] rfl ?_
        exact j185 h (ok_inr hO)
      · have hO := ok_neg c20 hO
        refine rbx hG 7 81 87 [.iload 5, .ldc_w 0, .iadd, .istore 6] [1] [] ((x5 + (1 : Int32))) (fun y21 => [(6, .int y21), (0, .ref 113), (1, .int x1), (2, .int x2), (3, .int x3), (5, .int x5)]) (fun y21 => []) (fun y21 => h) [] (by decide +kernel) rfl trivial hO (fun y21 hO => ?_)
        refine rs hG [(0, .ref 113), (1, .int x1), (2, .int x2), (3, .int x3), (5, .int x5), (6, .int y21)] [1, 2, 3, 4, 5, 0] rfl ?_
        exact l87 x5 y21 h hO
    rw [eH69] at w9
    exact w9
  obtain ⟨g22, hO⟩ := ok_if hO
  refine rbx hG 9 0 11 [.aload 0, .instanceof 1003, .getfield 105, .iload 1, .isub, .istore 4] [] [] (((h.1 (Int32.toNatClampNeg (h.1 113 3)) 5) - x1)) (fun y23 => [(4, .int y23), (0, .ref 113), (1, .int x1), (2, .int x2), (3, .int x3)]) (fun y23 => []) (fun y23 => h) [kd 113 = 10, kd (Int32.toNatClampNeg (h.1 113 3)) = 1] (by decide +kernel) rfl ⟨kd_113, g22⟩ hO (fun y23 hO => ?_)
  refine rb hG 6 11 15 [.iload 3, .iload 4, .iload 2] [] [] [(4, .int y23), (0, .ref 113), (1, .int x1), (2, .int x2), (3, .int x3)] [.int x2, .int y23, .int x3] h [] (by decide +kernel) rfl trivial ?_
  refine rt hG z_J_bitCount 62 1 15 [.int x2] [.int y23, .int x3] (by decide +kernel) mk_J_bitCount lk_10_62 rfl ⟨rfl, Nat.le_of_ble_eq_true rfl⟩ (c_J_bitCount (d := D + 2) h x2 (ok_bind hO)) ?_
  rintro _ _ ⟨r24, rfl, rfl, hO⟩
  refine rb hG 9 18 28 [.ldc_w 0, .idiv, .invokestatic 2, .iadd, .aload 0, .getfield 1004] [2] [] [(4, .int y23), (0, .ref 113), (1, .int x1), (2, .int x2), (3, .int x3)] [.int (h.1 113 4), .int (x3 + (mn y23 (r24 / (2 : Int32))))] h [¬ (2 : Int32) = 0, sm [.int x3] ≤ 8, kd 113 = 10] (by decide +kernel) rfl ⟨(show ¬ (2 : Int32) = 0 by decide), Nat.le_of_ble_eq_true rfl, kd_113⟩ ?_
  refine rj hG .gt (4) 32 28 (by decide +kernel) (by decide) (fun c25 => ?_) (fun c25 => ?_)
  · have hO := ok_pos c25 hO
    refine rb hG 4 32 34 [.iload 4] [] [] [(4, .int y23), (0, .ref 113), (1, .int x1), (2, .int x2), (3, .int x3)] [.int y23] h [] (by decide +kernel) rfl trivial ?_
    refine ri hG .le (12) 46 34 (by decide +kernel) (by decide) (fun c26 => ?_) (fun c26 => ?_)
    · have hO := ok_pos c26 hO
      refine rs hG [(0, .ref 113), (3, .int x3)] [1, 4] rfl ?_
      exact j46 h hO
    · have hO := ok_neg c26 hO
      refine rb hG 6 37 40 [.iload 1, .ldc_w 0, .ldc_w 1] [0, 5] [] [(4, .int y23), (0, .ref 113), (1, .int x1), (2, .int x2), (3, .int x3)] [.int (5 : Int32), .int (0 : Int32), .int x1] h [] (by decide +kernel) rfl trivial ?_
      refine rt hG z_K_isOf 73 3 40 [.int x1, .int (0 : Int32), .int (5 : Int32)] [] (by decide +kernel) mk_K_isOf lk_10_73 rfl ⟨rfl, Nat.le_of_ble_eq_true rfl⟩ (c_K_isOf (d := D + 2) h x1 (0 : Int32) (5 : Int32) (ok_bind hO)) ?_
      rintro _ _ ⟨r27, rfl, rfl, hO⟩
      refine riN hG (23) 66 43 (by decide +kernel) (by decide) (fun c28 => ?_) (fun c28 => ?_)
      · have hO := ok_pos c28 hO
        refine rs hG [(0, .ref 113), (3, .int x3)] [1, 4] rfl ?_
        exact j46 h hO
      · have hO := ok_neg c28 hO
        refine rb hG 5 66 69 [.ldc_w 0, .istore 5] [0] [] [(5, .int (0 : Int32)), (4, .int y23), (0, .ref 113), (1, .int x1), (2, .int x2), (3, .int x3)] [] h [] (by decide +kernel) rfl trivial ?_
        refine rs hG [(0, .ref 113), (1, .int x1), (2, .int x2), (3, .int x3), (5, .int (0 : Int32))] [2, 3, 4, 5, 0] rfl ?_
        exact l69 (0 : Int32) h hO
  · have hO := ok_neg c25 hO
    exact eV hG 31 (by decide +kernel) rfl ⟨rfl, ok_some (Q := P) hO⟩
set_option maxRecDepth 100000 in
set_option maxHeartbeats 4000000 in
theorem c_V_marryFrom {E : En} (n : Nat) {d : Nat} (h : Hp) (x1 : Int32) (x2 : Int32) (x3 : Int32) {P : Hp → Prop} (hO : Okk (V_marryFrom n h x1 x2 x3) P) : Cn E (d + n + 3) z_V_marryFrom [.ref 113, .int x1, .int x2, .int x3] h (RV P) := by
  induction n generalizing d h x1 x2 x3 P with
  | zero =>
    obtain ⟨y, h1, -⟩ := hO
    cases h1
  | succ n ih => exact cb_V_marryFrom (D := d + n) (V_marryFrom n) (fun h x1 x2 x3 P hO => ih h x1 x2 x3 hO) h x1 x2 x3 hO
/-! GrainInn.Weddings.search(LGrainInn$State;)V -/
noncomputable def V_search_j106 (x1 : Nat) (h : Hp) : Option Hp := if kd (Int32.toNatClampNeg (h.1 113 3)) = 1 then ((V_marryFrom 9 h (0 : Int32) ((sh (1 : Int32) (h.1 (Int32.toNatClampNeg (h.1 113 3)) 6)) - (1 : Int32)) (0 : Int32)).bind fun h2 => some h2) else none
noncomputable def V_search_j100 (x1 : Nat) (x2 : Int32) (h : Hp) : Option ((Int32 × Hp) ⊕ Hp) := bnd ((x2 + (1 : Int32))) fun y3 => some (.inl (y3, h))
noncomputable def V_search_j94 (x1 : Nat) (x2 : Int32) (x3 : Nat) (x4 : Int32) (h : Hp) : Option ((Int32 × Hp) ⊕ ((Int32 × Hp) ⊕ Hp)) := bnd ((x4 + (1 : Int32))) fun y4 => some (.inl (y4, h))
noncomputable def V_search_b36 (x1 : Nat) (x2 : Int32) (x3 : Nat) (x4 : Int32) (h : Hp) : Option ((Int32 × Hp) ⊕ ((Int32 × Hp) ⊕ Hp)) := if kd (Int32.toNatClampNeg (h.1 113 3)) = 1 then (if (h.1 (Int32.toNatClampNeg (h.1 113 3)) 6) ≤ x4 then (((V_search_j100 x1 x2 h).map Sum.inr)) else (if x3 = 0 then (((V_search_j100 x1 x2 h).map Sum.inr)) else ((H_seatsOf h (Int32.toNatClampNeg (h.1 113 3)) x2).bind fun r8 => if r8 < (2 : Int32) then (((V_search_j100 x1 x2 h).map Sum.inr)) else ((H_quarrelsOf h (Int32.toNatClampNeg (h.1 113 3)) x4).bind fun r10 => if kd x3 = 0 then ((B_allGuests h x3).bind fun r12 => if (r10 &&& r12) = 0 then (if inb x2 (ln 114) then (if inb x2 (ln 114) then (bnd (wr h 114 (Int32.toNatClampNeg x2) ((h.1 114 (Int32.toNatClampNeg x2)) ||| (sh (1 : Int32) x4))) fun h16 => (V_search_j94 x1 x2 x3 x4 h16)) else none) else none) else ((V_search_j94 x1 x2 x3 x4 h))) else none)))) else none
noncomputable def V_search_l36 (x1 : Nat) (x2 : Int32) (x3 : Nat) (x4 : Int32) (h : Hp) : Option ((Int32 × Hp) ⊕ Hp) := lp (fun s : (Int32 × Hp) => V_search_b36 x1 x2 x3 s.1 s.2) (x4, h)
theorem V_search_l36_eq (x1 : Nat) (x2 : Int32) (x3 : Nat) (x4 : Int32) (h : Hp) : V_search_l36 x1 x2 x3 x4 h = (V_search_b36 x1 x2 x3 x4 h).bind (Sum.elim (fun q : (Int32 × Hp) => V_search_l36 x1 x2 x3 q.1 q.2) some) := lp_eq _ _
noncomputable def V_search_b15 (x1 : Nat) (x2 : Int32) (h : Hp) : Option ((Int32 × Hp) ⊕ Hp) := if (5 : Int32) ≤ x2 then (((V_search_j106 x1 h).map Sum.inr)) else (if x1 = 57 then ((S_benchAt h x2).bind fun r19 => if inb x2 (ln 114) then (bnd (wr h 114 (Int32.toNatClampNeg x2) (0 : Int32)) fun h21 => (V_search_l36 x1 x2 r19 (0 : Int32) h21)) else none) else none)
noncomputable def V_search_l15 (x1 : Nat) (x2 : Int32) (h : Hp) : Option Hp := lp (fun s : (Int32 × Hp) => V_search_b15 x1 s.1 s.2) (x2, h)
theorem V_search_l15_eq (x1 : Nat) (x2 : Int32) (h : Hp) : V_search_l15 x1 x2 h = (V_search_b15 x1 x2 h).bind (Sum.elim (fun q : (Int32 × Hp) => V_search_l15 x1 q.1 q.2) some) := lp_eq _ _
noncomputable def V_search (h : Hp) (x1 : Nat) : Option Hp := if x1 = 57 then (if kd (Int32.toNatClampNeg (h.1 57 6)) = 1 then (bnd (wr h 113 3 (Int32.ofNat (Int32.toNatClampNeg (h.1 57 6)))) fun h24 => bnd (wr h24 113 4 (-1 : Int32)) fun h25 => (V_search_l15 x1 (0 : Int32) h25)) else none) else none
set_option maxRecDepth 100000 in
set_option maxHeartbeats 4000000 in
theorem c_V_search {E : En} {d : Nat} (h : Hp) (x1 : Nat) {P : Hp → Prop} (hO : Okk (V_search h x1) P) : Cn E (d + 13) z_V_search [.ref 113, .ref x1] h (RV P) := by
  refine cn_of (on := 10) (d := d + 12) ⟨rfl, by decide +kernel, Nat.le_of_ble_eq_true rfl⟩ (fun G hG => ?_)
  unfold V_search at hO
  show G 0 [(0, .ref 113), (1, .ref x1)] [] h
  have j106 : ∀ (h : Hp), Okk (V_search_j106 x1 h) P → G 106 [(0, .ref 113)] [] h := by
    intro h hO
    unfold V_search_j106 at hO
    obtain ⟨g1, hO⟩ := ok_if hO
    refine rb hG 13 106 120 [.aload 0, .ldc_w 0, .ldc_w 1, .aload 0, .instanceof 1003, .getfield 106, .ishl, .ldc_w 1, .isub, .ldc_w 0] [0, 1] [] [(0, .ref 113)] [.int (0 : Int32), .int ((sh (1 : Int32) (h.1 (Int32.toNatClampNeg (h.1 113 3)) 6)) - (1 : Int32)), .int (0 : Int32), .ref 113] h [kd 113 = 10, kd (Int32.toNatClampNeg (h.1 113 3)) = 1] (by decide +kernel) rfl ⟨kd_113, g1⟩ ?_
    refine rv hG z_V_marryFrom 55 3 120 113 [.int (0 : Int32), .int ((sh (1 : Int32) (h.1 (Int32.toNatClampNeg (h.1 113 3)) 6)) - (1 : Int32)), .int (0 : Int32)] [] (by decide +kernel) mk_V_marryFrom lk_10_55 rcv_113 rfl ⟨rfl, Nat.le_of_ble_eq_true rfl⟩ (c_V_marryFrom 9 (d := d) h (0 : Int32) ((sh (1 : Int32) (h.1 (Int32.toNatClampNeg (h.1 113 3)) 6)) - (1 : Int32)) (0 : Int32) (ok_bind hO)) ?_
    rintro _ h2 ⟨rfl, hO⟩
    exact eV hG 123 (by decide +kernel) rfl ⟨rfl, ok_some (Q := P) hO⟩
  have l15 : ∀ (x2 : Int32) (h : Hp), Okk (V_search_l15 x1 x2 h) P → G 15 [(0, .ref 113), (1, .ref x1), (2, .int x2)] [] h := by
    intro x2 h hO
    obtain ⟨H15, eH15⟩ : ∃ q : (Int32 × Hp) → Prop, q = fun s => G 15 [(0, .ref 113), (1, .ref x1), (2, .int (s.1))] [] (s.2) := ⟨_, rfl⟩
    have w9 : H15 (x2, h) := by
      refine lp_wp (f := fun s : (Int32 × Hp) => V_search_b15 x1 s.1 s.2) (H := H15) (Q := P) ?_ (x2, h) hO
      rintro ⟨x2, h⟩ hO
      rw [eH15]
      show G 15 [(0, .ref 113), (1, .ref x1), (2, .int x2)] [] h
      have k15 : ∀ s : (Int32 × Hp), H15 s → G 15 [(0, .ref 113), (1, .ref x1), (2, .int (s.1))] [] (s.2) := fun s q => by rw [eH15] at q; exact q
      replace hO : Okk (V_search_b15 x1 x2 h) (Sum.elim H15 P) := hO
      clear eH15
      have j100 : ∀ (x2 : Int32) (h : Hp), Okk (V_search_j100 x1 x2 h) (Sum.elim H15 P) → G 100 [(0, .ref 113), (1, .ref x1), (2, .int x2)] [] h := by
        intro x2 h hO
        unfold V_search_j100 at hO
        refine rbx hG 4 100 103 [.iinc 2 0] [1] [] ((x2 + (1 : Int32))) (fun y3 => [(2, .int y3), (0, .ref 113), (1, .ref x1)]) (fun y3 => []) (fun y3 => h) [] (by decide +kernel) rfl trivial hO (fun y3 hO => ?_)
        refine rb hG 4 103 15 [] [] [] [(2, .int y3), (0, .ref 113), (1, .ref x1)] [] h [] (by decide +kernel) rfl trivial ?_
        refine rs hG [(0, .ref 113), (1, .ref x1), (2, .int y3)] [1, 2, 0] rfl ?_
        exact k15 (y3, h) (ok_some (Q := (Sum.elim H15 P)) hO)
      have l36 : ∀ (x2 : Int32) (x3 : Nat) (x4 : Int32) (h : Hp), Okk (V_search_l36 x1 x2 x3 x4 h) (Sum.elim H15 P) → G 36 [(0, .ref 113), (1, .ref x1), (2, .int x2), (3, .ref x3), (4, .int x4)] [] h := by
        intro x2 x3 x4 h hO
        obtain ⟨H36, eH36⟩ : ∃ q : (Int32 × Hp) → Prop, q = fun s => G 36 [(0, .ref 113), (1, .ref x1), (2, .int x2), (3, .ref x3), (4, .int (s.1))] [] (s.2) := ⟨_, rfl⟩
        have w9 : H36 (x4, h) := by
          refine lp_wp (f := fun s : (Int32 × Hp) => V_search_b36 x1 x2 x3 s.1 s.2) (H := H36) (Q := (Sum.elim H15 P)) ?_ (x4, h) hO
          rintro ⟨x4, h⟩ hO
          rw [eH36]
          show G 36 [(0, .ref 113), (1, .ref x1), (2, .int x2), (3, .ref x3), (4, .int x4)] [] h
          have k36 : ∀ s : (Int32 × Hp), H36 s → G 36 [(0, .ref 113), (1, .ref x1), (2, .int x2), (3, .ref x3), (4, .int (s.1))] [] (s.2) := fun s q => by rw [eH36] at q; exact q
          replace hO : Okk (V_search_b36 x1 x2 x3 x4 h) (Sum.elim H36 (Sum.elim H15 P)) := hO
          clear eH36
          have j94 : ∀ (x4 : Int32) (h : Hp), Okk (V_search_j94 x1 x2 x3 x4 h) (Sum.elim H36 (Sum.elim H15 P)) → G 94 [(0, .ref 113), (1, .ref x1), (2, .int x2), (3, .ref x3), (4, .int x4)] [] h := by
            intro x4 h hO
            unfold V_search_j94 at hO
            refine rbx hG 4 94 97 [.iinc 4 0] [1] [] ((x4 + (1 : Int32))) (fun y4 => [(4, .int y4), (0, .ref 113), (1, .ref x1), (2, .int x2), (3, .ref x3)]) (fun y4 => []) (fun y4 => h) [] (by decide +kernel) rfl trivial hO (fun y4 hO => ?_)
            refine rb hG 4 97 36 [] [] [] [(4, .int y4), (0, .ref 113), (1, .ref x1), (2, .int x2), (3, .ref x3)] [] h [] (by decide +kernel) rfl trivial ?_
            refine rs hG [(0, .ref 113), (1, .ref x1), (2, .int x2), (3, .ref x3), (4, .int y4)] [1, 2, 3, 4, 0] rfl ?_
            exact k36 (y4, h) (ok_some (Q := (Sum.elim H36 (Sum.elim H15 P))) hO)
          unfold V_search_b36 at hO
          obtain ⟨g5, hO⟩ := ok_if hO
          refine rb hG 7 36 45 [.iload 4, .aload 0, .instanceof 1003, .getfield 106] [] [] [(0, .ref 113), (1, .ref x1), (2, .int x2), (3, .ref x3), (4, .int x4)] [.int (h.1 (Int32.toNatClampNeg (h.1 113 3)) 6), .int x4] h [kd 113 = 10, kd (Int32.toNatClampNeg (h.1 113 3)) = 1] (by decide +kernel) rfl ⟨kd_113, g5⟩ ?_
          refine rj hG .ge (55) 100 45 (by decide +kernel) (by decide) (fun c6 => ?_) (fun c6 => ?_)
          · have hO := ok_pos c6 hO
            refine rs hG [(0, .ref 113), (1, .ref x1), (2, .int x2)] [0, 1, 2] rfl ?_
            exact j100 x2 h (ok_inr hO)
          · have hO := ok_neg c6 hO
            refine rb hG 4 48 49 [.aload 3] [] [] [(0, .ref 113), (1, .ref x1), (2, .int x2), (3, .ref x3), (4, .int x4)] [.ref x3] h [] (by decide +kernel) rfl trivial ?_
            refine rn hG (51) 100 49 (by decide +kernel) (by decide) (fun c7 => ?_) (fun c7 => ?_)
            · have hO := ok_pos c7 hO
              refine rs hG [(0, .ref 113), (1, .ref x1), (2, .int x2)] [0, 1, 2] rfl ?_
              exact j100 x2 h (ok_inr hO)
            · have hO := ok_neg c7 hO
              refine rb hG 6 52 57 [.aload 0, .instanceof 1003, .iload 2] [] [] [(0, .ref 113), (1, .ref x1), (2, .int x2), (3, .ref x3), (4, .int x4)] [.int x2, .ref (Int32.toNatClampNeg (h.1 113 3))] h [kd 113 = 10] (by decide +kernel) rfl kd_113 ?_
              refine rv hG z_H_seatsOf 42 1 57 (Int32.toNatClampNeg (h.1 113 3)) [.int x2] [] (by decide +kernel) mk_H_seatsOf lk_10_42 (rcv_H g5) rfl ⟨rfl, Nat.le_of_ble_eq_true rfl⟩ (c_H_seatsOf (d := d + 10) h (Int32.toNatClampNeg (h.1 113 3)) x2 (ok_bind hO)) ?_
              rintro _ _ ⟨r8, rfl, rfl, hO⟩
              refine rb hG 4 60 61 [.ldc_w 0] [2] [] [(0, .ref 113), (1, .ref x1), (2, .int x2), (3, .ref x3), (4, .int x4)] [.int (2 : Int32), .int r8] h [] (by decide +kernel) rfl trivial ?_
              refine rj hG .lt (39) 100 61 (by decide +kernel) (by decide) (fun c9 => ?_) (fun c9 => ?_)
              · have hO := ok_pos c9 hO
                refine rs hG [(0, .ref 113), (1, .ref x1), (2, .int x2)] [0, 1, 2] rfl ?_
                exact j100 x2 h (ok_inr hO)
              · have hO := ok_neg c9 hO
                refine rb hG 6 64 70 [.aload 0, .instanceof 1003, .iload 4] [] [] [(0, .ref 113), (1, .ref x1), (2, .int x2), (3, .ref x3), (4, .int x4)] [.int x4, .ref (Int32.toNatClampNeg (h.1 113 3))] h [kd 113 = 10] (by decide +kernel) rfl kd_113 ?_
                refine rv hG z_H_quarrelsOf 46 1 70 (Int32.toNatClampNeg (h.1 113 3)) [.int x4] [] (by decide +kernel) mk_H_quarrelsOf lk_10_46 (rcv_H g5) rfl ⟨rfl, Nat.le_of_ble_eq_true rfl⟩ (c_H_quarrelsOf (d := d + 10) h (Int32.toNatClampNeg (h.1 113 3)) x4 (ok_bind hO)) ?_
                rintro _ _ ⟨r10, rfl, rfl, hO⟩
                obtain ⟨g11, hO⟩ := ok_if hO
                refine rb hG 4 73 74 [.aload 3] [] [] [(0, .ref 113), (1, .ref x1), (2, .int x2), (3, .ref x3), (4, .int x4)] [.ref x3, .int r10] h [] (by decide +kernel) rfl trivial ?_
                refine rv hG z_B_allGuests 49 0 74 x3 [] [.int r10] (by decide +kernel) mk_B_allGuests lk_10_49 (rcv_B g11) rfl ⟨rfl, Nat.le_of_ble_eq_true rfl⟩ (c_B_allGuests (d := d + 11) h x3 (ok_bind hO)) ?_
                rintro _ _ ⟨r12, rfl, rfl, hO⟩
                refine rb hG 4 77 78 [.iand] [] [] [(0, .ref 113), (1, .ref x1), (2, .int x2), (3, .ref x3), (4, .int x4)] [.int (r10 &&& r12)] h [] (by decide +kernel) rfl trivial ?_
                refine riN hG (16) 94 78 (by decide +kernel) (by decide) (fun c13 => ?_) (fun c13 => ?_)
                · have hO := ok_pos c13 hO
                  obtain ⟨g14, hO⟩ := ok_if hO
                  obtain ⟨g15, hO⟩ := ok_if hO
                  refine rbx hG 13 81 94 [.aload 0, .invokeinterface 1000 1, .iload 2, .dup2, .iaload, .ldc_w 0, .iload 4, .ishl, .ior, .iastore] [1] [] (wr h 114 (Int32.toNatClampNeg x2) ((h.1 114 (Int32.toNatClampNeg x2)) ||| (sh (1 : Int32) x4))) (fun h16 => [(0, .ref 113), (1, .ref x1), (2, .int x2), (3, .ref x3), (4, .int x4)]) (fun h16 => []) (fun h16 => h16) [kd 113 = 10, kd 114 = 20 ∧ inb x2 (ln 114), kd 114 = 20 ∧ inb x2 (ln 114)] (by decide +kernel) rfl ⟨kd_113, ⟨kd_114, g14⟩, ⟨kd_114, g15⟩⟩ hO (fun h16 hO => ?_)
                  exact j94 x4 h16 hO
                · have hO := ok_neg c13 hO
                  exact j94 x4 h hO
        rw [eH36] at w9
        exact w9
      unfold V_search_b15 at hO
      refine rb hG 5 15 17 [.iload 2, .ldc_w 0] [5] [] [(0, .ref 113), (1, .ref x1), (2, .int x2)] [.int (5 : Int32), .int x2] h [] (by decide +kernel) rfl trivial ?_
      refine rj hG .ge (89) 106 17 (by decide +kernel) (by decide) (fun c17 => ?_) (fun c17 => ?_)
      · have hO := ok_pos c17 hO
        refine rs hG [(0, .ref 113)] [0] rfl ?_
        exact j106 h (ok_inr hO)
      · have hO := ok_neg c17 hO
        obtain ⟨g18, hOg18⟩ := ok_if hO
        subst g18
        have hO := hOg18
        refine rb hG 5 20 22 [.aload 1, .iload 2] [] [] [(0, .ref 113), (1, .ref 57), (2, .int x2)] [.int x2, .ref 57] h [] (by decide +kernel) rfl trivial ?_
        refine rv hG z_S_benchAt 35 1 22 57 [.int x2] [] (by decide +kernel) mk_S_benchAt lk_10_35 rcv_57 rfl ⟨rfl, Nat.le_of_ble_eq_true rfl⟩ (c_S_benchAt (d := d + 10) h x2 (ok_bind hO)) ?_
        rintro _ _ ⟨r19, rfl, rfl, hO⟩
        obtain ⟨g20, hO⟩ := ok_if hO
        refine rbx hG 9 25 33 [.astore 3, .aload 0, .invokeinterface 1000 1, .iload 2, .ldc_w 0, .iastore] [0] [] (wr h 114 (Int32.toNatClampNeg x2) (0 : Int32)) (fun h21 => [(3, .ref r19), (0, .ref 113), (1, .ref 57), (2, .int x2)]) (fun h21 => []) (fun h21 => h21) [kd 113 = 10, kd 114 = 20 ∧ inb x2 (ln 114)] (by decide +kernel) rfl ⟨kd_113, ⟨kd_114, g20⟩⟩ hO (fun h21 hO => ?_)
        refine rb hG 5 33 36 [.ldc_w 0, .istore 4] [0] [] [(4, .int (0 : Int32)), (3, .ref r19), (0, .ref 113), (1, .ref 57), (2, .int x2)] [] h21 [] (by decide +kernel) rfl trivial ?_
        refine rs hG [(0, .ref 113), (1, .ref 57), (2, .int x2), (3, .ref r19), (4, .int (0 : Int32))] [2, 3, 4, 1, 0] rfl ?_
        exact l36 x2 r19 (0 : Int32) h21 hO
    rw [eH15] at w9
    exact w9
  obtain ⟨g22, hOg22⟩ := ok_if hO
  subst g22
  have hO := hOg22
  obtain ⟨g23, hO⟩ := ok_if hO
  refine rbx hG 7 0 8 [.aload 0, .aload 1, .instanceof 706, .anewarray 1003] [] [] (wr h 113 3 (Int32.ofNat (Int32.toNatClampNeg (h.1 57 6)))) (fun h24 => [(0, .ref 113), (1, .ref 57)]) (fun h24 => []) (fun h24 => h24) [kd 57 = 7, kd 113 = 10 ∧ kd (Int32.toNatClampNeg (h.1 57 6)) = 1] (by decide +kernel) rfl ⟨kd_57, ⟨kd_113, g23⟩⟩ hO (fun h24 hO => ?_)
  refine rbx hG 6 8 13 [.aload 0, .ldc_w 0, .putfield 1004] [-1] [] (wr h24 113 4 (-1 : Int32)) (fun h25 => [(0, .ref 113), (1, .ref 57)]) (fun h25 => []) (fun h25 => h25) [kd 113 = 10] (by decide +kernel) rfl kd_113 hO (fun h25 hO => ?_)
  refine rb hG 5 13 15 [.ldc_w 0, .istore 2] [0] [] [(2, .int (0 : Int32)), (0, .ref 113), (1, .ref 57)] [] h25 [] (by decide +kernel) rfl trivial ?_
  refine rs hG [(0, .ref 113), (1, .ref 57), (2, .int (0 : Int32))] [1, 2, 0] rfl ?_
  exact l15 (0 : Int32) h25 hO
/-! GrainInn.Weddings.coupleAt(I)I -/
noncomputable def V_coupleAt_j19 (s0 : Int32) (h : Hp) : Option Int32 := some s0
noncomputable def V_coupleAt (h : Hp) (x1 : Int32) : Option Int32 := (K_isOf x1 (0 : Int32) (5 : Int32)).bind fun r1 => if r1 = 0 then ((V_coupleAt_j19 (-1 : Int32) h)) else (if inb x1 (ln 116) then ((V_coupleAt_j19 (h.1 116 (Int32.toNatClampNeg x1)) h)) else none)
set_option maxRecDepth 100000 in
set_option maxHeartbeats 4000000 in
theorem c_V_coupleAt {E : En} {d : Nat} (h : Hp) (x1 : Int32) {P : Int32 → Prop} (hO : Okk (V_coupleAt h x1) P) : Cn E (d + 2) z_V_coupleAt [.ref 113, .int x1] h (RIp h P) := by
  refine cn_of (on := 10) (d := d + 1) ⟨rfl, by decide +kernel, Nat.le_of_ble_eq_true rfl⟩ (fun G hG => ?_)
  unfold V_coupleAt at hO
  show G 0 [(0, .ref 113), (1, .int x1)] [] h
  have j19 : ∀ (s0 : Int32), Okk (V_coupleAt_j19 s0 h) P → G 19 [] [.int s0] h := by
    intro s0 hO
    unfold V_coupleAt_j19 at hO
    exact eI hG 19 (by decide +kernel) rfl ⟨s0, rfl, rfl, ok_some (Q := P) hO⟩
  refine rb hG 6 0 3 [.iload 1, .ldc_w 0, .ldc_w 1] [0, 5] [] [(0, .ref 113), (1, .int x1)] [.int (5 : Int32), .int (0 : Int32), .int x1] h [] (by decide +kernel) rfl trivial ?_
  refine rt hG z_K_isOf 73 3 3 [.int x1, .int (0 : Int32), .int (5 : Int32)] [] (by decide +kernel) mk_K_isOf lk_10_73 rfl ⟨rfl, Nat.le_of_ble_eq_true rfl⟩ (c_K_isOf (d := d) h x1 (0 : Int32) (5 : Int32) (ok_bind hO)) ?_
  rintro _ _ ⟨r1, rfl, rfl, hO⟩
  refine ri hG .eq (12) 18 6 (by decide +kernel) (by decide) (fun c2 => ?_) (fun c2 => ?_)
  · have hO := ok_pos c2 hO
    refine rb hG 4 18 19 [.ldc_w 0] [-1] [] [(0, .ref 113), (1, .int x1)] [.int (-1 : Int32)] h [] (by decide +kernel) rfl trivial ?_
    refine rs hG [] [] rfl ?_
    exact j19 (-1 : Int32) hO
  · have hO := ok_neg c2 hO
    obtain ⟨g3, hO⟩ := ok_if hO
    refine rb hG 8 9 19 [.aload 0, .invokeinterface 1002 3, .iload 1, .iaload] [] [] [(0, .ref 113), (1, .int x1)] [.int (h.1 116 (Int32.toNatClampNeg x1))] h [kd 113 = 10, kd 116 = 20 ∧ inb x1 (ln 116)] (by decide +kernel) rfl ⟨kd_113, ⟨kd_116, g3⟩⟩ ?_
    refine rs hG [] [] rfl ?_
    exact j19 (h.1 116 (Int32.toNatClampNeg x1)) hO
/-! GrainInn.weddings(IIII)I -/
noncomputable def K_weddings_j74 (s0 : Int32) (h : Hp) : Option (Int32 × Hp) := some (s0, h)
noncomputable def K_weddings (h : Hp) (x1 : Int32) (x2 : Int32) (x3 : Int32) (x4 : Int32) : Option (Int32 × Hp) := (K_reach h x1 x2 x3).bind fun (r1, h2) => if r1 = 0 then (some ((-2 : Int32), h2)) else ((V_search h2 r1).bind fun h4 => if x4 = 0 then (some ((h4.1 113 4), h4)) else (if r1 = 57 then (if kd (Int32.toNatClampNeg (h4.1 57 6)) = 1 then ((K_isOf x4 (10 : Int32) (h4.1 (Int32.toNatClampNeg (h4.1 57 6)) 5)).bind fun r8 => if r8 = 0 then ((K_weddings_j74 (-2 : Int32) h4)) else ((V_coupleAt h4 (x4 - (10 : Int32))).bind fun r10 => (K_weddings_j74 r10 h4))) else none) else none))
set_option maxRecDepth 100000 in
set_option maxHeartbeats 4000000 in
theorem c_K_weddings {E : En} {d : Nat} (h : Hp) (x1 : Int32) (x2 : Int32) (x3 : Int32) (x4 : Int32) {P : (Int32 × Hp) → Prop} (hO : Okk (K_weddings h x1 x2 x3 x4) P) : Cn E (d + 14) z_K_weddings [.ref 1, .int x1, .int x2, .int x3, .int x4] h (RI P) := by
  refine cn_of (on := 11) (d := d + 13) ⟨rfl, by decide +kernel, Nat.le_of_ble_eq_true rfl⟩ (fun G hG => ?_)
  unfold K_weddings at hO
  show G 0 [(0, .ref 1), (1, .int x1), (2, .int x2), (3, .int x3), (4, .int x4)] [] h
  have j74 : ∀ (s0 : Int32) (h : Hp), Okk (K_weddings_j74 s0 h) P → G 74 [] [.int s0] h := by
    intro s0 h hO
    unfold K_weddings_j74 at hO
    exact eI hG 74 (by decide +kernel) rfl ⟨s0, rfl, ok_some (Q := P) hO⟩
  refine rb hG 7 0 4 [.aload 0, .iload 1, .iload 2, .iload 3] [] [] [(0, .ref 1), (1, .int x1), (2, .int x2), (3, .int x3), (4, .int x4)] [.int x3, .int x2, .int x1, .ref 1] h [] (by decide +kernel) rfl trivial ?_
  refine rv hG z_K_reach 155 3 4 1 [.int x1, .int x2, .int x3] [] (by decide +kernel) mk_K_reach lk_11_155 rcv_1 rfl ⟨rfl, Nat.le_of_ble_eq_true rfl⟩ (c_K_reach (d := d + 6) h x1 x2 x3 (ok_bind hO)) ?_
  rintro _ h2 ⟨r1, rfl, hO⟩
  refine rb hG 5 7 11 [.astore 5, .aload 5] [] [] [(5, .ref r1), (0, .ref 1), (1, .int x1), (2, .int x2), (3, .int x3), (4, .int x4)] [.ref r1] h2 [] (by decide +kernel) rfl trivial ?_
  refine rnn hG (6) 17 11 (by decide +kernel) (by decide) (fun c3 => ?_) (fun c3 => ?_)
  · have hO := ok_pos c3 hO
    refine rb hG 4 14 16 [.ldc_w 0] [-2] [] [(5, .ref r1), (0, .ref 1), (1, .int x1), (2, .int x2), (3, .int x3), (4, .int x4)] [.int (-2 : Int32)] h2 [] (by decide +kernel) rfl trivial ?_
    exact eI hG 16 (by decide +kernel) rfl ⟨(-2 : Int32), rfl, ok_some (Q := P) hO⟩
  · have hO := ok_neg c3 hO
    refine rb hG 6 17 23 [.aload 0, .invokeinterface 1107 112, .aload 5] [] [] [(5, .ref r1), (0, .ref 1), (1, .int x1), (2, .int x2), (3, .int x3), (4, .int x4)] [.ref r1, .ref 113] h2 [kd 1 = 11] (by decide +kernel) rfl kd_1 ?_
    refine rv hG z_V_search 345 1 23 113 [.ref r1] [] (by decide +kernel) mk_V_search lk_11_345 rcv_113 rfl ⟨rfl, Nat.le_of_ble_eq_true rfl⟩ (c_V_search (d := d) h2 r1 (ok_bind hO)) ?_
    rintro _ h4 ⟨rfl, hO⟩
    refine rb hG 4 26 28 [.iload 4] [] [] [(5, .ref r1), (0, .ref 1), (1, .int x1), (2, .int x2), (3, .int x3), (4, .int x4)] [.int x4] h4 [] (by decide +kernel) rfl trivial ?_
    refine riN hG (11) 39 28 (by decide +kernel) (by decide) (fun c5 => ?_) (fun c5 => ?_)
    · have hO := ok_pos c5 hO
      refine rb hG 6 31 38 [.aload 0, .invokeinterface 1107 112, .getfield 1004] [] [] [(5, .ref r1), (0, .ref 1), (1, .int x1), (2, .int x2), (3, .int x3), (4, .int x4)] [.int (h4.1 113 4)] h4 [kd 1 = 11, kd 113 = 10] (by decide +kernel) rfl ⟨kd_1, kd_113⟩ ?_
      exact eI hG 38 (by decide +kernel) rfl ⟨(h4.1 113 4), rfl, ok_some (Q := P) hO⟩
    · have hO := ok_neg c5 hO
      obtain ⟨g6, hOg6⟩ := ok_if hO
      subst g6
      have hO := hOg6
      obtain ⟨g7, hO⟩ := ok_if hO
      refine rb hG 8 39 51 [.iload 4, .ldc_w 0, .aload 5, .instanceof 706, .getfield 105] [10] [] [(5, .ref 57), (0, .ref 1), (1, .int x1), (2, .int x2), (3, .int x3), (4, .int x4)] [.int (h4.1 (Int32.toNatClampNeg (h4.1 57 6)) 5), .int (10 : Int32), .int x4] h4 [kd 57 = 7, kd (Int32.toNatClampNeg (h4.1 57 6)) = 1] (by decide +kernel) rfl ⟨kd_57, g7⟩ ?_
      refine rt hG z_K_isOf 119 3 51 [.int x4, .int (10 : Int32), .int (h4.1 (Int32.toNatClampNeg (h4.1 57 6)) 5)] [] (by decide +kernel) mk_K_isOf lk_11_119 rfl ⟨rfl, Nat.le_of_ble_eq_true rfl⟩ (c_K_isOf (d := d + 12) h4 x4 (10 : Int32) (h4.1 (Int32.toNatClampNeg (h4.1 57 6)) 5) (ok_bind hO)) ?_
      rintro _ _ ⟨r8, rfl, rfl, hO⟩
      refine ri hG .eq (18) 72 54 (by decide +kernel) (by decide) (fun c9 => ?_) (fun c9 => ?_)
      · have hO := ok_pos c9 hO
        refine rb hG 4 72 74 [.ldc_w 0] [-2] [] [(5, .ref 57), (0, .ref 1), (1, .int x1), (2, .int x2), (3, .int x3), (4, .int x4)] [.int (-2 : Int32)] h4 [] (by decide +kernel) rfl trivial ?_
        refine rs hG [] [] rfl ?_
        exact j74 (-2 : Int32) h4 hO
      · have hO := ok_neg c9 hO
        refine rb hG 8 57 66 [.aload 0, .invokeinterface 1107 112, .iload 4, .ldc_w 0, .isub] [10] [] [(5, .ref 57), (0, .ref 1), (1, .int x1), (2, .int x2), (3, .int x3), (4, .int x4)] [.int (x4 - (10 : Int32)), .ref 113] h4 [kd 1 = 11] (by decide +kernel) rfl kd_1 ?_
        refine rv hG z_V_coupleAt 351 1 66 113 [.int (x4 - (10 : Int32))] [] (by decide +kernel) mk_V_coupleAt lk_11_351 rcv_113 rfl ⟨rfl, Nat.le_of_ble_eq_true rfl⟩ (c_V_coupleAt (d := d + 11) h4 (x4 - (10 : Int32)) (ok_bind hO)) ?_
        rintro _ _ ⟨r10, rfl, rfl, hO⟩
        refine rb hG 4 69 74 [] [] [] [(5, .ref 57), (0, .ref 1), (1, .int x1), (2, .int x2), (3, .int x3), (4, .int x4)] [.int r10] h4 [] (by decide +kernel) rfl trivial ?_
        refine rs hG [] [] rfl ?_
        exact j74 r10 h4 hO
/-! GrainInnModel.canWed(III)Z -/
noncomputable def M_canWed_j107 (s0 : Int32) (h : Hp) : Option Int32 := if s0 = 0 ∨ s0 = 1 then (some s0) else none
noncomputable def M_canWed_j106 (h : Hp) : Option Int32 := (M_canWed_j107 (0 : Int32) h)
noncomputable def M_canWed_j62 (x1 : Int32) (x4 : Int32) (x5 : Int32) (s0 : Int32) (h : Hp) : Option Int32 := if s0 = 0 then ((M_canWed_j106 h)) else ((M_ofTable h x1 (0 : Int32)).bind fun r3 => if r3 ≤ (1 : Int32) then ((M_canWed_j106 h)) else ((M_crowdOf h x1).bind fun r5 => (M_couples h ((sh (1 : Int32) x4) ||| (sh (1 : Int32) x5)) r5 (17 : Int32)).bind fun r6 => if r6 = 0 then ((M_canWed_j107 (1 : Int32) h)) else ((M_canWed_j106 h))))
noncomputable def M_canWed_j61 (x1 : Int32) (x4 : Int32) (x5 : Int32) (h : Hp) : Option Int32 := (M_canWed_j62 x1 x4 x5 (0 : Int32) h)
noncomputable def M_canWed (h : Hp) (x1 : Int32) (x2 : Int32) (x3 : Int32) : Option Int32 := bnd ((x2 / (8 : Int32))) fun y8 => bnd ((rm x2 (8 : Int32))) fun y9 => if y9 ≤ y8 then ((M_canWed_j61 x1 y8 y9 h)) else ((M_isGuest h y9).bind fun r11 => if r11 = 0 then ((M_canWed_j61 x1 y8 y9 h)) else ((M_loves h y8 y9).bind fun r13 => if r13 = 0 then ((M_canWed_j61 x1 y8 y9 h)) else ((M_has x3 y8).bind fun r15 => if r15 = 0 then ((M_has x3 y9).bind fun r17 => if r17 = 0 then ((M_canWed_j62 x1 y8 y9 (1 : Int32) h)) else ((M_canWed_j61 x1 y8 y9 h))) else ((M_canWed_j61 x1 y8 y9 h)))))
set_option maxRecDepth 100000 in
set_option maxHeartbeats 4000000 in
theorem c_M_canWed {E : En} {d : Nat} (h : Hp) (x1 : Int32) (x2 : Int32) (x3 : Int32) {P : Int32 → Prop} (hO : Okk (M_canWed h x1 x2 x3) P) : Cn E (d + 3) z_M_canWed [.ref 251, .int x1, .int x2, .int x3] h (RIp h P) := by
  refine cn_of (on := 12) (d := d + 2) ⟨rfl, by decide +kernel, Nat.le_of_ble_eq_true rfl⟩ (fun G hG => ?_)
  unfold M_canWed at hO
  show G 0 [(0, .ref 251), (1, .int x1), (2, .int x2), (3, .int x3)] [] h
  have j107 : ∀ (s0 : Int32), Okk (M_canWed_j107 s0 h) P → G 107 [] [.int s0] h := by
    intro s0 hO
    unfold M_canWed_j107 at hO
    obtain ⟨g1, hO⟩ := ok_if hO
    exact eZ hG 107 (by decide +kernel) rfl g1 ⟨s0, rfl, rfl, ok_some (Q := P) hO⟩
  have j106 : Okk (M_canWed_j106 h) P → G 106 [] [] h := by
    intro hO
    unfold M_canWed_j106 at hO
    refine rb hG 4 106 107 [.ldc_w 0] [0] [] [] [.int (0 : Int32)] h [] (by decide +kernel) rfl trivial ?_
    exact j107 (0 : Int32) hO
  have j62 : ∀ (x4 : Int32) (x5 : Int32) (s0 : Int32), Okk (M_canWed_j62 x1 x4 x5 s0 h) P → G 62 [(0, .ref 251), (1, .int x1), (4, .int x4), (5, .int x5)] [.int s0] h := by
    intro x4 x5 s0 hO
    unfold M_canWed_j62 at hO
    refine rb hG 5 62 66 [.istore 6, .iload 6] [] [] [(6, .int s0), (0, .ref 251), (1, .int x1), (4, .int x4), (5, .int x5)] [.int s0] h [] (by decide +kernel) rfl trivial ?_
    refine ri hG .eq (40) 106 66 (by decide +kernel) (by decide) (fun c2 => ?_) (fun c2 => ?_)
    · have hO := ok_pos c2 hO
      refine rs hG [] [] rfl ?_
      exact j106 hO
    · have hO := ok_neg c2 hO
      refine rb hG 6 69 72 [.aload 0, .iload 1, .ldc_w 0] [0] [] [(6, .int s0), (0, .ref 251), (1, .int x1), (4, .int x4), (5, .int x5)] [.int (0 : Int32), .int x1, .ref 251] h [] (by decide +kernel) rfl trivial ?_
      refine rv hG z_M_ofTable 283 2 72 251 [.int x1, .int (0 : Int32)] [] (by decide +kernel) mk_M_ofTable lk_12_283 rcv_251 rfl ⟨rfl, Nat.le_of_ble_eq_true rfl⟩ (c_M_ofTable (d := d) h x1 (0 : Int32) (ok_bind hO)) ?_
      rintro _ _ ⟨r3, rfl, rfl, hO⟩
      refine rb hG 4 75 76 [.ldc_w 0] [1] [] [(6, .int s0), (0, .ref 251), (1, .int x1), (4, .int x4), (5, .int x5)] [.int (1 : Int32), .int r3] h [] (by decide +kernel) rfl trivial ?_
      refine rj hG .le (30) 106 76 (by decide +kernel) (by decide) (fun c4 => ?_) (fun c4 => ?_)
      · have hO := ok_pos c4 hO
        refine rs hG [] [] rfl ?_
        exact j106 hO
      · have hO := ok_neg c4 hO
        refine rb hG 13 79 91 [.aload 0, .ldc_w 0, .iload 4, .ishl, .ldc_w 0, .iload 5, .ishl, .ior, .aload 0, .iload 1] [1] [] [(6, .int s0), (0, .ref 251), (1, .int x1), (4, .int x4), (5, .int x5)] [.int x1, .ref 251, .int ((sh (1 : Int32) x4) ||| (sh (1 : Int32) x5)), .ref 251] h [] (by decide +kernel) rfl trivial ?_
        refine rv hG z_M_crowdOf 513 1 91 251 [.int x1] [.int ((sh (1 : Int32) x4) ||| (sh (1 : Int32) x5)), .ref 251] (by decide +kernel) mk_M_crowdOf lk_12_513 rcv_251 rfl ⟨rfl, Nat.le_of_ble_eq_true rfl⟩ (c_M_crowdOf (d := d + 1) h x1 (ok_bind hO)) ?_
        rintro _ _ ⟨r5, rfl, rfl, hO⟩
        refine rb hG 4 94 96 [.ldc_w 0] [17] [] [(6, .int s0), (0, .ref 251), (1, .int x1), (4, .int x4), (5, .int x5)] [.int (17 : Int32), .int r5, .int ((sh (1 : Int32) x4) ||| (sh (1 : Int32) x5)), .ref 251] h [] (by decide +kernel) rfl trivial ?_
        refine rv hG z_M_couples 313 3 96 251 [.int ((sh (1 : Int32) x4) ||| (sh (1 : Int32) x5)), .int r5, .int (17 : Int32)] [] (by decide +kernel) mk_M_couples lk_12_313 rcv_251 rfl ⟨rfl, Nat.le_of_ble_eq_true rfl⟩ (c_M_couples (d := d) h ((sh (1 : Int32) x4) ||| (sh (1 : Int32) x5)) r5 (17 : Int32) (ok_bind hO)) ?_
        rintro _ _ ⟨r6, rfl, rfl, hO⟩
        refine riN hG (7) 106 99 (by decide +kernel) (by decide) (fun c7 => ?_) (fun c7 => ?_)
        · have hO := ok_pos c7 hO
          refine rb hG 5 102 107 [.ldc_w 0] [1] [] [(6, .int s0), (0, .ref 251), (1, .int x1), (4, .int x4), (5, .int x5)] [.int (1 : Int32)] h [] (by decide +kernel) rfl trivial ?_
          refine rs hG [] [] rfl ?_
          exact j107 (1 : Int32) hO
        · have hO := ok_neg c7 hO
          refine rs hG [] [] rfl ?_
          exact j106 hO
  have j61 : ∀ (x4 : Int32) (x5 : Int32), Okk (M_canWed_j61 x1 x4 x5 h) P → G 61 [(0, .ref 251), (1, .int x1), (4, .int x4), (5, .int x5)] [] h := by
    intro x4 x5 hO
    unfold M_canWed_j61 at hO
    refine rb hG 4 61 62 [.ldc_w 0] [0] [] [(0, .ref 251), (1, .int x1), (4, .int x4), (5, .int x5)] [.int (0 : Int32)] h [] (by decide +kernel) rfl trivial ?_
    exact j62 x4 x5 (0 : Int32) hO
  refine rbx hG 7 0 6 [.iload 2, .ldc_w 0, .idiv, .istore 4] [8] [] ((x2 / (8 : Int32))) (fun y8 => [(4, .int y8), (0, .ref 251), (1, .int x1), (2, .int x2), (3, .int x3)]) (fun y8 => []) (fun y8 => h) [¬ (8 : Int32) = 0] (by decide +kernel) rfl (show ¬ (8 : Int32) = 0 by decide) hO (fun y8 hO => ?_)
  refine rbx hG 7 6 12 [.iload 2, .ldc_w 0, .irem, .istore 5] [8] [] ((rm x2 (8 : Int32))) (fun y9 => [(5, .int y9), (4, .int y8), (0, .ref 251), (1, .int x1), (2, .int x2), (3, .int x3)]) (fun y9 => []) (fun y9 => h) [¬ (8 : Int32) = 0] (by decide +kernel) rfl (show ¬ (8 : Int32) = 0 by decide) hO (fun y9 hO => ?_)
  refine rb hG 5 12 16 [.iload 4, .iload 5] [] [] [(5, .int y9), (4, .int y8), (0, .ref 251), (1, .int x1), (2, .int x2), (3, .int x3)] [.int y9, .int y8] h [] (by decide +kernel) rfl trivial ?_
  refine rj hG .ge (45) 61 16 (by decide +kernel) (by decide) (fun c10 => ?_) (fun c10 => ?_)
  · have hO := ok_pos c10 hO
    refine rs hG [(0, .ref 251), (1, .int x1), (4, .int y8), (5, .int y9)] [2, 3, 1, 0] rfl ?_
    exact j61 y8 y9 hO
  · have hO := ok_neg c10 hO
    refine rb hG 5 19 22 [.aload 0, .iload 5] [] [] [(5, .int y9), (4, .int y8), (0, .ref 251), (1, .int x1), (2, .int x2), (3, .int x3)] [.int y9, .ref 251] h [] (by decide +kernel) rfl trivial ?_
    refine rv hG z_M_isGuest 332 1 22 251 [.int y9] [] (by decide +kernel) mk_M_isGuest lk_12_332 rcv_251 rfl ⟨rfl, Nat.le_of_ble_eq_true rfl⟩ (c_M_isGuest (d := d) h y9 (ok_bind hO)) ?_
    rintro _ _ ⟨r11, rfl, rfl, hO⟩
    refine ri hG .eq (36) 61 25 (by decide +kernel) (by decide) (fun c12 => ?_) (fun c12 => ?_)
    · have hO := ok_pos c12 hO
      refine rs hG [(0, .ref 251), (1, .int x1), (4, .int y8), (5, .int y9)] [2, 3, 1, 0] rfl ?_
      exact j61 y8 y9 hO
    · have hO := ok_neg c12 hO
      refine rb hG 6 28 33 [.aload 0, .iload 4, .iload 5] [] [] [(5, .int y9), (4, .int y8), (0, .ref 251), (1, .int x1), (2, .int x2), (3, .int x3)] [.int y9, .int y8, .ref 251] h [] (by decide +kernel) rfl trivial ?_
      refine rv hG z_M_loves 475 2 33 251 [.int y8, .int y9] [] (by decide +kernel) mk_M_loves lk_12_475 rcv_251 rfl ⟨rfl, Nat.le_of_ble_eq_true rfl⟩ (c_M_loves (d := d) h y8 y9 (ok_bind hO)) ?_
      rintro _ _ ⟨r13, rfl, rfl, hO⟩
      refine ri hG .eq (25) 61 36 (by decide +kernel) (by decide) (fun c14 => ?_) (fun c14 => ?_)
      · have hO := ok_pos c14 hO
        refine rs hG [(0, .ref 251), (1, .int x1), (4, .int y8), (5, .int y9)] [2, 3, 1, 0] rfl ?_
        exact j61 y8 y9 hO
      · have hO := ok_neg c14 hO
        refine rb hG 5 39 42 [.iload 3, .iload 4] [] [] [(5, .int y9), (4, .int y8), (0, .ref 251), (1, .int x1), (2, .int x2), (3, .int x3)] [.int y8, .int x3] h [] (by decide +kernel) rfl trivial ?_
        refine rt hG z_M_has 103 2 42 [.int x3, .int y8] [] (by decide +kernel) mk_M_has lk_12_103 rfl ⟨rfl, Nat.le_of_ble_eq_true rfl⟩ (c_M_has (d := d + 1) h x3 y8 (ok_bind hO)) ?_
        rintro _ _ ⟨r15, rfl, rfl, hO⟩
        refine riN hG (16) 61 45 (by decide +kernel) (by decide) (fun c16 => ?_) (fun c16 => ?_)
        · have hO := ok_pos c16 hO
          refine rb hG 5 48 51 [.iload 3, .iload 5] [] [] [(5, .int y9), (4, .int y8), (0, .ref 251), (1, .int x1), (2, .int x2), (3, .int x3)] [.int y9, .int x3] h [] (by decide +kernel) rfl trivial ?_
          refine rt hG z_M_has 103 2 51 [.int x3, .int y9] [] (by decide +kernel) mk_M_has lk_12_103 rfl ⟨rfl, Nat.le_of_ble_eq_true rfl⟩ (c_M_has (d := d + 1) h x3 y9 (ok_bind hO)) ?_
          rintro _ _ ⟨r17, rfl, rfl, hO⟩
          refine riN hG (7) 61 54 (by decide +kernel) (by decide) (fun c18 => ?_) (fun c18 => ?_)
          · have hO := ok_pos c18 hO
            refine rb hG 5 57 62 [.ldc_w 0] [1] [] [(5, .int y9), (4, .int y8), (0, .ref 251), (1, .int x1), (2, .int x2), (3, .int x3)] [.int (1 : Int32)] h [] (by decide +kernel) rfl trivial ?_
            refine rs hG [(0, .ref 251), (1, .int x1), (4, .int y8), (5, .int y9)] [2, 3, 1, 0] rfl ?_
            exact j62 y8 y9 (1 : Int32) hO
          · have hO := ok_neg c18 hO
            refine rs hG [(0, .ref 251), (1, .int x1), (4, .int y8), (5, .int y9)] [2, 3, 1, 0] rfl ?_
            exact j61 y8 y9 hO
        · have hO := ok_neg c16 hO
          refine rs hG [(0, .ref 251), (1, .int x1), (4, .int y8), (5, .int y9)] [2, 3, 1, 0] rfl ?_
          exact j61 y8 y9 hO
/-! GrainInnModel.taking(I)I -/
noncomputable def M_taking (x1 : Int32) : Option Int32 := some ((sh (1 : Int32) (x1 / (8 : Int32))) ||| (sh (1 : Int32) (rm x1 (8 : Int32))))
set_option maxRecDepth 100000 in
set_option maxHeartbeats 4000000 in
theorem c_M_taking {E : En} {d : Nat} (h : Hp) (x1 : Int32) {P : Int32 → Prop} (hO : Okk (M_taking x1) P) : Cn E (d + 1) z_M_taking [.ref 251, .int x1] h (RIp h P) := by
  refine cn_of (on := 12) (d := d + 0) ⟨rfl, by decide +kernel, Nat.le_of_ble_eq_true rfl⟩ (fun G hG => ?_)
  unfold M_taking at hO
  show G 0 [(0, .ref 251), (1, .int x1)] [] h
  refine rb hG 14 0 13 [.ldc_w 0, .iload 1, .ldc_w 1, .idiv, .ishl, .ldc_w 0, .iload 1, .ldc_w 1, .irem, .ishl, .ior] [1, 8] [] [(0, .ref 251), (1, .int x1)] [.int ((sh (1 : Int32) (x1 / (8 : Int32))) ||| (sh (1 : Int32) (rm x1 (8 : Int32))))] h [¬ (8 : Int32) = 0, ¬ (8 : Int32) = 0] (by decide +kernel) rfl ⟨(show ¬ (8 : Int32) = 0 by decide), (show ¬ (8 : Int32) = 0 by decide)⟩ ?_
  exact eI hG 13 (by decide +kernel) rfl ⟨((sh (1 : Int32) (x1 / (8 : Int32))) ||| (sh (1 : Int32) (rm x1 (8 : Int32)))), rfl, rfl, ok_some (Q := P) hO⟩
/-! GrainInnModel.findWeds()V -/
noncomputable def M_findWeds_j150 (h : Hp) : Option Hp := some h
noncomputable def M_findWeds_j144 (x1 : Int32) (h : Hp) : Option ((Int32 × Hp) ⊕ Hp) := bnd ((x1 + (-1 : Int32))) fun y1 => some (.inl (y1, h))
noncomputable def M_findWeds_j125 (x1 : Int32) (x2 : Int32) (x3 : Int32) (h : Hp) : Option ((Int32 × Hp) ⊕ ((Int32 × Hp) ⊕ Hp)) := if inb (((256 : Int32) * x1) + x2) (ln 279) then (bnd (wr h 279 (Int32.toNatClampNeg (((256 : Int32) * x1) + x2)) x3) fun h3 => bnd ((x2 + (1 : Int32))) fun y4 => some (.inl (y4, h3))) else none
noncomputable def M_findWeds_j118 (x1 : Int32) (x2 : Int32) (x4 : Int32) (s0 : Int32) (h : Hp) : Option ((Int32 × Int32) ⊕ ((Int32 × Hp) ⊕ ((Int32 × Hp) ⊕ Hp))) := bnd ((x4 + (1 : Int32))) fun y5 => some (.inl (s0, y5))
noncomputable def M_findWeds_b69 (x1 : Int32) (x2 : Int32) (x3 : Int32) (x4 : Int32) (h : Hp) : Option ((Int32 × Int32) ⊕ ((Int32 × Hp) ⊕ ((Int32 × Hp) ⊕ Hp))) := if (64 : Int32) ≤ x4 then (((M_findWeds_j125 x1 x2 x3 h).map Sum.inr)) else ((M_canWed h x1 x4 x2).bind fun r7 => if r7 = 0 then ((M_findWeds_j118 x1 x2 x4 x3 h)) else ((M_taking x4).bind fun r9 => if inb (((256 : Int32) * (x1 + (1 : Int32))) + (x2 ||| r9)) (ln 279) then ((M_greater x3 ((1 : Int32) + (h.1 279 (Int32.toNatClampNeg (((256 : Int32) * (x1 + (1 : Int32))) + (x2 ||| r9)))))).bind fun r11 => (M_findWeds_j118 x1 x2 x4 r11 h)) else none))
noncomputable def M_findWeds_l69 (x1 : Int32) (x2 : Int32) (x3 : Int32) (x4 : Int32) (h : Hp) : Option ((Int32 × Hp) ⊕ ((Int32 × Hp) ⊕ Hp)) := lp (fun s : (Int32 × Int32) => M_findWeds_b69 x1 x2 s.1 s.2 h) (x3, x4)
theorem M_findWeds_l69_eq (x1 : Int32) (x2 : Int32) (x3 : Int32) (x4 : Int32) (h : Hp) : M_findWeds_l69 x1 x2 x3 x4 h = (M_findWeds_b69 x1 x2 x3 x4 h).bind (Sum.elim (fun q : (Int32 × Int32) => M_findWeds_l69 x1 x2 q.1 q.2 h) some) := lp_eq _ _
noncomputable def M_findWeds_b44 (x1 : Int32) (x2 : Int32) (h : Hp) : Option ((Int32 × Hp) ⊕ ((Int32 × Hp) ⊕ Hp)) := if (256 : Int32) ≤ x2 then (((M_findWeds_j144 x1 h).map Sum.inr)) else (if inb (((256 : Int32) * (x1 + (1 : Int32))) + x2) (ln 279) then (bnd ((h.1 279 (Int32.toNatClampNeg (((256 : Int32) * (x1 + (1 : Int32))) + x2)))) fun y14 => (M_findWeds_l69 x1 x2 y14 (0 : Int32) h)) else none)
noncomputable def M_findWeds_l44 (x1 : Int32) (x2 : Int32) (h : Hp) : Option ((Int32 × Hp) ⊕ Hp) := lp (fun s : (Int32 × Hp) => M_findWeds_b44 x1 s.1 s.2) (x2, h)
theorem M_findWeds_l44_eq (x1 : Int32) (x2 : Int32) (h : Hp) : M_findWeds_l44 x1 x2 h = (M_findWeds_b44 x1 x2 h).bind (Sum.elim (fun q : (Int32 × Hp) => M_findWeds_l44 x1 q.1 q.2) some) := lp_eq _ _
noncomputable def M_findWeds_b38 (x1 : Int32) (h : Hp) : Option ((Int32 × Hp) ⊕ Hp) := if x1 < 0 then (((M_findWeds_j150 h).map Sum.inr)) else ((M_findWeds_l44 x1 (0 : Int32) h))
noncomputable def M_findWeds_l38 (x1 : Int32) (h : Hp) : Option Hp := lp (fun s : (Int32 × Hp) => M_findWeds_b38 s.1 s.2) (x1, h)
theorem M_findWeds_l38_eq (x1 : Int32) (h : Hp) : M_findWeds_l38 x1 h = (M_findWeds_b38 x1 h).bind (Sum.elim (fun q : (Int32 × Hp) => M_findWeds_l38 q.1 q.2) some) := lp_eq _ _
noncomputable def M_findWeds_j31 (h : Hp) : Option Hp := bnd (((h.1 251 24) - (1 : Int32))) fun y16 => (M_findWeds_l38 y16 h)
noncomputable def M_findWeds_b2 (x1 : Int32) (h : Hp) : Option ((Int32 × Hp) ⊕ Hp) := if (256 : Int32) ≤ x1 then (((M_findWeds_j31 h).map Sum.inr)) else (if inb (((256 : Int32) * (h.1 251 24)) + x1) (ln 279) then (bnd (wr h 279 (Int32.toNatClampNeg (((256 : Int32) * (h.1 251 24)) + x1)) (0 : Int32)) fun h19 => bnd ((x1 + (1 : Int32))) fun y20 => some (.inl (y20, h19))) else none)
noncomputable def M_findWeds_l2 (x1 : Int32) (h : Hp) : Option Hp := lp (fun s : (Int32 × Hp) => M_findWeds_b2 s.1 s.2) (x1, h)
theorem M_findWeds_l2_eq (x1 : Int32) (h : Hp) : M_findWeds_l2 x1 h = (M_findWeds_b2 x1 h).bind (Sum.elim (fun q : (Int32 × Hp) => M_findWeds_l2 q.1 q.2) some) := lp_eq _ _
noncomputable def M_findWeds (h : Hp) : Option Hp := (M_findWeds_l2 (0 : Int32) h)
set_option maxRecDepth 100000 in
set_option maxHeartbeats 4000000 in
theorem c_M_findWeds {E : En} {d : Nat} (h : Hp) {P : Hp → Prop} (hO : Okk (M_findWeds h) P) : Cn E (d + 4) z_M_findWeds [.ref 251] h (RV P) := by
  refine cn_of (on := 12) (d := d + 3) ⟨rfl, by decide +kernel, Nat.le_of_ble_eq_true rfl⟩ (fun G hG => ?_)
  unfold M_findWeds at hO
  show G 0 [(0, .ref 251)] [] h
  have j150 : ∀ (h : Hp), Okk (M_findWeds_j150 h) P → G 150 [] [] h := by
    intro h hO
    unfold M_findWeds_j150 at hO
    exact eV hG 150 (by decide +kernel) rfl ⟨rfl, ok_some (Q := P) hO⟩
  have l38 : ∀ (x1 : Int32) (h : Hp), Okk (M_findWeds_l38 x1 h) P → G 38 [(0, .ref 251), (1, .int x1)] [] h := by
    intro x1 h hO
    obtain ⟨H38, eH38⟩ : ∃ q : (Int32 × Hp) → Prop, q = fun s => G 38 [(0, .ref 251), (1, .int (s.1))] [] (s.2) := ⟨_, rfl⟩
    have w9 : H38 (x1, h) := by
      refine lp_wp (f := fun s : (Int32 × Hp) => M_findWeds_b38 s.1 s.2) (H := H38) (Q := P) ?_ (x1, h) hO
      rintro ⟨x1, h⟩ hO
      rw [eH38]
      show G 38 [(0, .ref 251), (1, .int x1)] [] h
      have k38 : ∀ s : (Int32 × Hp), H38 s → G 38 [(0, .ref 251), (1, .int (s.1))] [] (s.2) := fun s q => by rw [eH38] at q; exact q
      replace hO : Okk (M_findWeds_b38 x1 h) (Sum.elim H38 P) := hO
      clear eH38
      have j144 : ∀ (x1 : Int32) (h : Hp), Okk (M_findWeds_j144 x1 h) (Sum.elim H38 P) → G 144 [(0, .ref 251), (1, .int x1)] [] h := by
        intro x1 h hO
        unfold M_findWeds_j144 at hO
        refine rbx hG 4 144 147 [.iinc 1 0] [-1] [] ((x1 + (-1 : Int32))) (fun y1 => [(1, .int y1), (0, .ref 251)]) (fun y1 => []) (fun y1 => h) [] (by decide +kernel) rfl trivial hO (fun y1 hO => ?_)
        refine rb hG 4 147 38 [] [] [] [(1, .int y1), (0, .ref 251)] [] h [] (by decide +kernel) rfl trivial ?_
        refine rs hG [(0, .ref 251), (1, .int y1)] [1, 0] rfl ?_
        exact k38 (y1, h) (ok_some (Q := (Sum.elim H38 P)) hO)
      have l44 : ∀ (x1 : Int32) (x2 : Int32) (h : Hp), Okk (M_findWeds_l44 x1 x2 h) (Sum.elim H38 P) → G 44 [(0, .ref 251), (1, .int x1), (2, .int x2)] [] h := by
        intro x1 x2 h hO
        obtain ⟨H44, eH44⟩ : ∃ q : (Int32 × Hp) → Prop, q = fun s => G 44 [(0, .ref 251), (1, .int x1), (2, .int (s.1))] [] (s.2) := ⟨_, rfl⟩
        have w9 : H44 (x2, h) := by
          refine lp_wp (f := fun s : (Int32 × Hp) => M_findWeds_b44 x1 s.1 s.2) (H := H44) (Q := (Sum.elim H38 P)) ?_ (x2, h) hO
          rintro ⟨x2, h⟩ hO
          rw [eH44]
          show G 44 [(0, .ref 251), (1, .int x1), (2, .int x2)] [] h
          have k44 : ∀ s : (Int32 × Hp), H44 s → G 44 [(0, .ref 251), (1, .int x1), (2, .int (s.1))] [] (s.2) := fun s q => by rw [eH44] at q; exact q
          replace hO : Okk (M_findWeds_b44 x1 x2 h) (Sum.elim H44 (Sum.elim H38 P)) := hO
          clear eH44
          have j125 : ∀ (x2 : Int32) (x3 : Int32) (h : Hp), Okk (M_findWeds_j125 x1 x2 x3 h) (Sum.elim H44 (Sum.elim H38 P)) → G 125 [(0, .ref 251), (1, .int x1), (2, .int x2), (3, .int x3)] [] h := by
            intro x2 x3 h hO
            unfold M_findWeds_j125 at hO
            obtain ⟨g2, hO⟩ := ok_if hO
            refine rbx hG 12 125 138 [.aload 0, .invokeinterface 1259 28, .ldc_w 0, .iload 1, .imul, .iload 2, .iadd, .iload 3, .iastore] [256] [] (wr h 279 (Int32.toNatClampNeg (((256 : Int32) * x1) + x2)) x3) (fun h3 => [(0, .ref 251), (1, .int x1), (2, .int x2), (3, .int x3)]) (fun h3 => []) (fun h3 => h3) [kd 251 = 12, kd 279 = 20 ∧ inb (((256 : Int32) * x1) + x2) (ln 279)] (by decide +kernel) rfl ⟨kd_251, ⟨kd_279, g2⟩⟩ hO (fun h3 hO => ?_)
            refine rbx hG 4 138 141 [.iinc 2 0] [1] [] ((x2 + (1 : Int32))) (fun y4 => [(2, .int y4), (0, .ref 251), (1, .int x1), (3, .int x3)]) (fun y4 => []) (fun y4 => h3) [] (by decide +kernel) rfl trivial hO (fun y4 hO => ?_)
            refine rb hG 4 141 44 [] [] [] [(2, .int y4), (0, .ref 251), (1, .int x1), (3, .int x3)] [] h3 [] (by decide +kernel) rfl trivial ?_
            refine rs hG [(0, .ref 251), (1, .int x1), (2, .int y4)] [1, 2, 0] rfl ?_
            exact k44 (y4, h3) (ok_some (Q := (Sum.elim H44 (Sum.elim H38 P))) hO)
          have l69 : ∀ (x2 : Int32) (x3 : Int32) (x4 : Int32) (h : Hp), Okk (M_findWeds_l69 x1 x2 x3 x4 h) (Sum.elim H44 (Sum.elim H38 P)) → G 69 [(0, .ref 251), (1, .int x1), (2, .int x2), (3, .int x3), (4, .int x4)] [] h := by
            intro x2 x3 x4 h hO
            obtain ⟨H69, eH69⟩ : ∃ q : (Int32 × Int32) → Prop, q = fun s => G 69 [(0, .ref 251), (1, .int x1), (2, .int x2), (3, .int (s.1)), (4, .int (s.2))] [] (h) := ⟨_, rfl⟩
            have w9 : H69 (x3, x4) := by
              refine lp_wp (f := fun s : (Int32 × Int32) => M_findWeds_b69 x1 x2 s.1 s.2 h) (H := H69) (Q := (Sum.elim H44 (Sum.elim H38 P))) ?_ (x3, x4) hO
              rintro ⟨x3, x4⟩ hO
              rw [eH69]
              show G 69 [(0, .ref 251), (1, .int x1), (2, .int x2), (3, .int x3), (4, .int x4)] [] h
              have k69 : ∀ s : (Int32 × Int32), H69 s → G 69 [(0, .ref 251), (1, .int x1), (2, .int x2), (3, .int (s.1)), (4, .int (s.2))] [] (h) := fun s q => by rw [eH69] at q; exact q
              replace hO : Okk (M_findWeds_b69 x1 x2 x3 x4 h) (Sum.elim H69 (Sum.elim H44 (Sum.elim H38 P))) := hO
              clear eH69
              have j118 : ∀ (x4 : Int32) (s0 : Int32), Okk (M_findWeds_j118 x1 x2 x4 s0 h) (Sum.elim H69 (Sum.elim H44 (Sum.elim H38 P))) → G 118 [(0, .ref 251), (1, .int x1), (2, .int x2), (4, .int x4)] [.int s0] h := by
                intro x4 s0 hO
                unfold M_findWeds_j118 at hO
                refine rbx hG 5 118 122 [.istore 3, .iinc 4 0] [1] [] ((x4 + (1 : Int32))) (fun y5 => [(4, .int y5), (3, .int s0), (0, .ref 251), (1, .int x1), (2, .int x2)]) (fun y5 => []) (fun y5 => h) [] (by decide +kernel) rfl trivial hO (fun y5 hO => ?_)
                refine rb hG 4 122 69 [] [] [] [(4, .int y5), (3, .int s0), (0, .ref 251), (1, .int x1), (2, .int x2)] [] h [] (by decide +kernel) rfl trivial ?_
                refine rs hG [(0, .ref 251), (1, .int x1), (2, .int x2), (3, .int s0), (4, .int y5)] [2, 3, 4, 1, 0] rfl ?_
                exact k69 (s0, y5) (ok_some (Q := (Sum.elim H69 (Sum.elim H44 (Sum.elim H38 P)))) hO)
              unfold M_findWeds_b69 at hO
              refine rb hG 5 69 73 [.iload 4, .ldc_w 0] [64] [] [(0, .ref 251), (1, .int x1), (2, .int x2), (3, .int x3), (4, .int x4)] [.int (64 : Int32), .int x4] h [] (by decide +kernel) rfl trivial ?_
              refine rj hG .ge (52) 125 73 (by decide +kernel) (by decide) (fun c6 => ?_) (fun c6 => ?_)
              · have hO := ok_pos c6 hO
                refine rs hG [(0, .ref 251), (1, .int x1), (2, .int x2), (3, .int x3)] [0, 1, 2, 3] rfl ?_
                exact j125 x2 x3 h (ok_inr hO)
              · have hO := ok_neg c6 hO
                refine rb hG 7 76 81 [.aload 0, .iload 1, .iload 4, .iload 2] [] [] [(0, .ref 251), (1, .int x1), (2, .int x2), (3, .int x3), (4, .int x4)] [.int x2, .int x4, .int x1, .ref 251] h [] (by decide +kernel) rfl trivial ?_
                refine rv hG z_M_canWed 531 3 81 251 [.int x1, .int x4, .int x2] [] (by decide +kernel) mk_M_canWed lk_12_531 rcv_251 rfl ⟨rfl, Nat.le_of_ble_eq_true rfl⟩ (c_M_canWed (d := d) h x1 x4 x2 (ok_bind hO)) ?_
                rintro _ _ ⟨r7, rfl, rfl, hO⟩
                refine ri hG .eq (33) 117 84 (by decide +kernel) (by decide) (fun c8 => ?_) (fun c8 => ?_)
                · have hO := ok_pos c8 hO
                  refine rb hG 4 117 118 [.iload 3] [] [] [(0, .ref 251), (1, .int x1), (2, .int x2), (3, .int x3), (4, .int x4)] [.int x3] h [] (by decide +kernel) rfl trivial ?_
                  refine rs hG [(0, .ref 251), (1, .int x1), (2, .int x2), (4, .int x4)] [0, 1, 2, 4] rfl ?_
                  exact j118 x4 x3 hO
                · have hO := ok_neg c8 hO
                  refine rb hG 15 87 104 [.iload 3, .ldc_w 0, .aload 0, .invokeinterface 1259 28, .ldc_w 1, .iload 1, .ldc_w 0, .iadd, .imul, .iload 2, .aload 0, .iload 4] [1, 256] [] [(0, .ref 251), (1, .int x1), (2, .int x2), (3, .int x3), (4, .int x4)] [.int x4, .ref 251, .int x2, .int ((256 : Int32) * (x1 + (1 : Int32))), .ref 279, .int (1 : Int32), .int x3] h [kd 251 = 12] (by decide +kernel) rfl kd_251 ?_
                  refine rv hG z_M_taking 534 1 104 251 [.int x4] [.int x2, .int ((256 : Int32) * (x1 + (1 : Int32))), .ref 279, .int (1 : Int32), .int x3] (by decide +kernel) mk_M_taking lk_12_534 rcv_251 rfl ⟨rfl, Nat.le_of_ble_eq_true rfl⟩ (c_M_taking (d := d + 2) h x4 (ok_bind hO)) ?_
                  rintro _ _ ⟨r9, rfl, rfl, hO⟩
                  obtain ⟨g10, hO⟩ := ok_if hO
                  refine rb hG 7 107 111 [.ior, .iadd, .iaload, .iadd] [] [] [(0, .ref 251), (1, .int x1), (2, .int x2), (3, .int x3), (4, .int x4)] [.int ((1 : Int32) + (h.1 279 (Int32.toNatClampNeg (((256 : Int32) * (x1 + (1 : Int32))) + (x2 ||| r9))))), .int x3] h [kd 279 = 20 ∧ inb (((256 : Int32) * (x1 + (1 : Int32))) + (x2 ||| r9)) (ln 279)] (by decide +kernel) rfl ⟨kd_279, g10⟩ ?_
                  refine rt hG z_M_greater 176 2 111 [.int x3, .int ((1 : Int32) + (h.1 279 (Int32.toNatClampNeg (((256 : Int32) * (x1 + (1 : Int32))) + (x2 ||| r9)))))] [] (by decide +kernel) mk_M_greater lk_12_176 rfl ⟨rfl, Nat.le_of_ble_eq_true rfl⟩ (c_M_greater (d := d + 2) h x3 ((1 : Int32) + (h.1 279 (Int32.toNatClampNeg (((256 : Int32) * (x1 + (1 : Int32))) + (x2 ||| r9))))) (ok_bind hO)) ?_
                  rintro _ _ ⟨r11, rfl, rfl, hO⟩
                  refine rb hG 4 114 118 [] [] [] [(0, .ref 251), (1, .int x1), (2, .int x2), (3, .int x3), (4, .int x4)] [.int r11] h [] (by decide +kernel) rfl trivial ?_
                  refine rs hG [(0, .ref 251), (1, .int x1), (2, .int x2), (4, .int x4)] [0, 1, 2, 4] rfl ?_
                  exact j118 x4 r11 hO
            rw [eH69] at w9
            exact w9
          unfold M_findWeds_b44 at hO
          refine rb hG 5 44 48 [.iload 2, .ldc_w 0] [256] [] [(0, .ref 251), (1, .int x1), (2, .int x2)] [.int (256 : Int32), .int x2] h [] (by decide +kernel) rfl trivial ?_
          refine rj hG .ge (96) 144 48 (by decide +kernel) (by decide) (fun c12 => ?_) (fun c12 => ?_)
          · have hO := ok_pos c12 hO
            refine rs hG [(0, .ref 251), (1, .int x1)] [0, 1] rfl ?_
            exact j144 x1 h (ok_inr hO)
          · have hO := ok_neg c12 hO
            obtain ⟨g13, hO⟩ := ok_if hO
            refine rbx hG 14 51 66 [.aload 0, .invokeinterface 1259 28, .ldc_w 0, .iload 1, .ldc_w 1, .iadd, .imul, .iload 2, .iadd, .iaload, .istore 3] [256, 1] [] ((h.1 279 (Int32.toNatClampNeg (((256 : Int32) * (x1 + (1 : Int32))) + x2)))) (fun y14 => [(3, .int y14), (0, .ref 251), (1, .int x1), (2, .int x2)]) (fun y14 => []) (fun y14 => h) [kd 251 = 12, kd 279 = 20 ∧ inb (((256 : Int32) * (x1 + (1 : Int32))) + x2) (ln 279)] (by decide +kernel) rfl ⟨kd_251, ⟨kd_279, g13⟩⟩ hO (fun y14 hO => ?_)
            refine rb hG 5 66 69 [.ldc_w 0, .istore 4] [0] [] [(4, .int (0 : Int32)), (3, .int y14), (0, .ref 251), (1, .int x1), (2, .int x2)] [] h [] (by decide +kernel) rfl trivial ?_
            refine rs hG [(0, .ref 251), (1, .int x1), (2, .int x2), (3, .int y14), (4, .int (0 : Int32))] [2, 3, 4, 1, 0] rfl ?_
            exact l69 x2 y14 (0 : Int32) h hO
        rw [eH44] at w9
        exact w9
      unfold M_findWeds_b38 at hO
      refine rb hG 4 38 39 [.iload 1] [] [] [(0, .ref 251), (1, .int x1)] [.int x1] h [] (by decide +kernel) rfl trivial ?_
      refine ri hG .lt (111) 150 39 (by decide +kernel) (by decide) (fun c15 => ?_) (fun c15 => ?_)
      · have hO := ok_pos c15 hO
        refine rs hG [] [] rfl ?_
        exact j150 h (ok_inr hO)
      · have hO := ok_neg c15 hO
        refine rb hG 5 42 44 [.ldc_w 0, .istore 2] [0] [] [(2, .int (0 : Int32)), (0, .ref 251), (1, .int x1)] [] h [] (by decide +kernel) rfl trivial ?_
        refine rs hG [(0, .ref 251), (1, .int x1), (2, .int (0 : Int32))] [1, 2, 0] rfl ?_
        exact l44 x1 (0 : Int32) h hO
    rw [eH38] at w9
    exact w9
  have j31 : ∀ (h : Hp), Okk (M_findWeds_j31 h) P → G 31 [(0, .ref 251)] [] h := by
    intro h hO
    unfold M_findWeds_j31 at hO
    refine rbx hG 8 31 38 [.aload 0, .getfield 1224, .ldc_w 0, .isub, .istore 1] [1] [] (((h.1 251 24) - (1 : Int32))) (fun y16 => [(1, .int y16), (0, .ref 251)]) (fun y16 => []) (fun y16 => h) [kd 251 = 12] (by decide +kernel) rfl kd_251 hO (fun y16 hO => ?_)
    refine rs hG [(0, .ref 251), (1, .int y16)] [1, 0] rfl ?_
    exact l38 y16 h hO
  have l2 : ∀ (x1 : Int32) (h : Hp), Okk (M_findWeds_l2 x1 h) P → G 2 [(0, .ref 251), (1, .int x1)] [] h := by
    intro x1 h hO
    obtain ⟨H2, eH2⟩ : ∃ q : (Int32 × Hp) → Prop, q = fun s => G 2 [(0, .ref 251), (1, .int (s.1))] [] (s.2) := ⟨_, rfl⟩
    have w9 : H2 (x1, h) := by
      refine lp_wp (f := fun s : (Int32 × Hp) => M_findWeds_b2 s.1 s.2) (H := H2) (Q := P) ?_ (x1, h) hO
      rintro ⟨x1, h⟩ hO
      rw [eH2]
      show G 2 [(0, .ref 251), (1, .int x1)] [] h
      have k2 : ∀ s : (Int32 × Hp), H2 s → G 2 [(0, .ref 251), (1, .int (s.1))] [] (s.2) := fun s q => by rw [eH2] at q; exact q
      replace hO : Okk (M_findWeds_b2 x1 h) (Sum.elim H2 P) := hO
      clear eH2
      unfold M_findWeds_b2 at hO
      refine rb hG 5 2 6 [.iload 1, .ldc_w 0] [256] [] [(0, .ref 251), (1, .int x1)] [.int (256 : Int32), .int x1] h [] (by decide +kernel) rfl trivial ?_
      refine rj hG .ge (25) 31 6 (by decide +kernel) (by decide) (fun c17 => ?_) (fun c17 => ?_)
      · have hO := ok_pos c17 hO
        refine rs hG [(0, .ref 251)] [0] rfl ?_
        exact j31 h (ok_inr hO)
      · have hO := ok_neg c17 hO
        obtain ⟨g18, hO⟩ := ok_if hO
        refine rbx hG 13 9 25 [.aload 0, .invokeinterface 1259 28, .ldc_w 0, .aload 0, .getfield 1224, .imul, .iload 1, .iadd, .ldc_w 1, .iastore] [256, 0] [] (wr h 279 (Int32.toNatClampNeg (((256 : Int32) * (h.1 251 24)) + x1)) (0 : Int32)) (fun h19 => [(0, .ref 251), (1, .int x1)]) (fun h19 => []) (fun h19 => h19) [kd 251 = 12, kd 251 = 12, kd 279 = 20 ∧ inb (((256 : Int32) * (h.1 251 24)) + x1) (ln 279)] (by decide +kernel) rfl ⟨kd_251, kd_251, ⟨kd_279, g18⟩⟩ hO (fun h19 hO => ?_)
        refine rbx hG 4 25 28 [.iinc 1 0] [1] [] ((x1 + (1 : Int32))) (fun y20 => [(1, .int y20), (0, .ref 251)]) (fun y20 => []) (fun y20 => h19) [] (by decide +kernel) rfl trivial hO (fun y20 hO => ?_)
        refine rb hG 4 28 2 [] [] [] [(1, .int y20), (0, .ref 251)] [] h19 [] (by decide +kernel) rfl trivial ?_
        refine rs hG [(0, .ref 251), (1, .int y20)] [1, 0] rfl ?_
        exact k2 (y20, h19) (ok_some (Q := (Sum.elim H2 P)) hO)
    rw [eH2] at w9
    exact w9
  refine rb hG 5 0 2 [.ldc_w 0, .istore 1] [0] [] [(1, .int (0 : Int32)), (0, .ref 251)] [] h [] (by decide +kernel) rfl trivial ?_
  refine rs hG [(0, .ref 251), (1, .int (0 : Int32))] [1, 0] rfl ?_
  exact l2 (0 : Int32) h hO
/-! GrainInnModel.coupleAt(I)I -/
noncomputable def M_coupleAt_j112 (x3 : Int32) (h : Hp) : Option Int32 := some x3
noncomputable def M_coupleAt_j104 (x1 : Int32) (x3 : Int32) (x4 : Int32) (s0 : Int32) (s1 : Int32) (h : Hp) : Option ((Int32 × Int32 × Int32) ⊕ Int32) := bnd ((s0 ||| s1)) fun y1 => bnd ((x4 + (1 : Int32))) fun y2 => some (.inl (y1, x3, y2))
noncomputable def M_coupleAt_j89 (x1 : Int32) (x2 : Int32) (x3 : Int32) (x4 : Int32) (h : Hp) : Option ((Int32 × Int32 × Int32) ⊕ Int32) := if x3 = (-1 : Int32) then ((M_coupleAt_j104 x1 x3 x4 x2 (0 : Int32) h)) else ((M_taking x3).bind fun r4 => (M_coupleAt_j104 x1 x3 x4 x2 r4 h))
noncomputable def M_coupleAt_j82 (x1 : Int32) (x2 : Int32) (x4 : Int32) (x5 : Int32) (s0 : Int32) (h : Hp) : Option ((Int32 × Int32) ⊕ ((Int32 × Int32 × Int32) ⊕ Int32)) := bnd ((x5 + (-1 : Int32))) fun y5 => some (.inl (s0, y5))
noncomputable def M_coupleAt_j81 (x1 : Int32) (x2 : Int32) (x3 : Int32) (x4 : Int32) (x5 : Int32) (h : Hp) : Option ((Int32 × Int32) ⊕ ((Int32 × Int32 × Int32) ⊕ Int32)) := (M_coupleAt_j82 x1 x2 x4 x5 x3 h)
noncomputable def M_coupleAt_b19 (x1 : Int32) (x2 : Int32) (x3 : Int32) (x4 : Int32) (x5 : Int32) (h : Hp) : Option ((Int32 × Int32) ⊕ ((Int32 × Int32 × Int32) ⊕ Int32)) := if x5 < 0 then (((M_coupleAt_j89 x1 x2 x3 x4 h).map Sum.inr)) else ((M_canWed h x4 x5 x2).bind fun r7 => if r7 = 0 then ((M_coupleAt_j81 x1 x2 x3 x4 x5 h)) else ((M_taking x5).bind fun r9 => if inb (((256 : Int32) * (x4 + (1 : Int32))) + (x2 ||| r9)) (ln 279) then (if inb (((256 : Int32) * x4) + x2) (ln 279) then (if ((1 : Int32) + (h.1 279 (Int32.toNatClampNeg (((256 : Int32) * (x4 + (1 : Int32))) + (x2 ||| r9))))) = (h.1 279 (Int32.toNatClampNeg (((256 : Int32) * x4) + x2))) then ((M_coupleAt_j82 x1 x2 x4 x5 x5 h)) else ((M_coupleAt_j81 x1 x2 x3 x4 x5 h))) else none) else none))
noncomputable def M_coupleAt_l19 (x1 : Int32) (x2 : Int32) (x3 : Int32) (x4 : Int32) (x5 : Int32) (h : Hp) : Option ((Int32 × Int32 × Int32) ⊕ Int32) := lp (fun s : (Int32 × Int32) => M_coupleAt_b19 x1 x2 s.1 x4 s.2 h) (x3, x5)
theorem M_coupleAt_l19_eq (x1 : Int32) (x2 : Int32) (x3 : Int32) (x4 : Int32) (x5 : Int32) (h : Hp) : M_coupleAt_l19 x1 x2 x3 x4 x5 h = (M_coupleAt_b19 x1 x2 x3 x4 x5 h).bind (Sum.elim (fun q : (Int32 × Int32) => M_coupleAt_l19 x1 x2 q.1 x4 q.2 h) some) := lp_eq _ _
noncomputable def M_coupleAt_b7 (x1 : Int32) (x2 : Int32) (x3 : Int32) (x4 : Int32) (h : Hp) : Option ((Int32 × Int32 × Int32) ⊕ Int32) := if x1 < x4 then (((M_coupleAt_j112 x3 h).map Sum.inr)) else ((M_coupleAt_l19 x1 x2 (-1 : Int32) x4 (63 : Int32) h))
noncomputable def M_coupleAt_l7 (x1 : Int32) (x2 : Int32) (x3 : Int32) (x4 : Int32) (h : Hp) : Option Int32 := lp (fun s : (Int32 × Int32 × Int32) => M_coupleAt_b7 x1 s.1 s.2.1 s.2.2 h) (x2, x3, x4)
theorem M_coupleAt_l7_eq (x1 : Int32) (x2 : Int32) (x3 : Int32) (x4 : Int32) (h : Hp) : M_coupleAt_l7 x1 x2 x3 x4 h = (M_coupleAt_b7 x1 x2 x3 x4 h).bind (Sum.elim (fun q : (Int32 × Int32 × Int32) => M_coupleAt_l7 x1 q.1 q.2.1 q.2.2 h) some) := lp_eq _ _
noncomputable def M_coupleAt (h : Hp) (x1 : Int32) : Option Int32 := (M_coupleAt_l7 x1 (0 : Int32) (-1 : Int32) (0 : Int32) h)
set_option maxRecDepth 100000 in
set_option maxHeartbeats 4000000 in
theorem c_M_coupleAt {E : En} {d : Nat} (h : Hp) (x1 : Int32) {P : Int32 → Prop} (hO : Okk (M_coupleAt h x1) P) : Cn E (d + 4) z_M_coupleAt [.ref 251, .int x1] h (RIp h P) := by
  refine cn_of (on := 12) (d := d + 3) ⟨rfl, by decide +kernel, Nat.le_of_ble_eq_true rfl⟩ (fun G hG => ?_)
  unfold M_coupleAt at hO
  show G 0 [(0, .ref 251), (1, .int x1)] [] h
  have j112 : ∀ (x3 : Int32), Okk (M_coupleAt_j112 x3 h) P → G 112 [(3, .int x3)] [] h := by
    intro x3 hO
    unfold M_coupleAt_j112 at hO
    refine rb hG 4 112 113 [.iload 3] [] [] [(3, .int x3)] [.int x3] h [] (by decide +kernel) rfl trivial ?_
    exact eI hG 113 (by decide +kernel) rfl ⟨x3, rfl, rfl, ok_some (Q := P) hO⟩
  have l7 : ∀ (x2 : Int32) (x3 : Int32) (x4 : Int32), Okk (M_coupleAt_l7 x1 x2 x3 x4 h) P → G 7 [(0, .ref 251), (1, .int x1), (2, .int x2), (3, .int x3), (4, .int x4)] [] h := by
    intro x2 x3 x4 hO
    obtain ⟨H7, eH7⟩ : ∃ q : (Int32 × Int32 × Int32) → Prop, q = fun s => G 7 [(0, .ref 251), (1, .int x1), (2, .int (s.1)), (3, .int (s.2.1)), (4, .int (s.2.2))] [] (h) := ⟨_, rfl⟩
    have w9 : H7 (x2, x3, x4) := by
      refine lp_wp (f := fun s : (Int32 × Int32 × Int32) => M_coupleAt_b7 x1 s.1 s.2.1 s.2.2 h) (H := H7) (Q := P) ?_ (x2, x3, x4) hO
      rintro ⟨x2, x3, x4⟩ hO
      rw [eH7]
      show G 7 [(0, .ref 251), (1, .int x1), (2, .int x2), (3, .int x3), (4, .int x4)] [] h
      have k7 : ∀ s : (Int32 × Int32 × Int32), H7 s → G 7 [(0, .ref 251), (1, .int x1), (2, .int (s.1)), (3, .int (s.2.1)), (4, .int (s.2.2))] [] (h) := fun s q => by rw [eH7] at q; exact q
      replace hO : Okk (M_coupleAt_b7 x1 x2 x3 x4 h) (Sum.elim H7 P) := hO
      clear eH7
      have j104 : ∀ (x3 : Int32) (x4 : Int32) (s0 : Int32) (s1 : Int32), Okk (M_coupleAt_j104 x1 x3 x4 s0 s1 h) (Sum.elim H7 P) → G 104 [(0, .ref 251), (1, .int x1), (3, .int x3), (4, .int x4)] [.int s1, .int s0] h := by
        intro x3 x4 s0 s1 hO
        unfold M_coupleAt_j104 at hO
        refine rbx hG 5 104 106 [.ior, .istore 2] [] [] ((s0 ||| s1)) (fun y1 => [(2, .int y1), (0, .ref 251), (1, .int x1), (3, .int x3), (4, .int x4)]) (fun y1 => []) (fun y1 => h) [] (by decide +kernel) rfl trivial hO (fun y1 hO => ?_)
        refine rbx hG 4 106 109 [.iinc 4 0] [1] [] ((x4 + (1 : Int32))) (fun y2 => [(4, .int y2), (2, .int y1), (0, .ref 251), (1, .int x1), (3, .int x3)]) (fun y2 => []) (fun y2 => h) [] (by decide +kernel) rfl trivial hO (fun y2 hO => ?_)
        refine rb hG 4 109 7 [] [] [] [(4, .int y2), (2, .int y1), (0, .ref 251), (1, .int x1), (3, .int x3)] [] h [] (by decide +kernel) rfl trivial ?_
        refine rs hG [(0, .ref 251), (1, .int x1), (2, .int y1), (3, .int x3), (4, .int y2)] [2, 3, 1, 4, 0] rfl ?_
        exact k7 (y1, x3, y2) (ok_some (Q := (Sum.elim H7 P)) hO)
      have j89 : ∀ (x2 : Int32) (x3 : Int32) (x4 : Int32), Okk (M_coupleAt_j89 x1 x2 x3 x4 h) (Sum.elim H7 P) → G 89 [(0, .ref 251), (1, .int x1), (2, .int x2), (3, .int x3), (4, .int x4)] [] h := by
        intro x2 x3 x4 hO
        unfold M_coupleAt_j89 at hO
        refine rb hG 6 89 92 [.iload 2, .iload 3, .ldc_w 0] [-1] [] [(0, .ref 251), (1, .int x1), (2, .int x2), (3, .int x3), (4, .int x4)] [.int (-1 : Int32), .int x3, .int x2] h [] (by decide +kernel) rfl trivial ?_
        refine rjN hG (7) 99 92 (by decide +kernel) (by decide) (fun c3 => ?_) (fun c3 => ?_)
        · have hO := ok_pos c3 hO
          refine rb hG 5 95 104 [.ldc_w 0] [0] [] [(0, .ref 251), (1, .int x1), (2, .int x2), (3, .int x3), (4, .int x4)] [.int (0 : Int32), .int x2] h [] (by decide +kernel) rfl trivial ?_
          refine rs hG [(0, .ref 251), (1, .int x1), (3, .int x3), (4, .int x4)] [0, 1, 3, 4] rfl ?_
          exact j104 x3 x4 x2 (0 : Int32) hO
        · have hO := ok_neg c3 hO
          refine rb hG 5 99 101 [.aload 0, .iload 3] [] [] [(0, .ref 251), (1, .int x1), (2, .int x2), (3, .int x3), (4, .int x4)] [.int x3, .ref 251, .int x2] h [] (by decide +kernel) rfl trivial ?_
          refine rv hG z_M_taking 534 1 101 251 [.int x3] [.int x2] (by decide +kernel) mk_M_taking lk_12_534 rcv_251 rfl ⟨rfl, Nat.le_of_ble_eq_true rfl⟩ (c_M_taking (d := d + 2) h x3 (ok_bind hO)) ?_
          rintro _ _ ⟨r4, rfl, rfl, hO⟩
          refine rs hG [(0, .ref 251), (1, .int x1), (3, .int x3), (4, .int x4)] [0, 1, 3, 4] rfl ?_
          exact j104 x3 x4 x2 r4 hO
      have l19 : ∀ (x2 : Int32) (x3 : Int32) (x4 : Int32) (x5 : Int32), Okk (M_coupleAt_l19 x1 x2 x3 x4 x5 h) (Sum.elim H7 P) → G 19 [(0, .ref 251), (1, .int x1), (2, .int x2), (3, .int x3), (4, .int x4), (5, .int x5)] [] h := by
        intro x2 x3 x4 x5 hO
        obtain ⟨H19, eH19⟩ : ∃ q : (Int32 × Int32) → Prop, q = fun s => G 19 [(0, .ref 251), (1, .int x1), (2, .int x2), (3, .int (s.1)), (4, .int x4), (5, .int (s.2))] [] (h) := ⟨_, rfl⟩
        have w9 : H19 (x3, x5) := by
          refine lp_wp (f := fun s : (Int32 × Int32) => M_coupleAt_b19 x1 x2 s.1 x4 s.2 h) (H := H19) (Q := (Sum.elim H7 P)) ?_ (x3, x5) hO
          rintro ⟨x3, x5⟩ hO
          rw [eH19]
          show G 19 [(0, .ref 251), (1, .int x1), (2, .int x2), (3, .int x3), (4, .int x4), (5, .int x5)] [] h
          have k19 : ∀ s : (Int32 × Int32), H19 s → G 19 [(0, .ref 251), (1, .int x1), (2, .int x2), (3, .int (s.1)), (4, .int x4), (5, .int (s.2))] [] (h) := fun s q => by rw [eH19] at q; exact q
          replace hO : Okk (M_coupleAt_b19 x1 x2 x3 x4 x5 h) (Sum.elim H19 (Sum.elim H7 P)) := hO
          clear eH19
          have j82 : ∀ (x5 : Int32) (s0 : Int32), Okk (M_coupleAt_j82 x1 x2 x4 x5 s0 h) (Sum.elim H19 (Sum.elim H7 P)) → G 82 [(0, .ref 251), (1, .int x1), (2, .int x2), (4, .int x4), (5, .int x5)] [.int s0] h := by
            intro x5 s0 hO
            unfold M_coupleAt_j82 at hO
            refine rbx hG 5 82 86 [.istore 3, .iinc 5 0] [-1] [] ((x5 + (-1 : Int32))) (fun y5 => [(5, .int y5), (3, .int s0), (0, .ref 251), (1, .int x1), (2, .int x2), (4, .int x4)]) (fun y5 => []) (fun y5 => h) [] (by decide +kernel) rfl trivial hO (fun y5 hO => ?_)
            refine rb hG 4 86 19 [] [] [] [(5, .int y5), (3, .int s0), (0, .ref 251), (1, .int x1), (2, .int x2), (4, .int x4)] [] h [] (by decide +kernel) rfl trivial ?_
            refine rs hG [(0, .ref 251), (1, .int x1), (2, .int x2), (3, .int s0), (4, .int x4), (5, .int y5)] [2, 3, 4, 1, 5, 0] rfl ?_
            exact k19 (s0, y5) (ok_some (Q := (Sum.elim H19 (Sum.elim H7 P))) hO)
          have j81 : ∀ (x3 : Int32) (x5 : Int32), Okk (M_coupleAt_j81 x1 x2 x3 x4 x5 h) (Sum.elim H19 (Sum.elim H7 P)) → G 81 [(0, .ref 251), (1, .int x1), (2, .int x2), (3, .int x3), (4, .int x4), (5, .int x5)] [] h := by
            intro x3 x5 hO
            unfold M_coupleAt_j81 at hO
            refine rb hG 4 81 82 [.iload 3] [] [] [(0, .ref 251), (1, .int x1), (2, .int x2), (3, .int x3), (4, .int x4), (5, .int x5)] [.int x3] h [] (by decide +kernel) rfl trivial ?_
            refine rs hG [(0, .ref 251), (1, .int x1), (2, .int x2), (4, .int x4), (5, .int x5)] [0, 1, 2, 4, 5] rfl ?_
            exact j82 x5 x3 hO
          unfold M_coupleAt_b19 at hO
          refine rb hG 4 19 21 [.iload 5] [] [] [(0, .ref 251), (1, .int x1), (2, .int x2), (3, .int x3), (4, .int x4), (5, .int x5)] [.int x5] h [] (by decide +kernel) rfl trivial ?_
          refine ri hG .lt (68) 89 21 (by decide +kernel) (by decide) (fun c6 => ?_) (fun c6 => ?_)
          · have hO := ok_pos c6 hO
            refine rs hG [(0, .ref 251), (1, .int x1), (2, .int x2), (3, .int x3), (4, .int x4)] [0, 1, 2, 3, 4] rfl ?_
            exact j89 x2 x3 x4 (ok_inr hO)
          · have hO := ok_neg c6 hO
            refine rb hG 7 24 30 [.aload 0, .iload 4, .iload 5, .iload 2] [] [] [(0, .ref 251), (1, .int x1), (2, .int x2), (3, .int x3), (4, .int x4), (5, .int x5)] [.int x2, .int x5, .int x4, .ref 251] h [] (by decide +kernel) rfl trivial ?_
            refine rv hG z_M_canWed 531 3 30 251 [.int x4, .int x5, .int x2] [] (by decide +kernel) mk_M_canWed lk_12_531 rcv_251 rfl ⟨rfl, Nat.le_of_ble_eq_true rfl⟩ (c_M_canWed (d := d) h x4 x5 x2 (ok_bind hO)) ?_
            rintro _ _ ⟨r7, rfl, rfl, hO⟩
            refine ri hG .eq (48) 81 33 (by decide +kernel) (by decide) (fun c8 => ?_) (fun c8 => ?_)
            · have hO := ok_pos c8 hO
              exact j81 x3 x5 hO
            · have hO := ok_neg c8 hO
              refine rb hG 14 36 53 [.ldc_w 0, .aload 0, .invokeinterface 1259 28, .ldc_w 1, .iload 4, .ldc_w 0, .iadd, .imul, .iload 2, .aload 0, .iload 5] [1, 256] [] [(0, .ref 251), (1, .int x1), (2, .int x2), (3, .int x3), (4, .int x4), (5, .int x5)] [.int x5, .ref 251, .int x2, .int ((256 : Int32) * (x4 + (1 : Int32))), .ref 279, .int (1 : Int32)] h [kd 251 = 12] (by decide +kernel) rfl kd_251 ?_
              refine rv hG z_M_taking 534 1 53 251 [.int x5] [.int x2, .int ((256 : Int32) * (x4 + (1 : Int32))), .ref 279, .int (1 : Int32)] (by decide +kernel) mk_M_taking lk_12_534 rcv_251 rfl ⟨rfl, Nat.le_of_ble_eq_true rfl⟩ (c_M_taking (d := d + 2) h x5 (ok_bind hO)) ?_
              rintro _ _ ⟨r9, rfl, rfl, hO⟩
              obtain ⟨g10, hO⟩ := ok_if hO
              obtain ⟨g11, hO⟩ := ok_if hO
              refine rb hG 15 56 73 [.ior, .iadd, .iaload, .iadd, .aload 0, .invokeinterface 1259 28, .ldc_w 0, .iload 4, .imul, .iload 2, .iadd, .iaload] [256] [] [(0, .ref 251), (1, .int x1), (2, .int x2), (3, .int x3), (4, .int x4), (5, .int x5)] [.int (h.1 279 (Int32.toNatClampNeg (((256 : Int32) * x4) + x2))), .int ((1 : Int32) + (h.1 279 (Int32.toNatClampNeg (((256 : Int32) * (x4 + (1 : Int32))) + (x2 ||| r9)))))] h [kd 279 = 20 ∧ inb (((256 : Int32) * (x4 + (1 : Int32))) + (x2 ||| r9)) (ln 279), kd 251 = 12, kd 279 = 20 ∧ inb (((256 : Int32) * x4) + x2) (ln 279)] (by decide +kernel) rfl ⟨⟨kd_279, g10⟩, kd_251, ⟨kd_279, g11⟩⟩ ?_
              refine rjN hG (8) 81 73 (by decide +kernel) (by decide) (fun c12 => ?_) (fun c12 => ?_)
              · have hO := ok_pos c12 hO
                refine rb hG 5 76 82 [.iload 5] [] [] [(0, .ref 251), (1, .int x1), (2, .int x2), (3, .int x3), (4, .int x4), (5, .int x5)] [.int x5] h [] (by decide +kernel) rfl trivial ?_
                refine rs hG [(0, .ref 251), (1, .int x1), (2, .int x2), (4, .int x4), (5, .int x5)] [0, 1, 2, 4, 5] rfl ?_
                exact j82 x5 x5 hO
              · have hO := ok_neg c12 hO
                exact j81 x3 x5 hO
        rw [eH19] at w9
        exact w9
      unfold M_coupleAt_b7 at hO
      refine rb hG 5 7 10 [.iload 4, .iload 1] [] [] [(0, .ref 251), (1, .int x1), (2, .int x2), (3, .int x3), (4, .int x4)] [.int x1, .int x4] h [] (by decide +kernel) rfl trivial ?_
      refine rj hG .gt (102) 112 10 (by decide +kernel) (by decide) (fun c13 => ?_) (fun c13 => ?_)
      · have hO := ok_pos c13 hO
        refine rs hG [(3, .int x3)] [3] rfl ?_
        exact j112 x3 (ok_inr hO)
      · have hO := ok_neg c13 hO
        refine rb hG 7 13 19 [.ldc_w 0, .istore 3, .ldc_w 1, .istore 5] [-1, 63] [] [(5, .int (63 : Int32)), (3, .int (-1 : Int32)), (0, .ref 251), (1, .int x1), (2, .int x2), (4, .int x4)] [] h [] (by decide +kernel) rfl trivial ?_
        refine rs hG [(0, .ref 251), (1, .int x1), (2, .int x2), (3, .int (-1 : Int32)), (4, .int x4), (5, .int (63 : Int32))] [2, 3, 4, 1, 5, 0] rfl ?_
        exact l19 x2 (-1 : Int32) x4 (63 : Int32) hO
    rw [eH7] at w9
    exact w9
  refine rb hG 9 0 7 [.ldc_w 0, .istore 2, .ldc_w 1, .istore 3, .ldc_w 0, .istore 4] [0, -1] [] [(4, .int (0 : Int32)), (3, .int (-1 : Int32)), (2, .int (0 : Int32)), (0, .ref 251), (1, .int x1)] [] h [] (by decide +kernel) rfl trivial ?_
  refine rs hG [(0, .ref 251), (1, .int x1), (2, .int (0 : Int32)), (3, .int (-1 : Int32)), (4, .int (0 : Int32))] [3, 4, 2, 1, 0] rfl ?_
  exact l7 (0 : Int32) (-1 : Int32) (0 : Int32) hO
/-! GrainInnModel.weddings(IIII)I -/
noncomputable def M_weddings_j37 (h : Hp) : Option (Int32 × Hp) := some ((-2 : Int32), h)
noncomputable def M_weddings_j67 (s0 : Int32) (h : Hp) : Option (Int32 × Hp) := some (s0, h)
noncomputable def M_weddings_j40 (x4 : Int32) (h : Hp) : Option (Int32 × Hp) := (M_findWeds h).bind fun h1 => if x4 = 0 then ((M_weddings_j67 (h1.1 279 (Int32.toNatClampNeg (0 : Int32))) h1)) else ((M_coupleAt h1 (x4 - (10 : Int32))).bind fun r3 => (M_weddings_j67 r3 h1))
noncomputable def M_weddings (h : Hp) (x1 : Int32) (x2 : Int32) (x3 : Int32) (x4 : Int32) : Option (Int32 × Hp) := bnd (wr h 251 0 (0 : Int32)) fun h4 => (M_layState h4 x1 x2 x3).bind fun (r5, h6) => if r5 = 0 then ((M_weddings_j37 h6)) else (if x4 = 0 then ((M_weddings_j40 x4 h6)) else ((M_in x4 (10 : Int32) ((9 : Int32) + (h6.1 251 24))).bind fun r9 => if r9 = 0 then ((M_weddings_j37 h6)) else ((M_weddings_j40 x4 h6))))
set_option maxRecDepth 100000 in
set_option maxHeartbeats 4000000 in
theorem c_M_weddings {E : En} {d : Nat} (h : Hp) (x1 : Int32) (x2 : Int32) (x3 : Int32) (x4 : Int32) {P : (Int32 × Hp) → Prop} (hO : Okk (M_weddings h x1 x2 x3 x4) P) : Cn E (d + 9) z_M_weddings [.ref 251, .int x1, .int x2, .int x3, .int x4] h (RI P) := by
  refine cn_of (on := 12) (d := d + 8) ⟨rfl, by decide +kernel, Nat.le_of_ble_eq_true rfl⟩ (fun G hG => ?_)
  unfold M_weddings at hO
  show G 0 [(0, .ref 251), (1, .int x1), (2, .int x2), (3, .int x3), (4, .int x4)] [] h
  have j37 : ∀ (h : Hp), Okk (M_weddings_j37 h) P → G 37 [] [] h := by
    intro h hO
    unfold M_weddings_j37 at hO
    refine rb hG 4 37 39 [.ldc_w 0] [-2] [] [] [.int (-2 : Int32)] h [] (by decide +kernel) rfl trivial ?_
    exact eI hG 39 (by decide +kernel) rfl ⟨(-2 : Int32), rfl, ok_some (Q := P) hO⟩
  have j67 : ∀ (s0 : Int32) (h : Hp), Okk (M_weddings_j67 s0 h) P → G 67 [] [.int s0] h := by
    intro s0 h hO
    unfold M_weddings_j67 at hO
    exact eI hG 67 (by decide +kernel) rfl ⟨s0, rfl, ok_some (Q := P) hO⟩
  have j40 : ∀ (h : Hp), Okk (M_weddings_j40 x4 h) P → G 40 [(0, .ref 251), (4, .int x4)] [] h := by
    intro h hO
    unfold M_weddings_j40 at hO
    refine rb hG 4 40 41 [.aload 0] [] [] [(0, .ref 251), (4, .int x4)] [.ref 251] h [] (by decide +kernel) rfl trivial ?_
    refine rv hG z_M_findWeds 537 0 41 251 [] [] (by decide +kernel) mk_M_findWeds lk_12_537 rcv_251 rfl ⟨rfl, Nat.le_of_ble_eq_true rfl⟩ (c_M_findWeds (d := d + 4) h (ok_bind hO)) ?_
    rintro _ h1 ⟨rfl, hO⟩
    refine rb hG 4 44 46 [.iload 4] [] [] [(0, .ref 251), (4, .int x4)] [.int x4] h1 [] (by decide +kernel) rfl trivial ?_
    refine riN hG (12) 58 46 (by decide +kernel) (by decide) (fun c2 => ?_) (fun c2 => ?_)
    · have hO := ok_pos c2 hO
      refine rb hG 8 49 67 [.aload 0, .invokeinterface 1259 28, .ldc_w 0, .iaload] [0] [] [(0, .ref 251), (4, .int x4)] [.int (h1.1 279 (Int32.toNatClampNeg (0 : Int32)))] h1 [kd 251 = 12, kd 279 = 20 ∧ inb (0 : Int32) (ln 279)] (by decide +kernel) rfl ⟨kd_251, ⟨kd_279, (by decide +kernel)⟩⟩ ?_
      refine rs hG [] [] rfl ?_
      exact j67 (h1.1 279 (Int32.toNatClampNeg (0 : Int32))) h1 hO
    · have hO := ok_neg c2 hO
      refine rb hG 7 58 64 [.aload 0, .iload 4, .ldc_w 0, .isub] [10] [] [(0, .ref 251), (4, .int x4)] [.int (x4 - (10 : Int32)), .ref 251] h1 [] (by decide +kernel) rfl trivial ?_
      refine rv hG z_M_coupleAt 540 1 64 251 [.int (x4 - (10 : Int32))] [] (by decide +kernel) mk_M_coupleAt lk_12_540 rcv_251 rfl ⟨rfl, Nat.le_of_ble_eq_true rfl⟩ (c_M_coupleAt (d := d + 4) h1 (x4 - (10 : Int32)) (ok_bind hO)) ?_
      rintro _ _ ⟨r3, rfl, rfl, hO⟩
      refine rs hG [] [] rfl ?_
      exact j67 r3 h1 hO
  refine rbx hG 6 0 5 [.aload 0, .ldc_w 0, .putfield 1200] [0] [] (wr h 251 0 (0 : Int32)) (fun h4 => [(0, .ref 251), (1, .int x1), (2, .int x2), (3, .int x3), (4, .int x4)]) (fun h4 => []) (fun h4 => h4) [kd 251 = 12] (by decide +kernel) rfl kd_251 hO (fun h4 hO => ?_)
  refine rb hG 7 5 9 [.aload 0, .iload 1, .iload 2, .iload 3] [] [] [(0, .ref 251), (1, .int x1), (2, .int x2), (3, .int x3), (4, .int x4)] [.int x3, .int x2, .int x1, .ref 251] h4 [] (by decide +kernel) rfl trivial ?_
  refine rv hG z_M_layState 380 3 9 251 [.int x1, .int x2, .int x3] [] (by decide +kernel) mk_M_layState lk_12_380 rcv_251 rfl ⟨rfl, Nat.le_of_ble_eq_true rfl⟩ (c_M_layState (d := d) h4 x1 x2 x3 (ok_bind hO)) ?_
  rintro _ h6 ⟨r5, rfl, hO⟩
  refine ri hG .eq (25) 37 12 (by decide +kernel) (by decide) (fun c7 => ?_) (fun c7 => ?_)
  · have hO := ok_pos c7 hO
    refine rs hG [] [] rfl ?_
    exact j37 h6 hO
  · have hO := ok_neg c7 hO
    refine rb hG 4 15 17 [.iload 4] [] [] [(0, .ref 251), (1, .int x1), (2, .int x2), (3, .int x3), (4, .int x4)] [.int x4] h6 [] (by decide +kernel) rfl trivial ?_
    refine ri hG .eq (23) 40 17 (by decide +kernel) (by decide) (fun c8 => ?_) (fun c8 => ?_)
    · have hO := ok_pos c8 hO
      refine rs hG [(0, .ref 251), (4, .int x4)] [0, 4] rfl ?_
      exact j40 h6 hO
    · have hO := ok_neg c8 hO
      refine rb hG 9 20 31 [.iload 4, .ldc_w 0, .ldc_w 1, .aload 0, .getfield 1224, .iadd] [10, 9] [] [(0, .ref 251), (1, .int x1), (2, .int x2), (3, .int x3), (4, .int x4)] [.int ((9 : Int32) + (h6.1 251 24)), .int (10 : Int32), .int x4] h6 [kd 251 = 12] (by decide +kernel) rfl kd_251 ?_
      refine rt hG z_M_in 111 3 31 [.int x4, .int (10 : Int32), .int ((9 : Int32) + (h6.1 251 24))] [] (by decide +kernel) mk_M_in lk_12_111 rfl ⟨rfl, Nat.le_of_ble_eq_true rfl⟩ (c_M_in (d := d + 7) h6 x4 (10 : Int32) ((9 : Int32) + (h6.1 251 24)) (ok_bind hO)) ?_
      rintro _ _ ⟨r9, rfl, rfl, hO⟩
      refine riN hG (6) 40 34 (by decide +kernel) (by decide) (fun c10 => ?_) (fun c10 => ?_)
      · have hO := ok_pos c10 hO
        refine rs hG [] [] rfl ?_
        exact j37 h6 hO
      · have hO := ok_neg c10 hO
        refine rs hG [(0, .ref 251), (4, .int x4)] [0, 4] rfl ?_
        exact j40 h6 hO
/-! GrainInn.count(I)I -/
noncomputable def K_count_j22 (s0 : Int32) (h : Hp) : Option Int32 := some s0
noncomputable def K_count (h : Hp) (x1 : Int32) : Option Int32 := (K_isOf x1 (0 : Int32) (4 : Int32)).bind fun r1 => if r1 = 0 then ((K_count_j22 (-2 : Int32) h)) else ((D_countOf h 2 x1).bind fun r3 => (K_count_j22 r3 h))
set_option maxRecDepth 100000 in
set_option maxHeartbeats 4000000 in
theorem c_K_count {E : En} {d : Nat} (h : Hp) (x1 : Int32) {P : Int32 → Prop} (hO : Okk (K_count h x1) P) : Cn E (d + 3) z_K_count [.ref 1, .int x1] h (RIp h P) := by
  refine cn_of (on := 11) (d := d + 2) ⟨rfl, by decide +kernel, Nat.le_of_ble_eq_true rfl⟩ (fun G hG => ?_)
  unfold K_count at hO
  show G 0 [(0, .ref 1), (1, .int x1)] [] h
  have j22 : ∀ (s0 : Int32), Okk (K_count_j22 s0 h) P → G 22 [] [.int s0] h := by
    intro s0 hO
    unfold K_count_j22 at hO
    exact eI hG 22 (by decide +kernel) rfl ⟨s0, rfl, rfl, ok_some (Q := P) hO⟩
  refine rb hG 6 0 3 [.iload 1, .ldc_w 0, .ldc_w 1] [0, 4] [] [(0, .ref 1), (1, .int x1)] [.int (4 : Int32), .int (0 : Int32), .int x1] h [] (by decide +kernel) rfl trivial ?_
  refine rt hG z_K_isOf 119 3 3 [.int x1, .int (0 : Int32), .int (4 : Int32)] [] (by decide +kernel) mk_K_isOf lk_11_119 rfl ⟨rfl, Nat.le_of_ble_eq_true rfl⟩ (c_K_isOf (d := d + 1) h x1 (0 : Int32) (4 : Int32) (ok_bind hO)) ?_
  rintro _ _ ⟨r1, rfl, rfl, hO⟩
  refine ri hG .eq (14) 20 6 (by decide +kernel) (by decide) (fun c2 => ?_) (fun c2 => ?_)
  · have hO := ok_pos c2 hO
    refine rb hG 4 20 22 [.ldc_w 0] [-2] [] [(0, .ref 1), (1, .int x1)] [.int (-2 : Int32)] h [] (by decide +kernel) rfl trivial ?_
    refine rs hG [] [] rfl ?_
    exact j22 (-2 : Int32) hO
  · have hO := ok_neg c2 hO
    refine rb hG 6 9 14 [.aload 0, .invokeinterface 1100 1, .iload 1] [] [] [(0, .ref 1), (1, .int x1)] [.int x1, .ref 2] h [kd 1 = 11] (by decide +kernel) rfl kd_1 ?_
    refine rv hG z_D_countOf 354 1 14 2 [.int x1] [] (by decide +kernel) mk_D_countOf lk_11_354 rcv_2 rfl ⟨rfl, Nat.le_of_ble_eq_true rfl⟩ (c_D_countOf (d := d) h 2 x1 (ok_bind hO)) ?_
    rintro _ _ ⟨r3, rfl, rfl, hO⟩
    refine rb hG 4 17 22 [] [] [] [(0, .ref 1), (1, .int x1)] [.int r3] h [] (by decide +kernel) rfl trivial ?_
    refine rs hG [] [] rfl ?_
    exact j22 r3 hO
/-! GrainInnModel.count(I)I -/
noncomputable def M_count_j25 (s0 : Int32) (h : Hp) : Option (Int32 × Hp) := some (s0, h)
noncomputable def M_count (h : Hp) (x1 : Int32) : Option (Int32 × Hp) := bnd (wr h 251 0 (0 : Int32)) fun h1 => (M_in x1 (0 : Int32) (3 : Int32)).bind fun r2 => if r2 = 0 then ((M_count_j25 (-2 : Int32) h1)) else (if inb x1 (ln 256) then ((M_count_j25 (h1.1 256 (Int32.toNatClampNeg x1)) h1)) else none)
set_option maxRecDepth 100000 in
set_option maxHeartbeats 4000000 in
theorem c_M_count {E : En} {d : Nat} (h : Hp) (x1 : Int32) {P : (Int32 × Hp) → Prop} (hO : Okk (M_count h x1) P) : Cn E (d + 2) z_M_count [.ref 251, .int x1] h (RI P) := by
  refine cn_of (on := 12) (d := d + 1) ⟨rfl, by decide +kernel, Nat.le_of_ble_eq_true rfl⟩ (fun G hG => ?_)
  unfold M_count at hO
  show G 0 [(0, .ref 251), (1, .int x1)] [] h
  have j25 : ∀ (s0 : Int32) (h : Hp), Okk (M_count_j25 s0 h) P → G 25 [] [.int s0] h := by
    intro s0 h hO
    unfold M_count_j25 at hO
    exact eI hG 25 (by decide +kernel) rfl ⟨s0, rfl, ok_some (Q := P) hO⟩
  refine rbx hG 6 0 5 [.aload 0, .ldc_w 0, .putfield 1200] [0] [] (wr h 251 0 (0 : Int32)) (fun h1 => [(0, .ref 251), (1, .int x1)]) (fun h1 => []) (fun h1 => h1) [kd 251 = 12] (by decide +kernel) rfl kd_251 hO (fun h1 hO => ?_)
  refine rb hG 6 5 8 [.iload 1, .ldc_w 0, .ldc_w 1] [0, 3] [] [(0, .ref 251), (1, .int x1)] [.int (3 : Int32), .int (0 : Int32), .int x1] h1 [] (by decide +kernel) rfl trivial ?_
  refine rt hG z_M_in 111 3 8 [.int x1, .int (0 : Int32), .int (3 : Int32)] [] (by decide +kernel) mk_M_in lk_12_111 rfl ⟨rfl, Nat.le_of_ble_eq_true rfl⟩ (c_M_in (d := d) h1 x1 (0 : Int32) (3 : Int32) (ok_bind hO)) ?_
  rintro _ _ ⟨r2, rfl, rfl, hO⟩
  refine ri hG .eq (12) 23 11 (by decide +kernel) (by decide) (fun c3 => ?_) (fun c3 => ?_)
  · have hO := ok_pos c3 hO
    refine rb hG 4 23 25 [.ldc_w 0] [-2] [] [(0, .ref 251), (1, .int x1)] [.int (-2 : Int32)] h1 [] (by decide +kernel) rfl trivial ?_
    refine rs hG [] [] rfl ?_
    exact j25 (-2 : Int32) h1 hO
  · have hO := ok_neg c3 hO
    obtain ⟨g4, hO⟩ := ok_if hO
    refine rb hG 8 14 25 [.aload 0, .invokeinterface 1205 5, .iload 1, .iaload] [] [] [(0, .ref 251), (1, .int x1)] [.int (h1.1 256 (Int32.toNatClampNeg x1))] h1 [kd 251 = 12, kd 256 = 20 ∧ inb x1 (ln 256)] (by decide +kernel) rfl ⟨kd_251, ⟨kd_256, g4⟩⟩ ?_
    refine rs hG [] [] rfl ?_
    exact j25 (h1.1 256 (Int32.toNatClampNeg x1)) h1 hO
/-! GrainInn.Tape.copyFrom(LGrainInn$Tape;)V -/
noncomputable def T_copyFrom (h : Hp) (x0 : Nat) (x1 : Nat) : Option Hp := if kd x0 = 8 then (if kd x1 = 8 then (bnd (wr h x0 1 (h.1 x1 1)) fun h2 => if 20 ≤ kd (x0 + 1) ∧ kd (x0 + 1) < 27 then (if (kd (x1 + 1) = 20 ∧ kd (x0 + 1) = 20) ∧ (¬ (0 : Int32) < 0 ∧ ¬ (0 : Int32) < 0 ∧ ¬ (Int32.ofNat (ln (x0 + 1))) < 0) ∧ (Int32.toNatClampNeg (0 : Int32)) + (Int32.toNatClampNeg (Int32.ofNat (ln (x0 + 1)))) ≤ ln (x1 + 1) ∧ (Int32.toNatClampNeg (0 : Int32)) + (Int32.toNatClampNeg (Int32.ofNat (ln (x0 + 1)))) ≤ ln (x0 + 1) then (bnd (cpy h2 (x1 + 1) (Int32.toNatClampNeg (0 : Int32)) (x0 + 1) (Int32.toNatClampNeg (0 : Int32)) (Int32.toNatClampNeg (Int32.ofNat (ln (x0 + 1))))) fun h5 => some h5) else none) else none) else none) else none
set_option maxRecDepth 100000 in
set_option maxHeartbeats 4000000 in
theorem c_T_copyFrom {E : En} {d : Nat} (h : Hp) (x0 : Nat) (x1 : Nat) {P : Hp → Prop} (hO : Okk (T_copyFrom h x0 x1) P) : Cn E (d + 1) z_T_copyFrom [.ref x0, .ref x1] h (RV P) := by
  refine cn_of (on := 8) (d := d + 0) ⟨rfl, by decide +kernel, Nat.le_of_ble_eq_true rfl⟩ (fun G hG => ?_)
  unfold T_copyFrom at hO
  show G 0 [(0, .ref x0), (1, .ref x1)] [] h
  obtain ⟨g0, hO⟩ := ok_if hO
  obtain ⟨g1, hO⟩ := ok_if hO
  refine rbx hG 7 0 8 [.aload 0, .aload 1, .getfield 801, .putfield 801] [] [] (wr h x0 1 (h.1 x1 1)) (fun h2 => [(0, .ref x0), (1, .ref x1)]) (fun h2 => []) (fun h2 => h2) [kd x1 = 8, kd x0 = 8] (by decide +kernel) rfl ⟨g1, g0⟩ hO (fun h2 hO => ?_)
  obtain ⟨g3, hO⟩ := ok_if hO
  obtain ⟨g4, hO⟩ := ok_if hO
  refine rbx hG 13 8 26 [.aload 1, .invokeinterface 800 1, .ldc_w 0, .aload 0, .invokeinterface 800 1, .ldc_w 0, .aload 0, .invokeinterface 800 1, .arraylength, .invokestatic 3] [0] [] (cpy h2 (x1 + 1) (Int32.toNatClampNeg (0 : Int32)) (x0 + 1) (Int32.toNatClampNeg (0 : Int32)) (Int32.toNatClampNeg (Int32.ofNat (ln (x0 + 1))))) (fun h5 => [(0, .ref x0), (1, .ref x1)]) (fun h5 => []) (fun h5 => h5) [kd x1 = 8, kd x0 = 8, kd x0 = 8, 20 ≤ kd (x0 + 1) ∧ kd (x0 + 1) < 27, sm [] ≤ 8 ∧ (kd (x1 + 1) = 20 ∧ kd (x0 + 1) = 20) ∧ (¬ (0 : Int32) < 0 ∧ ¬ (0 : Int32) < 0 ∧ ¬ (Int32.ofNat (ln (x0 + 1))) < 0) ∧ (Int32.toNatClampNeg (0 : Int32)) + (Int32.toNatClampNeg (Int32.ofNat (ln (x0 + 1)))) ≤ ln (x1 + 1) ∧ (Int32.toNatClampNeg (0 : Int32)) + (Int32.toNatClampNeg (Int32.ofNat (ln (x0 + 1)))) ≤ ln (x0 + 1)] (by decide +kernel) rfl ⟨g1, g0, g0, g3, ⟨Nat.le_of_ble_eq_true rfl, g4⟩⟩ hO (fun h5 hO => ?_)
  exact eV hG 26 (by decide +kernel) rfl ⟨rfl, ok_some (Q := P) hO⟩
/-! GrainInn.Told.copyFrom(LGrainInn$Told;)V -/
noncomputable def D_copyFrom_j105 (x0 : Nat) (x1 : Nat) (h : Hp) : Option Hp := some h
noncomputable def D_copyFrom_b75 (x0 : Nat) (x1 : Nat) (x2 : Int32) (h : Hp) : Option ((Int32 × Hp) ⊕ Hp) := if 20 ≤ kd (x0 + 4) ∧ kd (x0 + 4) < 27 then (if (Int32.ofNat (ln (x0 + 4))) ≤ x2 then (((D_copyFrom_j105 x0 x1 h).map Sum.inr)) else (if (kd (x0 + 4) = 23 ∨ kd (x0 + 4) = 24 ∨ kd (x0 + 4) = 25 ∨ kd (x0 + 4) = 26) ∧ inb x2 (ln (x0 + 4)) then (if kd x1 = 9 then (if (kd (x1 + 4) = 23 ∨ kd (x1 + 4) = 24 ∨ kd (x1 + 4) = 25 ∨ kd (x1 + 4) = 26) ∧ inb x2 (ln (x1 + 4)) then (if kd (el (x0 + 4) (Int32.toNatClampNeg x2)) = 2 then ((L_copyFrom h (el (x0 + 4) (Int32.toNatClampNeg x2)) (el (x1 + 4) (Int32.toNatClampNeg x2))).bind fun h7 => bnd ((x2 + (1 : Int32))) fun y8 => some (.inl (y8, h7))) else none) else none) else none) else none)) else none
noncomputable def D_copyFrom_l75 (x0 : Nat) (x1 : Nat) (x2 : Int32) (h : Hp) : Option Hp := lp (fun s : (Int32 × Hp) => D_copyFrom_b75 x0 x1 s.1 s.2) (x2, h)
theorem D_copyFrom_l75_eq (x0 : Nat) (x1 : Nat) (x2 : Int32) (h : Hp) : D_copyFrom_l75 x0 x1 x2 h = (D_copyFrom_b75 x0 x1 x2 h).bind (Sum.elim (fun q : (Int32 × Hp) => D_copyFrom_l75 x0 x1 q.1 q.2) some) := lp_eq _ _
noncomputable def D_copyFrom_j73 (x0 : Nat) (x1 : Nat) (h : Hp) : Option Hp := (D_copyFrom_l75 x0 x1 (2 : Int32) h)
noncomputable def D_copyFrom_b43 (x0 : Nat) (x1 : Nat) (x2 : Int32) (h : Hp) : Option ((Int32 × Hp) ⊕ Hp) := if 20 ≤ kd (x0 + 3) ∧ kd (x0 + 3) < 27 then (if (Int32.ofNat (ln (x0 + 3))) ≤ x2 then (((D_copyFrom_j73 x0 x1 h).map Sum.inr)) else (if (kd (x0 + 3) = 23 ∨ kd (x0 + 3) = 24 ∨ kd (x0 + 3) = 25 ∨ kd (x0 + 3) = 26) ∧ inb x2 (ln (x0 + 3)) then (if kd x1 = 9 then (if (kd (x1 + 3) = 23 ∨ kd (x1 + 3) = 24 ∨ kd (x1 + 3) = 25 ∨ kd (x1 + 3) = 26) ∧ inb x2 (ln (x1 + 3)) then (if kd (el (x0 + 3) (Int32.toNatClampNeg x2)) = 1 then ((H_copyFrom h (el (x0 + 3) (Int32.toNatClampNeg x2)) (el (x1 + 3) (Int32.toNatClampNeg x2))).bind fun h15 => bnd ((x2 + (1 : Int32))) fun y16 => some (.inl (y16, h15))) else none) else none) else none) else none)) else none
noncomputable def D_copyFrom_l43 (x0 : Nat) (x1 : Nat) (x2 : Int32) (h : Hp) : Option Hp := lp (fun s : (Int32 × Hp) => D_copyFrom_b43 x0 x1 s.1 s.2) (x2, h)
theorem D_copyFrom_l43_eq (x0 : Nat) (x1 : Nat) (x2 : Int32) (h : Hp) : D_copyFrom_l43 x0 x1 x2 h = (D_copyFrom_b43 x0 x1 x2 h).bind (Sum.elim (fun q : (Int32 × Hp) => D_copyFrom_l43 x0 x1 q.1 q.2) some) := lp_eq _ _
noncomputable def D_copyFrom (h : Hp) (x0 : Nat) (x1 : Nat) : Option Hp := if kd x0 = 9 then (if kd x1 = 9 then (if kd (x0 + 1) = 8 then ((T_copyFrom h (x0 + 1) (x1 + 1)).bind fun h19 => bnd (wr h19 x0 4 (h19.1 x1 4)) fun h20 => bnd (wr h20 x0 5 (h20.1 x1 5)) fun h21 => if (kd (x1 + 5) = 20 ∧ kd (x0 + 5) = 20) ∧ (¬ (0 : Int32) < 0 ∧ ¬ (0 : Int32) < 0 ∧ ¬ (4 : Int32) < 0) ∧ (Int32.toNatClampNeg (0 : Int32)) + (Int32.toNatClampNeg (4 : Int32)) ≤ ln (x1 + 5) ∧ (Int32.toNatClampNeg (0 : Int32)) + (Int32.toNatClampNeg (4 : Int32)) ≤ ln (x0 + 5) then (bnd (cpy h21 (x1 + 5) (Int32.toNatClampNeg (0 : Int32)) (x0 + 5) (Int32.toNatClampNeg (0 : Int32)) (Int32.toNatClampNeg (4 : Int32))) fun h23 => (D_copyFrom_l43 x0 x1 (0 : Int32) h23)) else none) else none) else none) else none
set_option maxRecDepth 100000 in
set_option maxHeartbeats 4000000 in
theorem c_D_copyFrom {E : En} {d : Nat} (h : Hp) (x0 : Nat) (x1 : Nat) {P : Hp → Prop} (hO : Okk (D_copyFrom h x0 x1) P) : Cn E (d + 4) z_D_copyFrom [.ref x0, .ref x1] h (RV P) := by
  refine cn_of (on := 9) (d := d + 3) ⟨rfl, by decide +kernel, Nat.le_of_ble_eq_true rfl⟩ (fun G hG => ?_)
  unfold D_copyFrom at hO
  show G 0 [(0, .ref x0), (1, .ref x1)] [] h
  obtain ⟨g0, hO⟩ := ok_if hO
  have j105 : ∀ (h : Hp), Okk (D_copyFrom_j105 x0 x1 h) P → G 105 [] [] h := by
    intro h hO
    unfold D_copyFrom_j105 at hO
    exact eV hG 105 (by decide +kernel) rfl ⟨rfl, ok_some (Q := P) hO⟩
  have l75 : ∀ (x2 : Int32) (h : Hp), Okk (D_copyFrom_l75 x0 x1 x2 h) P → G 75 [(0, .ref x0), (1, .ref x1), (2, .int x2)] [] h := by
    intro x2 h hO
    obtain ⟨H75, eH75⟩ : ∃ q : (Int32 × Hp) → Prop, q = fun s => G 75 [(0, .ref x0), (1, .ref x1), (2, .int (s.1))] [] (s.2) := ⟨_, rfl⟩
    have w9 : H75 (x2, h) := by
      refine lp_wp (f := fun s : (Int32 × Hp) => D_copyFrom_b75 x0 x1 s.1 s.2) (H := H75) (Q := P) ?_ (x2, h) hO
      rintro ⟨x2, h⟩ hO
      rw [eH75]
      show G 75 [(0, .ref x0), (1, .ref x1), (2, .int x2)] [] h
      have k75 : ∀ s : (Int32 × Hp), H75 s → G 75 [(0, .ref x0), (1, .ref x1), (2, .int (s.1))] [] (s.2) := fun s q => by rw [eH75] at q; exact q
      replace hO : Okk (D_copyFrom_b75 x0 x1 x2 h) (Sum.elim H75 P) := hO
      clear eH75
      unfold D_copyFrom_b75 at hO
      obtain ⟨g1, hO⟩ := ok_if hO
      refine rb hG 7 75 81 [.iload 2, .aload 0, .invokeinterface 902 4, .arraylength] [] [] [(0, .ref x0), (1, .ref x1), (2, .int x2)] [.int (Int32.ofNat (ln (x0 + 4))), .int x2] h [kd x0 = 9, 20 ≤ kd (x0 + 4) ∧ kd (x0 + 4) < 27] (by decide +kernel) rfl ⟨g0, g1⟩ ?_
      refine rj hG .ge (24) 105 81 (by decide +kernel) (by decide) (fun c2 => ?_) (fun c2 => ?_)
      · have hO := ok_pos c2 hO
        refine rs hG [] [] rfl ?_
        exact j105 h (ok_inr hO)
      · have hO := ok_neg c2 hO
        obtain ⟨g3, hO⟩ := ok_if hO
        obtain ⟨g4, hO⟩ := ok_if hO
        obtain ⟨g5, hO⟩ := ok_if hO
        obtain ⟨g6, hO⟩ := ok_if hO
        refine rb hG 11 84 96 [.aload 0, .invokeinterface 902 4, .iload 2, .aaload, .aload 1, .invokeinterface 902 4, .iload 2, .aaload] [] [] [(0, .ref x0), (1, .ref x1), (2, .int x2)] [.ref (el (x1 + 4) (Int32.toNatClampNeg x2)), .ref (el (x0 + 4) (Int32.toNatClampNeg x2))] h [kd x0 = 9, (kd (x0 + 4) = 23 ∨ kd (x0 + 4) = 24 ∨ kd (x0 + 4) = 25 ∨ kd (x0 + 4) = 26) ∧ inb x2 (ln (x0 + 4)), kd x1 = 9, (kd (x1 + 4) = 23 ∨ kd (x1 + 4) = 24 ∨ kd (x1 + 4) = 25 ∨ kd (x1 + 4) = 26) ∧ inb x2 (ln (x1 + 4))] (by decide +kernel) rfl ⟨g0, g3, g4, g5⟩ ?_
        refine rv hG z_L_copyFrom 62 1 96 (el (x0 + 4) (Int32.toNatClampNeg x2)) [.ref (el (x1 + 4) (Int32.toNatClampNeg x2))] [] (by decide +kernel) mk_L_copyFrom lk_9_62 (rcv_L g6) rfl ⟨rfl, Nat.le_of_ble_eq_true rfl⟩ (c_L_copyFrom (d := d) h (el (x0 + 4) (Int32.toNatClampNeg x2)) (el (x1 + 4) (Int32.toNatClampNeg x2)) (ok_bind hO)) ?_
        rintro _ h7 ⟨rfl, hO⟩
        refine rbx hG 4 99 102 [.iinc 2 0] [1] [] ((x2 + (1 : Int32))) (fun y8 => [(2, .int y8), (0, .ref x0), (1, .ref x1)]) (fun y8 => []) (fun y8 => h7) [] (by decide +kernel) rfl trivial hO (fun y8 hO => ?_)
        refine rb hG 4 102 75 [] [] [] [(2, .int y8), (0, .ref x0), (1, .ref x1)] [] h7 [] (by decide +kernel) rfl trivial ?_
        refine rs hG [(0, .ref x0), (1, .ref x1), (2, .int y8)] [1, 2, 0] rfl ?_
        exact k75 (y8, h7) (ok_some (Q := (Sum.elim H75 P)) hO)
    rw [eH75] at w9
    exact w9
  have j73 : ∀ (h : Hp), Okk (D_copyFrom_j73 x0 x1 h) P → G 73 [(0, .ref x0), (1, .ref x1)] [] h := by
    intro h hO
    unfold D_copyFrom_j73 at hO
    refine rb hG 5 73 75 [.ldc_w 0, .istore 2] [2] [] [(2, .int (2 : Int32)), (0, .ref x0), (1, .ref x1)] [] h [] (by decide +kernel) rfl trivial ?_
    refine rs hG [(0, .ref x0), (1, .ref x1), (2, .int (2 : Int32))] [1, 2, 0] rfl ?_
    exact l75 (2 : Int32) h hO
  have l43 : ∀ (x2 : Int32) (h : Hp), Okk (D_copyFrom_l43 x0 x1 x2 h) P → G 43 [(0, .ref x0), (1, .ref x1), (2, .int x2)] [] h := by
    intro x2 h hO
    obtain ⟨H43, eH43⟩ : ∃ q : (Int32 × Hp) → Prop, q = fun s => G 43 [(0, .ref x0), (1, .ref x1), (2, .int (s.1))] [] (s.2) := ⟨_, rfl⟩
    have w9 : H43 (x2, h) := by
      refine lp_wp (f := fun s : (Int32 × Hp) => D_copyFrom_b43 x0 x1 s.1 s.2) (H := H43) (Q := P) ?_ (x2, h) hO
      rintro ⟨x2, h⟩ hO
      rw [eH43]
      show G 43 [(0, .ref x0), (1, .ref x1), (2, .int x2)] [] h
      have k43 : ∀ s : (Int32 × Hp), H43 s → G 43 [(0, .ref x0), (1, .ref x1), (2, .int (s.1))] [] (s.2) := fun s q => by rw [eH43] at q; exact q
      replace hO : Okk (D_copyFrom_b43 x0 x1 x2 h) (Sum.elim H43 P) := hO
      clear eH43
      unfold D_copyFrom_b43 at hO
      obtain ⟨g9, hO⟩ := ok_if hO
      refine rb hG 7 43 49 [.iload 2, .aload 0, .invokeinterface 901 3, .arraylength] [] [] [(0, .ref x0), (1, .ref x1), (2, .int x2)] [.int (Int32.ofNat (ln (x0 + 3))), .int x2] h [kd x0 = 9, 20 ≤ kd (x0 + 3) ∧ kd (x0 + 3) < 27] (by decide +kernel) rfl ⟨g0, g9⟩ ?_
      refine rj hG .ge (24) 73 49 (by decide +kernel) (by decide) (fun c10 => ?_) (fun c10 => ?_)
      · have hO := ok_pos c10 hO
        refine rs hG [(0, .ref x0), (1, .ref x1)] [0, 1] rfl ?_
        exact j73 h (ok_inr hO)
      · have hO := ok_neg c10 hO
        obtain ⟨g11, hO⟩ := ok_if hO
        obtain ⟨g12, hO⟩ := ok_if hO
        obtain ⟨g13, hO⟩ := ok_if hO
        obtain ⟨g14, hO⟩ := ok_if hO
        refine rb hG 11 52 64 [.aload 0, .invokeinterface 901 3, .iload 2, .aaload, .aload 1, .invokeinterface 901 3, .iload 2, .aaload] [] [] [(0, .ref x0), (1, .ref x1), (2, .int x2)] [.ref (el (x1 + 3) (Int32.toNatClampNeg x2)), .ref (el (x0 + 3) (Int32.toNatClampNeg x2))] h [kd x0 = 9, (kd (x0 + 3) = 23 ∨ kd (x0 + 3) = 24 ∨ kd (x0 + 3) = 25 ∨ kd (x0 + 3) = 26) ∧ inb x2 (ln (x0 + 3)), kd x1 = 9, (kd (x1 + 3) = 23 ∨ kd (x1 + 3) = 24 ∨ kd (x1 + 3) = 25 ∨ kd (x1 + 3) = 26) ∧ inb x2 (ln (x1 + 3))] (by decide +kernel) rfl ⟨g0, g11, g12, g13⟩ ?_
        refine rv hG z_H_copyFrom 59 1 64 (el (x0 + 3) (Int32.toNatClampNeg x2)) [.ref (el (x1 + 3) (Int32.toNatClampNeg x2))] [] (by decide +kernel) mk_H_copyFrom lk_9_59 (rcv_H g14) rfl ⟨rfl, Nat.le_of_ble_eq_true rfl⟩ (c_H_copyFrom (d := d + 2) h (el (x0 + 3) (Int32.toNatClampNeg x2)) (el (x1 + 3) (Int32.toNatClampNeg x2)) (ok_bind hO)) ?_
        rintro _ h15 ⟨rfl, hO⟩
        refine rbx hG 4 67 70 [.iinc 2 0] [1] [] ((x2 + (1 : Int32))) (fun y16 => [(2, .int y16), (0, .ref x0), (1, .ref x1)]) (fun y16 => []) (fun y16 => h15) [] (by decide +kernel) rfl trivial hO (fun y16 hO => ?_)
        refine rb hG 4 70 43 [] [] [] [(2, .int y16), (0, .ref x0), (1, .ref x1)] [] h15 [] (by decide +kernel) rfl trivial ?_
        refine rs hG [(0, .ref x0), (1, .ref x1), (2, .int y16)] [1, 2, 0] rfl ?_
        exact k43 (y16, h15) (ok_some (Q := (Sum.elim H43 P)) hO)
    rw [eH43] at w9
    exact w9
  obtain ⟨g17, hO⟩ := ok_if hO
  obtain ⟨g18, hO⟩ := ok_if hO
  refine rb hG 7 0 8 [.aload 0, .invokeinterface 900 1, .aload 1, .invokeinterface 900 1] [] [] [(0, .ref x0), (1, .ref x1)] [.ref (x1 + 1), .ref (x0 + 1)] h [kd x0 = 9, kd x1 = 9] (by decide +kernel) rfl ⟨g0, g17⟩ ?_
  refine rv hG z_T_copyFrom 49 1 8 (x0 + 1) [.ref (x1 + 1)] [] (by decide +kernel) mk_T_copyFrom lk_9_49 (rcv_T g18) rfl ⟨rfl, Nat.le_of_ble_eq_true rfl⟩ (c_T_copyFrom (d := d + 2) h (x0 + 1) (x1 + 1) (ok_bind hO)) ?_
  rintro _ h19 ⟨rfl, hO⟩
  refine rbx hG 7 11 19 [.aload 0, .aload 1, .getfield 904, .putfield 904] [] [] (wr h19 x0 4 (h19.1 x1 4)) (fun h20 => [(0, .ref x0), (1, .ref x1)]) (fun h20 => []) (fun h20 => h20) [kd x1 = 9, kd x0 = 9] (by decide +kernel) rfl ⟨g17, g0⟩ hO (fun h20 hO => ?_)
  refine rbx hG 7 19 27 [.aload 0, .aload 1, .getfield 905, .putfield 905] [] [] (wr h20 x0 5 (h20.1 x1 5)) (fun h21 => [(0, .ref x0), (1, .ref x1)]) (fun h21 => []) (fun h21 => h21) [kd x1 = 9, kd x0 = 9] (by decide +kernel) rfl ⟨g17, g0⟩ hO (fun h21 hO => ?_)
  obtain ⟨g22, hO⟩ := ok_if hO
  refine rbx hG 11 27 41 [.aload 1, .invokeinterface 903 5, .ldc_w 0, .aload 0, .invokeinterface 903 5, .ldc_w 0, .ldc_w 1, .invokestatic 3] [0, 4] [] (cpy h21 (x1 + 5) (Int32.toNatClampNeg (0 : Int32)) (x0 + 5) (Int32.toNatClampNeg (0 : Int32)) (Int32.toNatClampNeg (4 : Int32))) (fun h23 => [(0, .ref x0), (1, .ref x1)]) (fun h23 => []) (fun h23 => h23) [kd x1 = 9, kd x0 = 9, sm [] ≤ 8 ∧ (kd (x1 + 5) = 20 ∧ kd (x0 + 5) = 20) ∧ (¬ (0 : Int32) < 0 ∧ ¬ (0 : Int32) < 0 ∧ ¬ (4 : Int32) < 0) ∧ (Int32.toNatClampNeg (0 : Int32)) + (Int32.toNatClampNeg (4 : Int32)) ≤ ln (x1 + 5) ∧ (Int32.toNatClampNeg (0 : Int32)) + (Int32.toNatClampNeg (4 : Int32)) ≤ ln (x0 + 5)] (by decide +kernel) rfl ⟨g17, g0, ⟨Nat.le_of_ble_eq_true rfl, g22⟩⟩ hO (fun h23 hO => ?_)
  refine rb hG 5 41 43 [.ldc_w 0, .istore 2] [0] [] [(2, .int (0 : Int32)), (0, .ref x0), (1, .ref x1)] [] h23 [] (by decide +kernel) rfl trivial ?_
  refine rs hG [(0, .ref x0), (1, .ref x1), (2, .int (0 : Int32))] [1, 2, 0] rfl ?_
  exact l43 (0 : Int32) h23 hO
/-! GrainInn.image(I)Z -/
noncomputable def K_image_j13 (h : Hp) : Option (Int32 × Hp) := some ((0 : Int32), h)
noncomputable def K_image (h : Hp) (x1 : Int32) : Option (Int32 × Hp) := if x1 < 0 then ((K_image_j13 h)) else (if x1 < (Int32.ofNat (ln 44)) then (if inb x1 (ln 44) then (if kd (el 44 (Int32.toNatClampNeg x1)) = 9 then ((D_copyFrom h (el 44 (Int32.toNatClampNeg x1)) 2).bind fun h5 => if inb x1 (ln 45) then (bnd (wr h5 45 (Int32.toNatClampNeg x1) (1 : Int32)) fun h7 => some ((1 : Int32), h7)) else none) else none) else none) else ((K_image_j13 h)))
set_option maxRecDepth 100000 in
set_option maxHeartbeats 4000000 in
theorem c_K_image {E : En} {d : Nat} (h : Hp) (x1 : Int32) {P : (Int32 × Hp) → Prop} (hO : Okk (K_image h x1) P) : Cn E (d + 5) z_K_image [.ref 1, .int x1] h (RI P) := by
  refine cn_of (on := 11) (d := d + 4) ⟨rfl, by decide +kernel, Nat.le_of_ble_eq_true rfl⟩ (fun G hG => ?_)
  unfold K_image at hO
  show G 0 [(0, .ref 1), (1, .int x1)] [] h
  have j13 : ∀ (h : Hp), Okk (K_image_j13 h) P → G 13 [] [] h := by
    intro h hO
    unfold K_image_j13 at hO
    refine rb hG 4 13 14 [.ldc_w 0] [0] [] [] [.int (0 : Int32)] h [] (by decide +kernel) rfl trivial ?_
    exact eZ hG 14 (by decide +kernel) rfl (Or.inl rfl) ⟨(0 : Int32), rfl, ok_some (Q := P) hO⟩
  refine rb hG 4 0 1 [.iload 1] [] [] [(0, .ref 1), (1, .int x1)] [.int x1] h [] (by decide +kernel) rfl trivial ?_
  refine ri hG .lt (12) 13 1 (by decide +kernel) (by decide) (fun c1 => ?_) (fun c1 => ?_)
  · have hO := ok_pos c1 hO
    refine rs hG [] [] rfl ?_
    exact j13 h hO
  · have hO := ok_neg c1 hO
    refine rb hG 7 4 10 [.iload 1, .aload 0, .invokeinterface 1101 43, .arraylength] [] [] [(0, .ref 1), (1, .int x1)] [.int (Int32.ofNat (ln 44)), .int x1] h [kd 1 = 11, 20 ≤ kd 44 ∧ kd 44 < 27] (by decide +kernel) rfl ⟨kd_1, (show 20 ≤ kd 44 ∧ kd 44 < 27 by decide +kernel)⟩ ?_
    refine rj hG .lt (5) 15 10 (by decide +kernel) (by decide) (fun c2 => ?_) (fun c2 => ?_)
    · have hO := ok_pos c2 hO
      obtain ⟨g3, hO⟩ := ok_if hO
      obtain ⟨g4, hO⟩ := ok_if hO
      refine rb hG 9 15 25 [.aload 0, .invokeinterface 1101 43, .iload 1, .aaload, .aload 0, .invokeinterface 1100 1] [] [] [(0, .ref 1), (1, .int x1)] [.ref 2, .ref (el 44 (Int32.toNatClampNeg x1))] h [kd 1 = 11, (kd 44 = 23 ∨ kd 44 = 24 ∨ kd 44 = 25 ∨ kd 44 = 26) ∧ inb x1 (ln 44), kd 1 = 11] (by decide +kernel) rfl ⟨kd_1, ⟨Or.inr (Or.inr (Or.inr kd_44)), g3⟩, kd_1⟩ ?_
      refine rv hG z_D_copyFrom 357 1 25 (el 44 (Int32.toNatClampNeg x1)) [.ref 2] [] (by decide +kernel) mk_D_copyFrom lk_11_357 (rcv_D g4) rfl ⟨rfl, Nat.le_of_ble_eq_true rfl⟩ (c_D_copyFrom (d := d) h (el 44 (Int32.toNatClampNeg x1)) 2 (ok_bind hO)) ?_
      rintro _ h5 ⟨rfl, hO⟩
      obtain ⟨g6, hO⟩ := ok_if hO
      refine rbx hG 8 28 35 [.aload 0, .invokeinterface 1102 44, .iload 1, .ldc_w 0, .castore] [1] [] (wr h5 45 (Int32.toNatClampNeg x1) (1 : Int32)) (fun h7 => [(0, .ref 1), (1, .int x1)]) (fun h7 => []) (fun h7 => h7) [kd 1 = 11, kd 45 = 22 ∧ inb x1 (ln 45) ∧ ((1 : Int32) = 0 ∨ (1 : Int32) = 1)] (by decide +kernel) rfl ⟨kd_1, ⟨kd_45, g6, Or.inr rfl⟩⟩ hO (fun h7 hO => ?_)
      refine rb hG 4 35 36 [.ldc_w 0] [1] [] [(0, .ref 1), (1, .int x1)] [.int (1 : Int32)] h7 [] (by decide +kernel) rfl trivial ?_
      exact eZ hG 36 (by decide +kernel) rfl (Or.inr rfl) ⟨(1 : Int32), rfl, ok_some (Q := P) hO⟩
    · have hO := ok_neg c2 hO
      refine rs hG [] [] rfl ?_
      exact j13 h hO
/-! GrainInnModel.copyRow([IIII)V -/
noncomputable def M_copyRow_j31 (x0 : Nat) (h : Hp) : Option Hp := some h
noncomputable def M_copyRow_b3 (x0 : Nat) (x1 : Int32) (x2 : Int32) (x3 : Int32) (x4 : Int32) (h : Hp) : Option ((Int32 × Hp) ⊕ Hp) := if x1 ≤ x4 then (((M_copyRow_j31 x0 h).map Sum.inr)) else (if kd x0 = 20 ∧ inb ((x1 * x2) + x4) (ln x0) then (if kd x0 = 20 ∧ inb ((x1 * x3) + x4) (ln x0) then (bnd (wr h x0 (Int32.toNatClampNeg ((x1 * x3) + x4)) (h.1 x0 (Int32.toNatClampNeg ((x1 * x2) + x4)))) fun h4 => bnd ((x4 + (1 : Int32))) fun y5 => some (.inl (y5, h4))) else none) else none)
noncomputable def M_copyRow_l3 (x0 : Nat) (x1 : Int32) (x2 : Int32) (x3 : Int32) (x4 : Int32) (h : Hp) : Option Hp := lp (fun s : (Int32 × Hp) => M_copyRow_b3 x0 x1 x2 x3 s.1 s.2) (x4, h)
theorem M_copyRow_l3_eq (x0 : Nat) (x1 : Int32) (x2 : Int32) (x3 : Int32) (x4 : Int32) (h : Hp) : M_copyRow_l3 x0 x1 x2 x3 x4 h = (M_copyRow_b3 x0 x1 x2 x3 x4 h).bind (Sum.elim (fun q : (Int32 × Hp) => M_copyRow_l3 x0 x1 x2 x3 q.1 q.2) some) := lp_eq _ _
noncomputable def M_copyRow (h : Hp) (x0 : Nat) (x1 : Int32) (x2 : Int32) (x3 : Int32) : Option Hp := (M_copyRow_l3 x0 x1 x2 x3 (0 : Int32) h)
set_option maxRecDepth 100000 in
set_option maxHeartbeats 4000000 in
theorem c_M_copyRow {E : En} {d : Nat} (h : Hp) (x0 : Nat) (x1 : Int32) (x2 : Int32) (x3 : Int32) {P : Hp → Prop} (hO : Okk (M_copyRow h x0 x1 x2 x3) P) : Cn E (d + 1) z_M_copyRow [.ref x0, .int x1, .int x2, .int x3] h (RV P) := by
  refine cn_of (on := 12) (d := d + 0) ⟨rfl, by decide +kernel, Nat.le_of_ble_eq_true rfl⟩ (fun G hG => ?_)
  unfold M_copyRow at hO
  show G 0 [(0, .ref x0), (1, .int x1), (2, .int x2), (3, .int x3)] [] h
  have j31 : ∀ (h : Hp), Okk (M_copyRow_j31 x0 h) P → G 31 [] [] h := by
    intro h hO
    unfold M_copyRow_j31 at hO
    exact eV hG 31 (by decide +kernel) rfl ⟨rfl, ok_some (Q := P) hO⟩
  have l3 : ∀ (x4 : Int32) (h : Hp), Okk (M_copyRow_l3 x0 x1 x2 x3 x4 h) P → G 3 [(0, .ref x0), (1, .int x1), (2, .int x2), (3, .int x3), (4, .int x4)] [] h := by
    intro x4 h hO
    obtain ⟨H3, eH3⟩ : ∃ q : (Int32 × Hp) → Prop, q = fun s => G 3 [(0, .ref x0), (1, .int x1), (2, .int x2), (3, .int x3), (4, .int (s.1))] [] (s.2) := ⟨_, rfl⟩
    have w9 : H3 (x4, h) := by
      refine lp_wp (f := fun s : (Int32 × Hp) => M_copyRow_b3 x0 x1 x2 x3 s.1 s.2) (H := H3) (Q := P) ?_ (x4, h) hO
      rintro ⟨x4, h⟩ hO
      rw [eH3]
      show G 3 [(0, .ref x0), (1, .int x1), (2, .int x2), (3, .int x3), (4, .int x4)] [] h
      have k3 : ∀ s : (Int32 × Hp), H3 s → G 3 [(0, .ref x0), (1, .int x1), (2, .int x2), (3, .int x3), (4, .int (s.1))] [] (s.2) := fun s q => by rw [eH3] at q; exact q
      replace hO : Okk (M_copyRow_b3 x0 x1 x2 x3 x4 h) (Sum.elim H3 P) := hO
      clear eH3
      unfold M_copyRow_b3 at hO
      refine rb hG 5 3 6 [.iload 4, .iload 1] [] [] [(0, .ref x0), (1, .int x1), (2, .int x2), (3, .int x3), (4, .int x4)] [.int x1, .int x4] h [] (by decide +kernel) rfl trivial ?_
      refine rj hG .ge (25) 31 6 (by decide +kernel) (by decide) (fun c1 => ?_) (fun c1 => ?_)
      · have hO := ok_pos c1 hO
        refine rs hG [] [] rfl ?_
        exact j31 h (ok_inr hO)
      · have hO := ok_neg c1 hO
        obtain ⟨g2, hO⟩ := ok_if hO
        obtain ⟨g3, hO⟩ := ok_if hO
        refine rbx hG 17 9 25 [.aload 0, .iload 1, .iload 3, .imul, .iload 4, .iadd, .aload 0, .iload 1, .iload 2, .imul, .iload 4, .iadd, .iaload, .iastore] [] [] (wr h x0 (Int32.toNatClampNeg ((x1 * x3) + x4)) (h.1 x0 (Int32.toNatClampNeg ((x1 * x2) + x4)))) (fun h4 => [(0, .ref x0), (1, .int x1), (2, .int x2), (3, .int x3), (4, .int x4)]) (fun h4 => []) (fun h4 => h4) [kd x0 = 20 ∧ inb ((x1 * x2) + x4) (ln x0), kd x0 = 20 ∧ inb ((x1 * x3) + x4) (ln x0)] (by decide +kernel) rfl ⟨g2, g3⟩ hO (fun h4 hO => ?_)
        refine rbx hG 4 25 28 [.iinc 4 0] [1] [] ((x4 + (1 : Int32))) (fun y5 => [(4, .int y5), (0, .ref x0), (1, .int x1), (2, .int x2), (3, .int x3)]) (fun y5 => []) (fun y5 => h4) [] (by decide +kernel) rfl trivial hO (fun y5 hO => ?_)
        refine rb hG 4 28 3 [] [] [] [(4, .int y5), (0, .ref x0), (1, .int x1), (2, .int x2), (3, .int x3)] [] h4 [] (by decide +kernel) rfl trivial ?_
        refine rs hG [(0, .ref x0), (1, .int x1), (2, .int x2), (3, .int x3), (4, .int y5)] [1, 2, 3, 4, 0] rfl ?_
        exact k3 (y5, h4) (ok_some (Q := (Sum.elim H3 P)) hO)
    rw [eH3] at w9
    exact w9
  refine rb hG 5 0 3 [.ldc_w 0, .istore 4] [0] [] [(4, .int (0 : Int32)), (0, .ref x0), (1, .int x1), (2, .int x2), (3, .int x3)] [] h [] (by decide +kernel) rfl trivial ?_
  refine rs hG [(0, .ref x0), (1, .int x1), (2, .int x2), (3, .int x3), (4, .int (0 : Int32))] [1, 2, 3, 4, 0] rfl ?_
  exact l3 (0 : Int32) h hO
/-! GrainInnModel.copyAll(II)V -/
noncomputable def M_copyAll_j39 (x1 : Int32) (x2 : Int32) (h : Hp) : Option Hp := (M_copyRow h 253 (1 : Int32) x1 x2).bind fun h1 => (M_copyRow h1 254 (1 : Int32) x1 x2).bind fun h2 => (M_copyRow h2 255 (1 : Int32) x1 x2).bind fun h3 => (M_copyRow h3 256 (4 : Int32) x1 x2).bind fun h4 => (M_copyRow h4 257 (66 : Int32) x1 x2).bind fun h5 => (M_copyRow h5 258 (242 : Int32) x1 x2).bind fun h6 => (M_copyRow h6 259 (62 : Int32) x1 x2).bind fun h7 => (M_copyRow h7 260 (16 : Int32) x1 x2).bind fun h8 => some h8
noncomputable def M_copyAll_b2 (x1 : Int32) (x2 : Int32) (x3 : Int32) (h : Hp) : Option ((Int32 × Hp) ⊕ Hp) := if (600 : Int32) ≤ x3 then (((M_copyAll_j39 x1 x2 h).map Sum.inr)) else (if inb (((600 : Int32) * x1) + x3) (ln 252) then (if inb (((600 : Int32) * x2) + x3) (ln 252) then (bnd (wr h 252 (Int32.toNatClampNeg (((600 : Int32) * x2) + x3)) (Int8.toInt32 (Int32.toInt8 (h.1 252 (Int32.toNatClampNeg (((600 : Int32) * x1) + x3)))))) fun h12 => bnd ((x3 + (1 : Int32))) fun y13 => some (.inl (y13, h12))) else none) else none)
noncomputable def M_copyAll_l2 (x1 : Int32) (x2 : Int32) (x3 : Int32) (h : Hp) : Option Hp := lp (fun s : (Int32 × Hp) => M_copyAll_b2 x1 x2 s.1 s.2) (x3, h)
theorem M_copyAll_l2_eq (x1 : Int32) (x2 : Int32) (x3 : Int32) (h : Hp) : M_copyAll_l2 x1 x2 x3 h = (M_copyAll_b2 x1 x2 x3 h).bind (Sum.elim (fun q : (Int32 × Hp) => M_copyAll_l2 x1 x2 q.1 q.2) some) := lp_eq _ _
noncomputable def M_copyAll (h : Hp) (x1 : Int32) (x2 : Int32) : Option Hp := (M_copyAll_l2 x1 x2 (0 : Int32) h)
set_option maxRecDepth 100000 in
set_option maxHeartbeats 4000000 in
theorem c_M_copyAll {E : En} {d : Nat} (h : Hp) (x1 : Int32) (x2 : Int32) {P : Hp → Prop} (hO : Okk (M_copyAll h x1 x2) P) : Cn E (d + 2) z_M_copyAll [.ref 251, .int x1, .int x2] h (RV P) := by
  refine cn_of (on := 12) (d := d + 1) ⟨rfl, by decide +kernel, Nat.le_of_ble_eq_true rfl⟩ (fun G hG => ?_)
  unfold M_copyAll at hO
  show G 0 [(0, .ref 251), (1, .int x1), (2, .int x2)] [] h
  have j39 : ∀ (h : Hp), Okk (M_copyAll_j39 x1 x2 h) P → G 39 [(0, .ref 251), (1, .int x1), (2, .int x2)] [] h := by
    intro h hO
    unfold M_copyAll_j39 at hO
    refine rb hG 8 39 46 [.aload 0, .invokeinterface 1202 2, .ldc_w 0, .iload 1, .iload 2] [1] [] [(0, .ref 251), (1, .int x1), (2, .int x2)] [.int x2, .int x1, .int (1 : Int32), .ref 253] h [kd 251 = 12] (by decide +kernel) rfl kd_251 ?_
    refine rt hG z_M_copyRow 107 4 46 [.ref 253, .int (1 : Int32), .int x1, .int x2] [] (by decide +kernel) mk_M_copyRow lk_12_107 rfl ⟨rfl, Nat.le_of_ble_eq_true rfl⟩ (c_M_copyRow (d := d) h 253 (1 : Int32) x1 x2 (ok_bind hO)) ?_
    rintro _ h1 ⟨rfl, hO⟩
    refine rb hG 8 49 56 [.aload 0, .invokeinterface 1203 3, .ldc_w 0, .iload 1, .iload 2] [1] [] [(0, .ref 251), (1, .int x1), (2, .int x2)] [.int x2, .int x1, .int (1 : Int32), .ref 254] h1 [kd 251 = 12] (by decide +kernel) rfl kd_251 ?_
    refine rt hG z_M_copyRow 107 4 56 [.ref 254, .int (1 : Int32), .int x1, .int x2] [] (by decide +kernel) mk_M_copyRow lk_12_107 rfl ⟨rfl, Nat.le_of_ble_eq_true rfl⟩ (c_M_copyRow (d := d) h1 254 (1 : Int32) x1 x2 (ok_bind hO)) ?_
    rintro _ h2 ⟨rfl, hO⟩
    refine rb hG 8 59 66 [.aload 0, .invokeinterface 1204 4, .ldc_w 0, .iload 1, .iload 2] [1] [] [(0, .ref 251), (1, .int x1), (2, .int x2)] [.int x2, .int x1, .int (1 : Int32), .ref 255] h2 [kd 251 = 12] (by decide +kernel) rfl kd_251 ?_
    refine rt hG z_M_copyRow 107 4 66 [.ref 255, .int (1 : Int32), .int x1, .int x2] [] (by decide +kernel) mk_M_copyRow lk_12_107 rfl ⟨rfl, Nat.le_of_ble_eq_true rfl⟩ (c_M_copyRow (d := d) h2 255 (1 : Int32) x1 x2 (ok_bind hO)) ?_
    rintro _ h3 ⟨rfl, hO⟩
    refine rb hG 8 69 76 [.aload 0, .invokeinterface 1205 5, .ldc_w 0, .iload 1, .iload 2] [4] [] [(0, .ref 251), (1, .int x1), (2, .int x2)] [.int x2, .int x1, .int (4 : Int32), .ref 256] h3 [kd 251 = 12] (by decide +kernel) rfl kd_251 ?_
    refine rt hG z_M_copyRow 107 4 76 [.ref 256, .int (4 : Int32), .int x1, .int x2] [] (by decide +kernel) mk_M_copyRow lk_12_107 rfl ⟨rfl, Nat.le_of_ble_eq_true rfl⟩ (c_M_copyRow (d := d) h3 256 (4 : Int32) x1 x2 (ok_bind hO)) ?_
    rintro _ h4 ⟨rfl, hO⟩
    refine rb hG 8 79 87 [.aload 0, .invokeinterface 1206 6, .ldc_w 0, .iload 1, .iload 2] [66] [] [(0, .ref 251), (1, .int x1), (2, .int x2)] [.int x2, .int x1, .int (66 : Int32), .ref 257] h4 [kd 251 = 12] (by decide +kernel) rfl kd_251 ?_
    refine rt hG z_M_copyRow 107 4 87 [.ref 257, .int (66 : Int32), .int x1, .int x2] [] (by decide +kernel) mk_M_copyRow lk_12_107 rfl ⟨rfl, Nat.le_of_ble_eq_true rfl⟩ (c_M_copyRow (d := d) h4 257 (66 : Int32) x1 x2 (ok_bind hO)) ?_
    rintro _ h5 ⟨rfl, hO⟩
    refine rb hG 8 90 99 [.aload 0, .invokeinterface 1207 7, .ldc_w 0, .iload 1, .iload 2] [242] [] [(0, .ref 251), (1, .int x1), (2, .int x2)] [.int x2, .int x1, .int (242 : Int32), .ref 258] h5 [kd 251 = 12] (by decide +kernel) rfl kd_251 ?_
    refine rt hG z_M_copyRow 107 4 99 [.ref 258, .int (242 : Int32), .int x1, .int x2] [] (by decide +kernel) mk_M_copyRow lk_12_107 rfl ⟨rfl, Nat.le_of_ble_eq_true rfl⟩ (c_M_copyRow (d := d) h5 258 (242 : Int32) x1 x2 (ok_bind hO)) ?_
    rintro _ h6 ⟨rfl, hO⟩
    refine rb hG 8 102 110 [.aload 0, .invokeinterface 1208 8, .ldc_w 0, .iload 1, .iload 2] [62] [] [(0, .ref 251), (1, .int x1), (2, .int x2)] [.int x2, .int x1, .int (62 : Int32), .ref 259] h6 [kd 251 = 12] (by decide +kernel) rfl kd_251 ?_
    refine rt hG z_M_copyRow 107 4 110 [.ref 259, .int (62 : Int32), .int x1, .int x2] [] (by decide +kernel) mk_M_copyRow lk_12_107 rfl ⟨rfl, Nat.le_of_ble_eq_true rfl⟩ (c_M_copyRow (d := d) h6 259 (62 : Int32) x1 x2 (ok_bind hO)) ?_
    rintro _ h7 ⟨rfl, hO⟩
    refine rb hG 8 113 121 [.aload 0, .invokeinterface 1209 9, .ldc_w 0, .iload 1, .iload 2] [16] [] [(0, .ref 251), (1, .int x1), (2, .int x2)] [.int x2, .int x1, .int (16 : Int32), .ref 260] h7 [kd 251 = 12] (by decide +kernel) rfl kd_251 ?_
    refine rt hG z_M_copyRow 107 4 121 [.ref 260, .int (16 : Int32), .int x1, .int x2] [] (by decide +kernel) mk_M_copyRow lk_12_107 rfl ⟨rfl, Nat.le_of_ble_eq_true rfl⟩ (c_M_copyRow (d := d) h7 260 (16 : Int32) x1 x2 (ok_bind hO)) ?_
    rintro _ h8 ⟨rfl, hO⟩
    exact eV hG 124 (by decide +kernel) rfl ⟨rfl, ok_some (Q := P) hO⟩
  have l2 : ∀ (x3 : Int32) (h : Hp), Okk (M_copyAll_l2 x1 x2 x3 h) P → G 2 [(0, .ref 251), (1, .int x1), (2, .int x2), (3, .int x3)] [] h := by
    intro x3 h hO
    obtain ⟨H2, eH2⟩ : ∃ q : (Int32 × Hp) → Prop, q = fun s => G 2 [(0, .ref 251), (1, .int x1), (2, .int x2), (3, .int (s.1))] [] (s.2) := ⟨_, rfl⟩
    have w9 : H2 (x3, h) := by
      refine lp_wp (f := fun s : (Int32 × Hp) => M_copyAll_b2 x1 x2 s.1 s.2) (H := H2) (Q := P) ?_ (x3, h) hO
      rintro ⟨x3, h⟩ hO
      rw [eH2]
      show G 2 [(0, .ref 251), (1, .int x1), (2, .int x2), (3, .int x3)] [] h
      have k2 : ∀ s : (Int32 × Hp), H2 s → G 2 [(0, .ref 251), (1, .int x1), (2, .int x2), (3, .int (s.1))] [] (s.2) := fun s q => by rw [eH2] at q; exact q
      replace hO : Okk (M_copyAll_b2 x1 x2 x3 h) (Sum.elim H2 P) := hO
      clear eH2
      unfold M_copyAll_b2 at hO
      refine rb hG 5 2 6 [.iload 3, .ldc_w 0] [600] [] [(0, .ref 251), (1, .int x1), (2, .int x2), (3, .int x3)] [.int (600 : Int32), .int x3] h [] (by decide +kernel) rfl trivial ?_
      refine rj hG .ge (33) 39 6 (by decide +kernel) (by decide) (fun c9 => ?_) (fun c9 => ?_)
      · have hO := ok_pos c9 hO
        refine rs hG [(0, .ref 251), (1, .int x1), (2, .int x2)] [0, 1, 2] rfl ?_
        exact j39 h (ok_inr hO)
      · have hO := ok_neg c9 hO
        obtain ⟨g10, hO⟩ := ok_if hO
        obtain ⟨g11, hO⟩ := ok_if hO
        refine rbx hG 19 9 33 [.aload 0, .invokeinterface 1201 1, .ldc_w 0, .iload 2, .imul, .iload 3, .iadd, .aload 0, .invokeinterface 1201 1, .ldc_w 0, .iload 1, .imul, .iload 3, .iadd, .baload, .bastore] [600] [] (wr h 252 (Int32.toNatClampNeg (((600 : Int32) * x2) + x3)) (Int8.toInt32 (Int32.toInt8 (h.1 252 (Int32.toNatClampNeg (((600 : Int32) * x1) + x3)))))) (fun h12 => [(0, .ref 251), (1, .int x1), (2, .int x2), (3, .int x3)]) (fun h12 => []) (fun h12 => h12) [kd 251 = 12, kd 251 = 12, (kd 252 = 21 ∨ kd 252 = 22) ∧ inb (((600 : Int32) * x1) + x3) (ln 252), kd 252 = 21 ∧ inb (((600 : Int32) * x2) + x3) (ln 252)] (by decide +kernel) rfl ⟨kd_251, kd_251, ⟨Or.inl kd_252, g10⟩, ⟨kd_252, g11⟩⟩ hO (fun h12 hO => ?_)
        refine rbx hG 4 33 36 [.iinc 3 0] [1] [] ((x3 + (1 : Int32))) (fun y13 => [(3, .int y13), (0, .ref 251), (1, .int x1), (2, .int x2)]) (fun y13 => []) (fun y13 => h12) [] (by decide +kernel) rfl trivial hO (fun y13 hO => ?_)
        refine rb hG 4 36 2 [] [] [] [(3, .int y13), (0, .ref 251), (1, .int x1), (2, .int x2)] [] h12 [] (by decide +kernel) rfl trivial ?_
        refine rs hG [(0, .ref 251), (1, .int x1), (2, .int x2), (3, .int y13)] [1, 2, 3, 0] rfl ?_
        exact k2 (y13, h12) (ok_some (Q := (Sum.elim H2 P)) hO)
    rw [eH2] at w9
    exact w9
  refine rb hG 5 0 2 [.ldc_w 0, .istore 3] [0] [] [(3, .int (0 : Int32)), (0, .ref 251), (1, .int x1), (2, .int x2)] [] h [] (by decide +kernel) rfl trivial ?_
  refine rs hG [(0, .ref 251), (1, .int x1), (2, .int x2), (3, .int (0 : Int32))] [1, 2, 3, 0] rfl ?_
  exact l2 (0 : Int32) h hO
/-! GrainInnModel.image(I)Z -/
noncomputable def M_image (h : Hp) (x1 : Int32) : Option (Int32 × Hp) := bnd (wr h 251 0 (0 : Int32)) fun h1 => (M_in x1 (0 : Int32) (2 : Int32)).bind fun r2 => if r2 = 0 then (some ((0 : Int32), h1)) else ((M_copyAll h1 (0 : Int32) (x1 + (1 : Int32))).bind fun h4 => if inb x1 (ln 280) then (bnd (wr h4 280 (Int32.toNatClampNeg x1) (1 : Int32)) fun h6 => some ((1 : Int32), h6)) else none)
set_option maxRecDepth 100000 in
set_option maxHeartbeats 4000000 in
theorem c_M_image {E : En} {d : Nat} (h : Hp) (x1 : Int32) {P : (Int32 × Hp) → Prop} (hO : Okk (M_image h x1) P) : Cn E (d + 3) z_M_image [.ref 251, .int x1] h (RI P) := by
  refine cn_of (on := 12) (d := d + 2) ⟨rfl, by decide +kernel, Nat.le_of_ble_eq_true rfl⟩ (fun G hG => ?_)
  unfold M_image at hO
  show G 0 [(0, .ref 251), (1, .int x1)] [] h
  refine rbx hG 6 0 5 [.aload 0, .ldc_w 0, .putfield 1200] [0] [] (wr h 251 0 (0 : Int32)) (fun h1 => [(0, .ref 251), (1, .int x1)]) (fun h1 => []) (fun h1 => h1) [kd 251 = 12] (by decide +kernel) rfl kd_251 hO (fun h1 hO => ?_)
  refine rb hG 6 5 8 [.iload 1, .ldc_w 0, .ldc_w 1] [0, 2] [] [(0, .ref 251), (1, .int x1)] [.int (2 : Int32), .int (0 : Int32), .int x1] h1 [] (by decide +kernel) rfl trivial ?_
  refine rt hG z_M_in 111 3 8 [.int x1, .int (0 : Int32), .int (2 : Int32)] [] (by decide +kernel) mk_M_in lk_12_111 rfl ⟨rfl, Nat.le_of_ble_eq_true rfl⟩ (c_M_in (d := d + 1) h1 x1 (0 : Int32) (2 : Int32) (ok_bind hO)) ?_
  rintro _ _ ⟨r2, rfl, rfl, hO⟩
  refine riN hG (5) 16 11 (by decide +kernel) (by decide) (fun c3 => ?_) (fun c3 => ?_)
  · have hO := ok_pos c3 hO
    refine rb hG 4 14 15 [.ldc_w 0] [0] [] [(0, .ref 251), (1, .int x1)] [.int (0 : Int32)] h1 [] (by decide +kernel) rfl trivial ?_
    exact eZ hG 15 (by decide +kernel) rfl (Or.inl rfl) ⟨(0 : Int32), rfl, ok_some (Q := P) hO⟩
  · have hO := ok_neg c3 hO
    refine rb hG 8 16 21 [.aload 0, .ldc_w 0, .iload 1, .ldc_w 1, .iadd] [0, 1] [] [(0, .ref 251), (1, .int x1)] [.int (x1 + (1 : Int32)), .int (0 : Int32), .ref 251] h1 [] (by decide +kernel) rfl trivial ?_
    refine rv hG z_M_copyAll 543 2 21 251 [.int (0 : Int32), .int (x1 + (1 : Int32))] [] (by decide +kernel) mk_M_copyAll lk_12_543 rcv_251 rfl ⟨rfl, Nat.le_of_ble_eq_true rfl⟩ (c_M_copyAll (d := d) h1 (0 : Int32) (x1 + (1 : Int32)) (ok_bind hO)) ?_
    rintro _ h4 ⟨rfl, hO⟩
    obtain ⟨g5, hO⟩ := ok_if hO
    refine rbx hG 8 24 31 [.aload 0, .invokeinterface 1260 29, .iload 1, .ldc_w 0, .castore] [1] [] (wr h4 280 (Int32.toNatClampNeg x1) (1 : Int32)) (fun h6 => [(0, .ref 251), (1, .int x1)]) (fun h6 => []) (fun h6 => h6) [kd 251 = 12, kd 280 = 22 ∧ inb x1 (ln 280) ∧ ((1 : Int32) = 0 ∨ (1 : Int32) = 1)] (by decide +kernel) rfl ⟨kd_251, ⟨kd_280, g5, Or.inr rfl⟩⟩ hO (fun h6 hO => ?_)
    refine rb hG 4 31 32 [.ldc_w 0] [1] [] [(0, .ref 251), (1, .int x1)] [.int (1 : Int32)] h6 [] (by decide +kernel) rfl trivial ?_
    exact eZ hG 32 (by decide +kernel) rfl (Or.inr rfl) ⟨(1 : Int32), rfl, ok_some (Q := P) hO⟩
/-! GrainInn.again(I)Z -/
noncomputable def K_again_j22 (h : Hp) : Option (Int32 × Hp) := some ((0 : Int32), h)
noncomputable def K_again (h : Hp) (x1 : Int32) : Option (Int32 × Hp) := if x1 < 0 then ((K_again_j22 h)) else (if (Int32.ofNat (ln 44)) ≤ x1 then ((K_again_j22 h)) else (if inb x1 (ln 45) then (if (h.1 45 (Int32.toNatClampNeg x1)) = 0 then ((K_again_j22 h)) else (if inb x1 (ln 44) then ((D_copyFrom h 2 (el 44 (Int32.toNatClampNeg x1))).bind fun h6 => some ((1 : Int32), h6)) else none)) else none))
set_option maxRecDepth 100000 in
set_option maxHeartbeats 4000000 in
theorem c_K_again {E : En} {d : Nat} (h : Hp) (x1 : Int32) {P : (Int32 × Hp) → Prop} (hO : Okk (K_again h x1) P) : Cn E (d + 5) z_K_again [.ref 1, .int x1] h (RI P) := by
  refine cn_of (on := 11) (d := d + 4) ⟨rfl, by decide +kernel, Nat.le_of_ble_eq_true rfl⟩ (fun G hG => ?_)
  unfold K_again at hO
  show G 0 [(0, .ref 1), (1, .int x1)] [] h
  have j22 : ∀ (h : Hp), Okk (K_again_j22 h) P → G 22 [] [] h := by
    intro h hO
    unfold K_again_j22 at hO
    refine rb hG 4 22 23 [.ldc_w 0] [0] [] [] [.int (0 : Int32)] h [] (by decide +kernel) rfl trivial ?_
    exact eZ hG 23 (by decide +kernel) rfl (Or.inl rfl) ⟨(0 : Int32), rfl, ok_some (Q := P) hO⟩
  refine rb hG 4 0 1 [.iload 1] [] [] [(0, .ref 1), (1, .int x1)] [.int x1] h [] (by decide +kernel) rfl trivial ?_
  refine ri hG .lt (21) 22 1 (by decide +kernel) (by decide) (fun c1 => ?_) (fun c1 => ?_)
  · have hO := ok_pos c1 hO
    refine rs hG [] [] rfl ?_
    exact j22 h hO
  · have hO := ok_neg c1 hO
    refine rb hG 7 4 10 [.iload 1, .aload 0, .invokeinterface 1101 43, .arraylength] [] [] [(0, .ref 1), (1, .int x1)] [.int (Int32.ofNat (ln 44)), .int x1] h [kd 1 = 11, 20 ≤ kd 44 ∧ kd 44 < 27] (by decide +kernel) rfl ⟨kd_1, (show 20 ≤ kd 44 ∧ kd 44 < 27 by decide +kernel)⟩ ?_
    refine rj hG .ge (12) 22 10 (by decide +kernel) (by decide) (fun c2 => ?_) (fun c2 => ?_)
    · have hO := ok_pos c2 hO
      refine rs hG [] [] rfl ?_
      exact j22 h hO
    · have hO := ok_neg c2 hO
      obtain ⟨g3, hO⟩ := ok_if hO
      refine rb hG 7 13 19 [.aload 0, .invokeinterface 1102 44, .iload 1, .baload] [] [] [(0, .ref 1), (1, .int x1)] [.int (h.1 45 (Int32.toNatClampNeg x1))] h [kd 1 = 11, (kd 45 = 21 ∨ kd 45 = 22) ∧ inb x1 (ln 45)] (by decide +kernel) rfl ⟨kd_1, ⟨Or.inr kd_45, g3⟩⟩ ?_
      refine riN hG (5) 24 19 (by decide +kernel) (by decide) (fun c4 => ?_) (fun c4 => ?_)
      · have hO := ok_pos c4 hO
        refine rs hG [] [] rfl ?_
        exact j22 h hO
      · have hO := ok_neg c4 hO
        obtain ⟨g5, hO⟩ := ok_if hO
        refine rb hG 9 24 34 [.aload 0, .invokeinterface 1100 1, .aload 0, .invokeinterface 1101 43, .iload 1, .aaload] [] [] [(0, .ref 1), (1, .int x1)] [.ref (el 44 (Int32.toNatClampNeg x1)), .ref 2] h [kd 1 = 11, kd 1 = 11, (kd 44 = 23 ∨ kd 44 = 24 ∨ kd 44 = 25 ∨ kd 44 = 26) ∧ inb x1 (ln 44)] (by decide +kernel) rfl ⟨kd_1, kd_1, ⟨Or.inr (Or.inr (Or.inr kd_44)), g5⟩⟩ ?_
        refine rv hG z_D_copyFrom 357 1 34 2 [.ref (el 44 (Int32.toNatClampNeg x1))] [] (by decide +kernel) mk_D_copyFrom lk_11_357 rcv_2 rfl ⟨rfl, Nat.le_of_ble_eq_true rfl⟩ (c_D_copyFrom (d := d) h 2 (el 44 (Int32.toNatClampNeg x1)) (ok_bind hO)) ?_
        rintro _ h6 ⟨rfl, hO⟩
        refine rb hG 4 37 38 [.ldc_w 0] [1] [] [(0, .ref 1), (1, .int x1)] [.int (1 : Int32)] h6 [] (by decide +kernel) rfl trivial ?_
        exact eZ hG 38 (by decide +kernel) rfl (Or.inr rfl) ⟨(1 : Int32), rfl, ok_some (Q := P) hO⟩
/-! GrainInnModel.again(I)Z -/
noncomputable def M_again_j23 (h : Hp) : Option (Int32 × Hp) := some ((0 : Int32), h)
noncomputable def M_again (h : Hp) (x1 : Int32) : Option (Int32 × Hp) := bnd (wr h 251 0 (0 : Int32)) fun h1 => (M_in x1 (0 : Int32) (2 : Int32)).bind fun r2 => if r2 = 0 then ((M_again_j23 h1)) else (if inb x1 (ln 280) then (if (h1.1 280 (Int32.toNatClampNeg x1)) = 0 then ((M_again_j23 h1)) else ((M_copyAll h1 (x1 + (1 : Int32)) (0 : Int32)).bind fun h6 => some ((1 : Int32), h6))) else none)
set_option maxRecDepth 100000 in
set_option maxHeartbeats 4000000 in
theorem c_M_again {E : En} {d : Nat} (h : Hp) (x1 : Int32) {P : (Int32 × Hp) → Prop} (hO : Okk (M_again h x1) P) : Cn E (d + 3) z_M_again [.ref 251, .int x1] h (RI P) := by
  refine cn_of (on := 12) (d := d + 2) ⟨rfl, by decide +kernel, Nat.le_of_ble_eq_true rfl⟩ (fun G hG => ?_)
  unfold M_again at hO
  show G 0 [(0, .ref 251), (1, .int x1)] [] h
  have j23 : ∀ (h : Hp), Okk (M_again_j23 h) P → G 23 [] [] h := by
    intro h hO
    unfold M_again_j23 at hO
    refine rb hG 4 23 24 [.ldc_w 0] [0] [] [] [.int (0 : Int32)] h [] (by decide +kernel) rfl trivial ?_
    exact eZ hG 24 (by decide +kernel) rfl (Or.inl rfl) ⟨(0 : Int32), rfl, ok_some (Q := P) hO⟩
  refine rbx hG 6 0 5 [.aload 0, .ldc_w 0, .putfield 1200] [0] [] (wr h 251 0 (0 : Int32)) (fun h1 => [(0, .ref 251), (1, .int x1)]) (fun h1 => []) (fun h1 => h1) [kd 251 = 12] (by decide +kernel) rfl kd_251 hO (fun h1 hO => ?_)
  refine rb hG 6 5 8 [.iload 1, .ldc_w 0, .ldc_w 1] [0, 2] [] [(0, .ref 251), (1, .int x1)] [.int (2 : Int32), .int (0 : Int32), .int x1] h1 [] (by decide +kernel) rfl trivial ?_
  refine rt hG z_M_in 111 3 8 [.int x1, .int (0 : Int32), .int (2 : Int32)] [] (by decide +kernel) mk_M_in lk_12_111 rfl ⟨rfl, Nat.le_of_ble_eq_true rfl⟩ (c_M_in (d := d + 1) h1 x1 (0 : Int32) (2 : Int32) (ok_bind hO)) ?_
  rintro _ _ ⟨r2, rfl, rfl, hO⟩
  refine ri hG .eq (12) 23 11 (by decide +kernel) (by decide) (fun c3 => ?_) (fun c3 => ?_)
  · have hO := ok_pos c3 hO
    refine rs hG [] [] rfl ?_
    exact j23 h1 hO
  · have hO := ok_neg c3 hO
    obtain ⟨g4, hO⟩ := ok_if hO
    refine rb hG 7 14 20 [.aload 0, .invokeinterface 1260 29, .iload 1, .baload] [] [] [(0, .ref 251), (1, .int x1)] [.int (h1.1 280 (Int32.toNatClampNeg x1))] h1 [kd 251 = 12, (kd 280 = 21 ∨ kd 280 = 22) ∧ inb x1 (ln 280)] (by decide +kernel) rfl ⟨kd_251, ⟨Or.inr kd_280, g4⟩⟩ ?_
    refine riN hG (5) 25 20 (by decide +kernel) (by decide) (fun c5 => ?_) (fun c5 => ?_)
    · have hO := ok_pos c5 hO
      refine rs hG [] [] rfl ?_
      exact j23 h1 hO
    · have hO := ok_neg c5 hO
      refine rb hG 8 25 30 [.aload 0, .iload 1, .ldc_w 0, .iadd, .ldc_w 1] [1, 0] [] [(0, .ref 251), (1, .int x1)] [.int (0 : Int32), .int (x1 + (1 : Int32)), .ref 251] h1 [] (by decide +kernel) rfl trivial ?_
      refine rv hG z_M_copyAll 543 2 30 251 [.int (x1 + (1 : Int32)), .int (0 : Int32)] [] (by decide +kernel) mk_M_copyAll lk_12_543 rcv_251 rfl ⟨rfl, Nat.le_of_ble_eq_true rfl⟩ (c_M_copyAll (d := d) h1 (x1 + (1 : Int32)) (0 : Int32) (ok_bind hO)) ?_
      rintro _ h6 ⟨rfl, hO⟩
      refine rb hG 4 33 34 [.ldc_w 0] [1] [] [(0, .ref 251), (1, .int x1)] [.int (1 : Int32)] h6 [] (by decide +kernel) rfl trivial ?_
      exact eZ hG 34 (by decide +kernel) rfl (Or.inr rfl) ⟨(1 : Int32), rfl, ok_some (Q := P) hO⟩
