/-! GrainInn.seats(IIIII)I -/
noncomputable def K_seats_j31 (h : Hp) : Option (Int32 × Hp) := some ((-1 : Int32), h)
noncomputable def K_seats_j54 (h : Hp) : Option (Int32 × Hp) := some ((-1 : Int32), h)
noncomputable def K_seats_j154 (s0 : Int32) (h : Hp) : Option (Int32 × Hp) := some (s0, h)
noncomputable def K_seats (h : Hp) (x1 : Int32) (x2 : Int32) (x3 : Int32) (x4 : Int32) (x5 : Int32) : Option (Int32 × Hp) := (K_reach h x1 x2 x3).bind fun (r1, h2) => (D_linesAt h2 2 (2 : Int32) x4).bind fun r3 => if r1 = 0 then ((K_seats_j31 h2)) else (if r3 = 0 then ((K_seats_j31 h2)) else (if r1 = 57 then ((S_seated h2).bind fun r7 => if r7 = 0 then (if kd (Int32.toNatClampNeg (h2.1 57 6)) = 1 then (if (h2.1 (Int32.toNatClampNeg (h2.1 57 6)) 6) ≤ (6 : Int32) then ((G_search h2 57 r3).bind fun h11 => if x5 = (2 : Int32) then (some ((h11.1 99 8), h11)) else (if (h11.1 99 8) = 0 then (some ((-1 : Int32), h11)) else (if x5 = 0 then (some ((h11.1 99 9), h11)) else (if x5 = (1 : Int32) then (some ((h11.1 99 10), h11)) else (if kd (Int32.toNatClampNeg (h11.1 57 6)) = 1 then ((K_isOf x5 (10 : Int32) (h11.1 (Int32.toNatClampNeg (h11.1 57 6)) 6)).bind fun r17 => if r17 = 0 then ((K_seats_j154 (-1 : Int32) h11)) else ((G_bestTableOf h11 (x5 - (10 : Int32))).bind fun r19 => (K_seats_j154 r19 h11))) else none))))) else ((K_seats_j54 h2))) else none) else ((K_seats_j54 h2))) else none))
set_option maxRecDepth 100000 in
set_option maxHeartbeats 4000000 in
theorem c_K_seats {E : En} {d : Nat} (h : Hp) (x1 : Int32) (x2 : Int32) (x3 : Int32) (x4 : Int32) (x5 : Int32) {P : (Int32 × Hp) → Prop} (hO : Okk (K_seats h x1 x2 x3 x4 x5) P) : Cn E (d + 15) z_K_seats [.ref 1, .int x1, .int x2, .int x3, .int x4, .int x5] h (RI P) := by
  refine cn_of (on := 11) (d := d + 14) ⟨rfl, by decide +kernel, Nat.le_of_ble_eq_true rfl⟩ (fun G hG => ?_)
  unfold K_seats at hO
  show G 0 [(0, .ref 1), (1, .int x1), (2, .int x2), (3, .int x3), (4, .int x4), (5, .int x5)] [] h
  have j31 : ∀ (h : Hp), Okk (K_seats_j31 h) P → G 31 [] [] h := by
    intro h hO
    unfold K_seats_j31 at hO
    refine rb hG 4 31 32 [.ldc_w 0] [-1] [] [] [.int (-1 : Int32)] h [] (by decide +kernel) rfl trivial ?_
    exact eI hG 32 (by decide +kernel) rfl ⟨(-1 : Int32), rfl, ok_some (Q := P) hO⟩
  have j54 : ∀ (h : Hp), Okk (K_seats_j54 h) P → G 54 [] [] h := by
    intro h hO
    unfold K_seats_j54 at hO
    refine rb hG 4 54 55 [.ldc_w 0] [-1] [] [] [.int (-1 : Int32)] h [] (by decide +kernel) rfl trivial ?_
    exact eI hG 55 (by decide +kernel) rfl ⟨(-1 : Int32), rfl, ok_some (Q := P) hO⟩
  have j154 : ∀ (s0 : Int32) (h : Hp), Okk (K_seats_j154 s0 h) P → G 154 [] [.int s0] h := by
    intro s0 h hO
    unfold K_seats_j154 at hO
    exact eI hG 154 (by decide +kernel) rfl ⟨s0, rfl, ok_some (Q := P) hO⟩
  refine rb hG 7 0 4 [.aload 0, .iload 1, .iload 2, .iload 3] [] [] [(0, .ref 1), (1, .int x1), (2, .int x2), (3, .int x3), (4, .int x4), (5, .int x5)] [.int x3, .int x2, .int x1, .ref 1] h [] (by decide +kernel) rfl trivial ?_
  refine rv hG z_K_reach 155 3 4 1 [.int x1, .int x2, .int x3] [] (by decide +kernel) mk_K_reach lk_11_155 rcv_1 rfl ⟨rfl, Nat.le_of_ble_eq_true rfl⟩ (c_K_reach (d := d + 7) h x1 x2 x3 (ok_bind hO)) ?_
  rintro _ h2 ⟨r1, rfl, hO⟩
  refine rb hG 8 7 16 [.astore 6, .aload 0, .invokeinterface 1100 1, .ldc_w 0, .iload 4] [2] [] [(6, .ref r1), (0, .ref 1), (1, .int x1), (2, .int x2), (3, .int x3), (4, .int x4), (5, .int x5)] [.int x4, .int (2 : Int32), .ref 2] h2 [kd 1 = 11] (by decide +kernel) rfl kd_1 ?_
  refine rv hG z_D_linesAt 138 2 16 2 [.int (2 : Int32), .int x4] [] (by decide +kernel) mk_D_linesAt lk_11_138 rcv_2 rfl ⟨rfl, Nat.le_of_ble_eq_true rfl⟩ (c_D_linesAt (d := d + 10) h2 2 (2 : Int32) x4 (ok_bind hO)) ?_
  rintro _ _ ⟨r3, rfl, rfl, hO⟩
  refine rb hG 5 19 23 [.astore 7, .aload 6] [] [] [(7, .ref r3), (6, .ref r1), (0, .ref 1), (1, .int x1), (2, .int x2), (3, .int x3), (4, .int x4), (5, .int x5)] [.ref r1] h2 [] (by decide +kernel) rfl trivial ?_
  refine rn hG (8) 31 23 (by decide +kernel) (by decide) (fun c4 => ?_) (fun c4 => ?_)
  · have hO := ok_pos c4 hO
    refine rs hG [] [] rfl ?_
    exact j31 h2 hO
  · have hO := ok_neg c4 hO
    refine rb hG 4 26 28 [.aload 7] [] [] [(7, .ref r3), (6, .ref r1), (0, .ref 1), (1, .int x1), (2, .int x2), (3, .int x3), (4, .int x4), (5, .int x5)] [.ref r3] h2 [] (by decide +kernel) rfl trivial ?_
    refine rnn hG (5) 33 28 (by decide +kernel) (by decide) (fun c5 => ?_) (fun c5 => ?_)
    · have hO := ok_pos c5 hO
      refine rs hG [] [] rfl ?_
      exact j31 h2 hO
    · have hO := ok_neg c5 hO
      obtain ⟨g6, hOg6⟩ := ok_if hO
      subst g6
      have hO := hOg6
      refine rb hG 4 33 35 [.aload 6] [] [] [(7, .ref r3), (6, .ref 57), (0, .ref 1), (1, .int x1), (2, .int x2), (3, .int x3), (4, .int x4), (5, .int x5)] [.ref 57] h2 [] (by decide +kernel) rfl trivial ?_
      refine rv hG z_S_seated 172 0 35 57 [] [] (by decide +kernel) mk_S_seated lk_11_172 rcv_57 rfl ⟨rfl, Nat.le_of_ble_eq_true rfl⟩ (c_S_seated (d := d + 13) h2 (ok_bind hO)) ?_
      rintro _ _ ⟨r7, rfl, rfl, hO⟩
      refine riN hG (16) 54 38 (by decide +kernel) (by decide) (fun c8 => ?_) (fun c8 => ?_)
      · have hO := ok_pos c8 hO
        obtain ⟨g9, hO⟩ := ok_if hO
        refine rb hG 7 41 51 [.aload 6, .instanceof 706, .getfield 106, .ldc_w 0] [6] [] [(7, .ref r3), (6, .ref 57), (0, .ref 1), (1, .int x1), (2, .int x2), (3, .int x3), (4, .int x4), (5, .int x5)] [.int (6 : Int32), .int (h2.1 (Int32.toNatClampNeg (h2.1 57 6)) 6)] h2 [kd 57 = 7, kd (Int32.toNatClampNeg (h2.1 57 6)) = 1] (by decide +kernel) rfl ⟨kd_57, g9⟩ ?_
        refine rj hG .le (5) 56 51 (by decide +kernel) (by decide) (fun c10 => ?_) (fun c10 => ?_)
        · have hO := ok_pos c10 hO
          refine rb hG 7 56 64 [.aload 0, .invokeinterface 1106 98, .aload 6, .aload 7] [] [] [(7, .ref r3), (6, .ref 57), (0, .ref 1), (1, .int x1), (2, .int x2), (3, .int x3), (4, .int x4), (5, .int x5)] [.ref r3, .ref 57, .ref 99] h2 [kd 1 = 11] (by decide +kernel) rfl kd_1 ?_
          refine rv hG z_G_search 229 2 64 99 [.ref 57, .ref r3] [] (by decide +kernel) mk_G_search lk_11_229 rcv_99 rfl ⟨rfl, Nat.le_of_ble_eq_true rfl⟩ (c_G_search (d := d) h2 57 r3 (ok_bind hO)) ?_
          rintro _ h11 ⟨rfl, hO⟩
          refine rb hG 5 67 70 [.iload 5, .ldc_w 0] [2] [] [(7, .ref r3), (6, .ref 57), (0, .ref 1), (1, .int x1), (2, .int x2), (3, .int x3), (4, .int x4), (5, .int x5)] [.int (2 : Int32), .int x5] h11 [] (by decide +kernel) rfl trivial ?_
          refine rjN hG (11) 81 70 (by decide +kernel) (by decide) (fun c12 => ?_) (fun c12 => ?_)
          · have hO := ok_pos c12 hO
            refine rb hG 6 73 80 [.aload 0, .invokeinterface 1106 98, .getfield 608] [] [] [(7, .ref r3), (6, .ref 57), (0, .ref 1), (1, .int x1), (2, .int x2), (3, .int x3), (4, .int x4), (5, .int x5)] [.int (h11.1 99 8)] h11 [kd 1 = 11, kd 99 = 6] (by decide +kernel) rfl ⟨kd_1, kd_99⟩ ?_
            exact eI hG 80 (by decide +kernel) rfl ⟨(h11.1 99 8), rfl, ok_some (Q := P) hO⟩
          · have hO := ok_neg c12 hO
            refine rb hG 6 81 88 [.aload 0, .invokeinterface 1106 98, .getfield 608] [] [] [(7, .ref r3), (6, .ref 57), (0, .ref 1), (1, .int x1), (2, .int x2), (3, .int x3), (4, .int x4), (5, .int x5)] [.int (h11.1 99 8)] h11 [kd 1 = 11, kd 99 = 6] (by decide +kernel) rfl ⟨kd_1, kd_99⟩ ?_
            refine riN hG (5) 93 88 (by decide +kernel) (by decide) (fun c13 => ?_) (fun c13 => ?_)
            · have hO := ok_pos c13 hO
              refine rb hG 4 91 92 [.ldc_w 0] [-1] [] [(7, .ref r3), (6, .ref 57), (0, .ref 1), (1, .int x1), (2, .int x2), (3, .int x3), (4, .int x4), (5, .int x5)] [.int (-1 : Int32)] h11 [] (by decide +kernel) rfl trivial ?_
              exact eI hG 92 (by decide +kernel) rfl ⟨(-1 : Int32), rfl, ok_some (Q := P) hO⟩
            · have hO := ok_neg c13 hO
              refine rb hG 4 93 95 [.iload 5] [] [] [(7, .ref r3), (6, .ref 57), (0, .ref 1), (1, .int x1), (2, .int x2), (3, .int x3), (4, .int x4), (5, .int x5)] [.int x5] h11 [] (by decide +kernel) rfl trivial ?_
              refine riN hG (11) 106 95 (by decide +kernel) (by decide) (fun c14 => ?_) (fun c14 => ?_)
              · have hO := ok_pos c14 hO
                refine rb hG 6 98 105 [.aload 0, .invokeinterface 1106 98, .getfield 609] [] [] [(7, .ref r3), (6, .ref 57), (0, .ref 1), (1, .int x1), (2, .int x2), (3, .int x3), (4, .int x4), (5, .int x5)] [.int (h11.1 99 9)] h11 [kd 1 = 11, kd 99 = 6] (by decide +kernel) rfl ⟨kd_1, kd_99⟩ ?_
                exact eI hG 105 (by decide +kernel) rfl ⟨(h11.1 99 9), rfl, ok_some (Q := P) hO⟩
              · have hO := ok_neg c14 hO
                refine rb hG 5 106 109 [.iload 5, .ldc_w 0] [1] [] [(7, .ref r3), (6, .ref 57), (0, .ref 1), (1, .int x1), (2, .int x2), (3, .int x3), (4, .int x4), (5, .int x5)] [.int (1 : Int32), .int x5] h11 [] (by decide +kernel) rfl trivial ?_
                refine rjN hG (11) 120 109 (by decide +kernel) (by decide) (fun c15 => ?_) (fun c15 => ?_)
                · have hO := ok_pos c15 hO
                  refine rb hG 6 112 119 [.aload 0, .invokeinterface 1106 98, .getfield 610] [] [] [(7, .ref r3), (6, .ref 57), (0, .ref 1), (1, .int x1), (2, .int x2), (3, .int x3), (4, .int x4), (5, .int x5)] [.int (h11.1 99 10)] h11 [kd 1 = 11, kd 99 = 6] (by decide +kernel) rfl ⟨kd_1, kd_99⟩ ?_
                  exact eI hG 119 (by decide +kernel) rfl ⟨(h11.1 99 10), rfl, ok_some (Q := P) hO⟩
                · have hO := ok_neg c15 hO
                  obtain ⟨g16, hO⟩ := ok_if hO
                  refine rb hG 8 120 132 [.iload 5, .ldc_w 0, .aload 6, .instanceof 706, .getfield 106] [10] [] [(7, .ref r3), (6, .ref 57), (0, .ref 1), (1, .int x1), (2, .int x2), (3, .int x3), (4, .int x4), (5, .int x5)] [.int (h11.1 (Int32.toNatClampNeg (h11.1 57 6)) 6), .int (10 : Int32), .int x5] h11 [kd 57 = 7, kd (Int32.toNatClampNeg (h11.1 57 6)) = 1] (by decide +kernel) rfl ⟨kd_57, g16⟩ ?_
                  refine rt hG z_K_isOf 119 3 132 [.int x5, .int (10 : Int32), .int (h11.1 (Int32.toNatClampNeg (h11.1 57 6)) 6)] [] (by decide +kernel) mk_K_isOf lk_11_119 rfl ⟨rfl, Nat.le_of_ble_eq_true rfl⟩ (c_K_isOf (d := d + 13) h11 x5 (10 : Int32) (h11.1 (Int32.toNatClampNeg (h11.1 57 6)) 6) (ok_bind hO)) ?_
                  rintro _ _ ⟨r17, rfl, rfl, hO⟩
                  refine ri hG .eq (18) 153 135 (by decide +kernel) (by decide) (fun c18 => ?_) (fun c18 => ?_)
                  · have hO := ok_pos c18 hO
                    refine rb hG 4 153 154 [.ldc_w 0] [-1] [] [(7, .ref r3), (6, .ref 57), (0, .ref 1), (1, .int x1), (2, .int x2), (3, .int x3), (4, .int x4), (5, .int x5)] [.int (-1 : Int32)] h11 [] (by decide +kernel) rfl trivial ?_
                    refine rs hG [] [] rfl ?_
                    exact j154 (-1 : Int32) h11 hO
                  · have hO := ok_neg c18 hO
                    refine rb hG 8 138 147 [.aload 0, .invokeinterface 1106 98, .iload 5, .ldc_w 0, .isub] [10] [] [(7, .ref r3), (6, .ref 57), (0, .ref 1), (1, .int x1), (2, .int x2), (3, .int x3), (4, .int x4), (5, .int x5)] [.int (x5 - (10 : Int32)), .ref 99] h11 [kd 1 = 11] (by decide +kernel) rfl kd_1 ?_
                    refine rv hG z_G_bestTableOf 242 1 147 99 [.int (x5 - (10 : Int32))] [] (by decide +kernel) mk_G_bestTableOf lk_11_242 rcv_99 rfl ⟨rfl, Nat.le_of_ble_eq_true rfl⟩ (c_G_bestTableOf (d := d + 11) h11 (x5 - (10 : Int32)) (ok_bind hO)) ?_
                    rintro _ _ ⟨r19, rfl, rfl, hO⟩
                    refine rb hG 4 150 154 [] [] [] [(7, .ref r3), (6, .ref 57), (0, .ref 1), (1, .int x1), (2, .int x2), (3, .int x3), (4, .int x4), (5, .int x5)] [.int r19] h11 [] (by decide +kernel) rfl trivial ?_
                    refine rs hG [] [] rfl ?_
                    exact j154 r19 h11 hO
        · have hO := ok_neg c10 hO
          refine rs hG [] [] rfl ?_
          exact j54 h2 hO
      · have hO := ok_neg c8 hO
        refine rs hG [] [] rfl ?_
        exact j54 h2 hO
/-! GrainInnModel.laySeats(I)Z -/
noncomputable def M_laySeats_j136 (x3 : Int32) (h : Hp) : Option (Int32 × Hp) := if x3 = 0 ∨ x3 = 1 then (some (x3, h)) else none
noncomputable def M_laySeats_j129 (x4 : Int32) (s0 : Int32) (h : Hp) : Option ((Int32 × Int32) ⊕ (Int32 × Hp)) := bnd ((x4 + (1 : Int32))) fun y2 => some (.inl (s0, y2))
noncomputable def M_laySeats_j128 (x4 : Int32) (h : Hp) : Option ((Int32 × Int32) ⊕ (Int32 × Hp)) := (M_laySeats_j129 x4 (0 : Int32) h)
noncomputable def M_laySeats_b91 (x3 : Int32) (x4 : Int32) (h : Hp) : Option ((Int32 × Int32) ⊕ (Int32 × Hp)) := if (h.1 251 24) ≤ x4 then (((M_laySeats_j136 x3 h).map Sum.inr)) else (if x3 = 0 then ((M_laySeats_j128 x4 h)) else (if inb x4 (ln 275) then ((M_ones (h.1 275 (Int32.toNatClampNeg x4))).bind fun r6 => (M_ofTable h x4 (0 : Int32)).bind fun r7 => if r7 < r6 then ((M_laySeats_j128 x4 h)) else ((M_laySeats_j129 x4 (1 : Int32) h))) else none))
noncomputable def M_laySeats_l91 (x3 : Int32) (x4 : Int32) (h : Hp) : Option (Int32 × Hp) := lp (fun s : (Int32 × Int32) => M_laySeats_b91 s.1 s.2 h) (x3, x4)
theorem M_laySeats_l91_eq (x3 : Int32) (x4 : Int32) (h : Hp) : M_laySeats_l91 x3 x4 h = (M_laySeats_b91 x3 x4 h).bind (Sum.elim (fun q : (Int32 × Int32) => M_laySeats_l91 q.1 q.2 h) some) := lp_eq _ _
noncomputable def M_laySeats_j88 (x3 : Int32) (h : Hp) : Option (Int32 × Hp) := (M_laySeats_l91 x3 (0 : Int32) h)
noncomputable def M_laySeats_b38 (x2 : Int32) (x3 : Int32) (x4 : Int32) (h : Hp) : Option ((Int32 × Int32 × Hp) ⊕ (Int32 × Hp)) := if x4 < 0 then (((M_laySeats_j88 x3 h).map Sum.inr)) else (if ¬ (h.1 251 24) = 0 then (if inb x4 (ln 274) then (bnd (wr h 274 (Int32.toNatClampNeg x4) (rm x2 (h.1 251 24))) fun h12 => if ¬ (h12.1 251 24) = 0 then (bnd ((x2 / (h12.1 251 24))) fun y14 => if inb x4 (ln 274) then (if inb (h12.1 274 (Int32.toNatClampNeg x4)) (ln 275) then (if inb (h12.1 274 (Int32.toNatClampNeg x4)) (ln 275) then (bnd (wr h12 275 (Int32.toNatClampNeg (h12.1 274 (Int32.toNatClampNeg x4))) ((h12.1 275 (Int32.toNatClampNeg (h12.1 274 (Int32.toNatClampNeg x4)))) ||| (sh (1 : Int32) x4))) fun h18 => bnd ((x4 + (-1 : Int32))) fun y19 => some (.inl (y14, y19, h18))) else none) else none) else none) else none) else none) else none)
noncomputable def M_laySeats_l38 (x2 : Int32) (x3 : Int32) (x4 : Int32) (h : Hp) : Option (Int32 × Hp) := lp (fun s : (Int32 × Int32 × Hp) => M_laySeats_b38 s.1 x3 s.2.1 s.2.2) (x2, x4, h)
theorem M_laySeats_l38_eq (x2 : Int32) (x3 : Int32) (x4 : Int32) (h : Hp) : M_laySeats_l38 x2 x3 x4 h = (M_laySeats_b38 x2 x3 x4 h).bind (Sum.elim (fun q : (Int32 × Int32 × Hp) => M_laySeats_l38 q.1 x3 q.2.1 q.2.2) some) := lp_eq _ _
noncomputable def M_laySeats_j30 (x2 : Int32) (x3 : Int32) (h : Hp) : Option (Int32 × Hp) := bnd (((h.1 251 25) - (1 : Int32))) fun y20 => (M_laySeats_l38 x2 x3 y20 h)
noncomputable def M_laySeats_b7 (x2 : Int32) (x3 : Int32) (x4 : Int32) (h : Hp) : Option ((Int32 × Hp) ⊕ (Int32 × Hp)) := if (h.1 251 24) ≤ x4 then (((M_laySeats_j30 x2 x3 h).map Sum.inr)) else (if inb x4 (ln 275) then (bnd (wr h 275 (Int32.toNatClampNeg x4) (0 : Int32)) fun h23 => bnd ((x4 + (1 : Int32))) fun y24 => some (.inl (y24, h23))) else none)
noncomputable def M_laySeats_l7 (x2 : Int32) (x3 : Int32) (x4 : Int32) (h : Hp) : Option (Int32 × Hp) := lp (fun s : (Int32 × Hp) => M_laySeats_b7 x2 x3 s.1 s.2) (x4, h)
theorem M_laySeats_l7_eq (x2 : Int32) (x3 : Int32) (x4 : Int32) (h : Hp) : M_laySeats_l7 x2 x3 x4 h = (M_laySeats_b7 x2 x3 x4 h).bind (Sum.elim (fun q : (Int32 × Hp) => M_laySeats_l7 x2 x3 q.1 q.2) some) := lp_eq _ _
noncomputable def M_laySeats (h : Hp) (x1 : Int32) : Option (Int32 × Hp) := (M_laySeats_l7 x1 (1 : Int32) (0 : Int32) h)
set_option maxRecDepth 100000 in
set_option maxHeartbeats 4000000 in
theorem c_M_laySeats {E : En} {d : Nat} (h : Hp) (x1 : Int32) {P : (Int32 × Hp) → Prop} (hO : Okk (M_laySeats h x1) P) : Cn E (d + 3) z_M_laySeats [.ref 251, .int x1] h (RI P) := by
  refine cn_of (on := 12) (d := d + 2) ⟨rfl, by decide +kernel, Nat.le_of_ble_eq_true rfl⟩ (fun G hG => ?_)
  unfold M_laySeats at hO
  show G 0 [(0, .ref 251), (1, .int x1)] [] h
  have j136 : ∀ (x3 : Int32) (h : Hp), Okk (M_laySeats_j136 x3 h) P → G 136 [(3, .int x3)] [] h := by
    intro x3 h hO
    unfold M_laySeats_j136 at hO
    refine rb hG 4 136 137 [.iload 3] [] [] [(3, .int x3)] [.int x3] h [] (by decide +kernel) rfl trivial ?_
    obtain ⟨g1, hO⟩ := ok_if hO
    exact eZ hG 137 (by decide +kernel) rfl g1 ⟨x3, rfl, ok_some (Q := P) hO⟩
  have l91 : ∀ (x3 : Int32) (x4 : Int32) (h : Hp), Okk (M_laySeats_l91 x3 x4 h) P → G 91 [(0, .ref 251), (3, .int x3), (4, .int x4)] [] h := by
    intro x3 x4 h hO
    obtain ⟨H91, eH91⟩ : ∃ q : (Int32 × Int32) → Prop, q = fun s => G 91 [(0, .ref 251), (3, .int (s.1)), (4, .int (s.2))] [] (h) := ⟨_, rfl⟩
    have w9 : H91 (x3, x4) := by
      refine lp_wp (f := fun s : (Int32 × Int32) => M_laySeats_b91 s.1 s.2 h) (H := H91) (Q := P) ?_ (x3, x4) hO
      rintro ⟨x3, x4⟩ hO
      rw [eH91]
      show G 91 [(0, .ref 251), (3, .int x3), (4, .int x4)] [] h
      have k91 : ∀ s : (Int32 × Int32), H91 s → G 91 [(0, .ref 251), (3, .int (s.1)), (4, .int (s.2))] [] (h) := fun s q => by rw [eH91] at q; exact q
      replace hO : Okk (M_laySeats_b91 x3 x4 h) (Sum.elim H91 P) := hO
      clear eH91
      have j129 : ∀ (x4 : Int32) (s0 : Int32), Okk (M_laySeats_j129 x4 s0 h) (Sum.elim H91 P) → G 129 [(0, .ref 251), (4, .int x4)] [.int s0] h := by
        intro x4 s0 hO
        unfold M_laySeats_j129 at hO
        refine rbx hG 5 129 133 [.istore 3, .iinc 4 0] [1] [] ((x4 + (1 : Int32))) (fun y2 => [(4, .int y2), (3, .int s0), (0, .ref 251)]) (fun y2 => []) (fun y2 => h) [] (by decide +kernel) rfl trivial hO (fun y2 hO => ?_)
        refine rb hG 4 133 91 [] [] [] [(4, .int y2), (3, .int s0), (0, .ref 251)] [] h [] (by decide +kernel) rfl trivial ?_
        refine rs hG [(0, .ref 251), (3, .int s0), (4, .int y2)] [2, 1, 0] rfl ?_
        exact k91 (s0, y2) (ok_some (Q := (Sum.elim H91 P)) hO)
      have j128 : ∀ (x4 : Int32), Okk (M_laySeats_j128 x4 h) (Sum.elim H91 P) → G 128 [(0, .ref 251), (4, .int x4)] [] h := by
        intro x4 hO
        unfold M_laySeats_j128 at hO
        refine rb hG 4 128 129 [.ldc_w 0] [0] [] [(0, .ref 251), (4, .int x4)] [.int (0 : Int32)] h [] (by decide +kernel) rfl trivial ?_
        exact j129 x4 (0 : Int32) hO
      unfold M_laySeats_b91 at hO
      refine rb hG 6 91 97 [.iload 4, .aload 0, .getfield 1224] [] [] [(0, .ref 251), (3, .int x3), (4, .int x4)] [.int (h.1 251 24), .int x4] h [kd 251 = 12] (by decide +kernel) rfl kd_251 ?_
      refine rj hG .ge (39) 136 97 (by decide +kernel) (by decide) (fun c3 => ?_) (fun c3 => ?_)
      · have hO := ok_pos c3 hO
        refine rs hG [(3, .int x3)] [1] rfl ?_
        exact j136 x3 h (ok_inr hO)
      · have hO := ok_neg c3 hO
        refine rb hG 4 100 101 [.iload 3] [] [] [(0, .ref 251), (3, .int x3), (4, .int x4)] [.int x3] h [] (by decide +kernel) rfl trivial ?_
        refine ri hG .eq (27) 128 101 (by decide +kernel) (by decide) (fun c4 => ?_) (fun c4 => ?_)
        · have hO := ok_pos c4 hO
          refine rs hG [(0, .ref 251), (4, .int x4)] [0, 2] rfl ?_
          exact j128 x4 hO
        · have hO := ok_neg c4 hO
          obtain ⟨g5, hO⟩ := ok_if hO
          refine rb hG 7 104 111 [.aload 0, .invokeinterface 1245 24, .iload 4, .iaload] [] [] [(0, .ref 251), (3, .int x3), (4, .int x4)] [.int (h.1 275 (Int32.toNatClampNeg x4))] h [kd 251 = 12, kd 275 = 20 ∧ inb x4 (ln 275)] (by decide +kernel) rfl ⟨kd_251, ⟨kd_275, g5⟩⟩ ?_
          refine rt hG z_M_ones 347 1 111 [.int (h.1 275 (Int32.toNatClampNeg x4))] [] (by decide +kernel) mk_M_ones lk_12_347 rfl ⟨rfl, Nat.le_of_ble_eq_true rfl⟩ (c_M_ones (d := d) h (h.1 275 (Int32.toNatClampNeg x4)) (ok_bind hO)) ?_
          rintro _ _ ⟨r6, rfl, rfl, hO⟩
          refine rb hG 6 114 118 [.aload 0, .iload 4, .ldc_w 0] [0] [] [(0, .ref 251), (3, .int x3), (4, .int x4)] [.int (0 : Int32), .int x4, .ref 251, .int r6] h [] (by decide +kernel) rfl trivial ?_
          refine rv hG z_M_ofTable 283 2 118 251 [.int x4, .int (0 : Int32)] [.int r6] (by decide +kernel) mk_M_ofTable lk_12_283 rcv_251 rfl ⟨rfl, Nat.le_of_ble_eq_true rfl⟩ (c_M_ofTable (d := d) h x4 (0 : Int32) (ok_bind hO)) ?_
          rintro _ _ ⟨r7, rfl, rfl, hO⟩
          refine rj hG .gt (7) 128 121 (by decide +kernel) (by decide) (fun c8 => ?_) (fun c8 => ?_)
          · have hO := ok_pos c8 hO
            refine rs hG [(0, .ref 251), (4, .int x4)] [0, 2] rfl ?_
            exact j128 x4 hO
          · have hO := ok_neg c8 hO
            refine rb hG 5 124 129 [.ldc_w 0] [1] [] [(0, .ref 251), (3, .int x3), (4, .int x4)] [.int (1 : Int32)] h [] (by decide +kernel) rfl trivial ?_
            refine rs hG [(0, .ref 251), (4, .int x4)] [0, 2] rfl ?_
            exact j129 x4 (1 : Int32) hO
    rw [eH91] at w9
    exact w9
  have j88 : ∀ (x3 : Int32) (h : Hp), Okk (M_laySeats_j88 x3 h) P → G 88 [(0, .ref 251), (3, .int x3)] [] h := by
    intro x3 h hO
    unfold M_laySeats_j88 at hO
    refine rb hG 5 88 91 [.ldc_w 0, .istore 4] [0] [] [(4, .int (0 : Int32)), (0, .ref 251), (3, .int x3)] [] h [] (by decide +kernel) rfl trivial ?_
    refine rs hG [(0, .ref 251), (3, .int x3), (4, .int (0 : Int32))] [1, 2, 0] rfl ?_
    exact l91 x3 (0 : Int32) h hO
  have l38 : ∀ (x2 : Int32) (x3 : Int32) (x4 : Int32) (h : Hp), Okk (M_laySeats_l38 x2 x3 x4 h) P → G 38 [(0, .ref 251), (2, .int x2), (3, .int x3), (4, .int x4)] [] h := by
    intro x2 x3 x4 h hO
    obtain ⟨H38, eH38⟩ : ∃ q : (Int32 × Int32 × Hp) → Prop, q = fun s => G 38 [(0, .ref 251), (2, .int (s.1)), (3, .int x3), (4, .int (s.2.1))] [] (s.2.2) := ⟨_, rfl⟩
    have w9 : H38 (x2, x4, h) := by
      refine lp_wp (f := fun s : (Int32 × Int32 × Hp) => M_laySeats_b38 s.1 x3 s.2.1 s.2.2) (H := H38) (Q := P) ?_ (x2, x4, h) hO
      rintro ⟨x2, x4, h⟩ hO
      rw [eH38]
      show G 38 [(0, .ref 251), (2, .int x2), (3, .int x3), (4, .int x4)] [] h
      have k38 : ∀ s : (Int32 × Int32 × Hp), H38 s → G 38 [(0, .ref 251), (2, .int (s.1)), (3, .int x3), (4, .int (s.2.1))] [] (s.2.2) := fun s q => by rw [eH38] at q; exact q
      replace hO : Okk (M_laySeats_b38 x2 x3 x4 h) (Sum.elim H38 P) := hO
      clear eH38
      unfold M_laySeats_b38 at hO
      refine rb hG 4 38 40 [.iload 4] [] [] [(0, .ref 251), (2, .int x2), (3, .int x3), (4, .int x4)] [.int x4] h [] (by decide +kernel) rfl trivial ?_
      refine ri hG .lt (48) 88 40 (by decide +kernel) (by decide) (fun c9 => ?_) (fun c9 => ?_)
      · have hO := ok_pos c9 hO
        refine rs hG [(0, .ref 251), (3, .int x3)] [0, 2] rfl ?_
        exact j88 x3 h (ok_inr hO)
      · have hO := ok_neg c9 hO
        obtain ⟨g10, hO⟩ := ok_if hO
        obtain ⟨g11, hO⟩ := ok_if hO
        refine rbx hG 11 43 56 [.aload 0, .invokeinterface 1244 23, .iload 4, .iload 2, .aload 0, .getfield 1224, .irem, .iastore] [] [] (wr h 274 (Int32.toNatClampNeg x4) (rm x2 (h.1 251 24))) (fun h12 => [(0, .ref 251), (2, .int x2), (3, .int x3), (4, .int x4)]) (fun h12 => []) (fun h12 => h12) [kd 251 = 12, kd 251 = 12, ¬ (h.1 251 24) = 0, kd 274 = 20 ∧ inb x4 (ln 274)] (by decide +kernel) rfl ⟨kd_251, kd_251, g10, ⟨kd_274, g11⟩⟩ hO (fun h12 hO => ?_)
        obtain ⟨g13, hO⟩ := ok_if hO
        refine rbx hG 8 56 63 [.iload 2, .aload 0, .getfield 1224, .idiv, .istore 2] [] [] ((x2 / (h12.1 251 24))) (fun y14 => [(2, .int y14), (0, .ref 251), (3, .int x3), (4, .int x4)]) (fun y14 => []) (fun y14 => h12) [kd 251 = 12, ¬ (h12.1 251 24) = 0] (by decide +kernel) rfl ⟨kd_251, g13⟩ hO (fun y14 hO => ?_)
        obtain ⟨g15, hO⟩ := ok_if hO
        obtain ⟨g16, hO⟩ := ok_if hO
        obtain ⟨g17, hO⟩ := ok_if hO
        refine rbx hG 16 63 82 [.aload 0, .invokeinterface 1245 24, .aload 0, .invokeinterface 1244 23, .iload 4, .iaload, .dup2, .iaload, .ldc_w 0, .iload 4, .ishl, .ior, .iastore] [1] [] (wr h12 275 (Int32.toNatClampNeg (h12.1 274 (Int32.toNatClampNeg x4))) ((h12.1 275 (Int32.toNatClampNeg (h12.1 274 (Int32.toNatClampNeg x4)))) ||| (sh (1 : Int32) x4))) (fun h18 => [(2, .int y14), (0, .ref 251), (3, .int x3), (4, .int x4)]) (fun h18 => []) (fun h18 => h18) [kd 251 = 12, kd 251 = 12, kd 274 = 20 ∧ inb x4 (ln 274), kd 275 = 20 ∧ inb (h12.1 274 (Int32.toNatClampNeg x4)) (ln 275), kd 275 = 20 ∧ inb (h12.1 274 (Int32.toNatClampNeg x4)) (ln 275)] (by decide +kernel) rfl ⟨kd_251, kd_251, ⟨kd_274, g15⟩, ⟨kd_275, g16⟩, ⟨kd_275, g17⟩⟩ hO (fun h18 hO => ?_)
        refine rbx hG 4 82 85 [.iinc 4 0] [-1] [] ((x4 + (-1 : Int32))) (fun y19 => [(4, .int y19), (2, .int y14), (0, .ref 251), (3, .int x3)]) (fun y19 => []) (fun y19 => h18) [] (by decide +kernel) rfl trivial hO (fun y19 hO => ?_)
        refine rb hG 4 85 38 [] [] [] [(4, .int y19), (2, .int y14), (0, .ref 251), (3, .int x3)] [] h18 [] (by decide +kernel) rfl trivial ?_
        refine rs hG [(0, .ref 251), (2, .int y14), (3, .int x3), (4, .int y19)] [2, 1, 3, 0] rfl ?_
        exact k38 (y14, y19, h18) (ok_some (Q := (Sum.elim H38 P)) hO)
    rw [eH38] at w9
    exact w9
  have j30 : ∀ (x2 : Int32) (x3 : Int32) (h : Hp), Okk (M_laySeats_j30 x2 x3 h) P → G 30 [(0, .ref 251), (2, .int x2), (3, .int x3)] [] h := by
    intro x2 x3 h hO
    unfold M_laySeats_j30 at hO
    refine rbx hG 8 30 38 [.aload 0, .getfield 1225, .ldc_w 0, .isub, .istore 4] [1] [] (((h.1 251 25) - (1 : Int32))) (fun y20 => [(4, .int y20), (0, .ref 251), (2, .int x2), (3, .int x3)]) (fun y20 => []) (fun y20 => h) [kd 251 = 12] (by decide +kernel) rfl kd_251 hO (fun y20 hO => ?_)
    refine rs hG [(0, .ref 251), (2, .int x2), (3, .int x3), (4, .int y20)] [1, 2, 3, 0] rfl ?_
    exact l38 x2 x3 y20 h hO
  have l7 : ∀ (x2 : Int32) (x3 : Int32) (x4 : Int32) (h : Hp), Okk (M_laySeats_l7 x2 x3 x4 h) P → G 7 [(0, .ref 251), (2, .int x2), (3, .int x3), (4, .int x4)] [] h := by
    intro x2 x3 x4 h hO
    obtain ⟨H7, eH7⟩ : ∃ q : (Int32 × Hp) → Prop, q = fun s => G 7 [(0, .ref 251), (2, .int x2), (3, .int x3), (4, .int (s.1))] [] (s.2) := ⟨_, rfl⟩
    have w9 : H7 (x4, h) := by
      refine lp_wp (f := fun s : (Int32 × Hp) => M_laySeats_b7 x2 x3 s.1 s.2) (H := H7) (Q := P) ?_ (x4, h) hO
      rintro ⟨x4, h⟩ hO
      rw [eH7]
      show G 7 [(0, .ref 251), (2, .int x2), (3, .int x3), (4, .int x4)] [] h
      have k7 : ∀ s : (Int32 × Hp), H7 s → G 7 [(0, .ref 251), (2, .int x2), (3, .int x3), (4, .int (s.1))] [] (s.2) := fun s q => by rw [eH7] at q; exact q
      replace hO : Okk (M_laySeats_b7 x2 x3 x4 h) (Sum.elim H7 P) := hO
      clear eH7
      unfold M_laySeats_b7 at hO
      refine rb hG 6 7 13 [.iload 4, .aload 0, .getfield 1224] [] [] [(0, .ref 251), (2, .int x2), (3, .int x3), (4, .int x4)] [.int (h.1 251 24), .int x4] h [kd 251 = 12] (by decide +kernel) rfl kd_251 ?_
      refine rj hG .ge (17) 30 13 (by decide +kernel) (by decide) (fun c21 => ?_) (fun c21 => ?_)
      · have hO := ok_pos c21 hO
        refine rs hG [(0, .ref 251), (2, .int x2), (3, .int x3)] [0, 1, 2] rfl ?_
        exact j30 x2 x3 h (ok_inr hO)
      · have hO := ok_neg c21 hO
        obtain ⟨g22, hO⟩ := ok_if hO
        refine rbx hG 8 16 24 [.aload 0, .invokeinterface 1245 24, .iload 4, .ldc_w 0, .iastore] [0] [] (wr h 275 (Int32.toNatClampNeg x4) (0 : Int32)) (fun h23 => [(0, .ref 251), (2, .int x2), (3, .int x3), (4, .int x4)]) (fun h23 => []) (fun h23 => h23) [kd 251 = 12, kd 275 = 20 ∧ inb x4 (ln 275)] (by decide +kernel) rfl ⟨kd_251, ⟨kd_275, g22⟩⟩ hO (fun h23 hO => ?_)
        refine rbx hG 4 24 27 [.iinc 4 0] [1] [] ((x4 + (1 : Int32))) (fun y24 => [(4, .int y24), (0, .ref 251), (2, .int x2), (3, .int x3)]) (fun y24 => []) (fun y24 => h23) [] (by decide +kernel) rfl trivial hO (fun y24 hO => ?_)
        refine rb hG 4 27 7 [] [] [] [(4, .int y24), (0, .ref 251), (2, .int x2), (3, .int x3)] [] h23 [] (by decide +kernel) rfl trivial ?_
        refine rs hG [(0, .ref 251), (2, .int x2), (3, .int x3), (4, .int y24)] [1, 2, 3, 0] rfl ?_
        exact k7 (y24, h23) (ok_some (Q := (Sum.elim H7 P)) hO)
    rw [eH7] at w9
    exact w9
  refine rb hG 9 0 7 [.iload 1, .istore 2, .ldc_w 0, .istore 3, .ldc_w 1, .istore 4] [1, 0] [] [(4, .int (0 : Int32)), (3, .int (1 : Int32)), (2, .int x1), (0, .ref 251), (1, .int x1)] [] h [] (by decide +kernel) rfl trivial ?_
  refine rs hG [(0, .ref 251), (2, .int x1), (3, .int (1 : Int32)), (4, .int (0 : Int32))] [3, 2, 1, 0] rfl ?_
  exact l7 x1 (1 : Int32) (0 : Int32) h hO
/-! GrainInnModel.isFulfilled(I)Z -/
noncomputable def M_isFulfilled_j44 (h : Hp) : Option Int32 := some (0 : Int32)
noncomputable def M_isFulfilled_j162 (s0 : Int32) (h : Hp) : Option Int32 := if s0 = 0 ∨ s0 = 1 then (some s0) else none
noncomputable def M_isFulfilled_j154 (s0 : Int32) (s1 : Int32) (h : Hp) : Option Int32 := if s0 = s1 then ((M_isFulfilled_j162 (1 : Int32) h)) else ((M_isFulfilled_j162 (0 : Int32) h))
noncomputable def M_isFulfilled_j140 (x4 : Int32) (s0 : Int32) (h : Hp) : Option Int32 := if x4 = 0 then ((M_isFulfilled_j154 s0 (1 : Int32) h)) else ((M_isFulfilled_j154 s0 (0 : Int32) h))
noncomputable def M_isFulfilled_j139 (x4 : Int32) (h : Hp) : Option Int32 := (M_isFulfilled_j140 x4 (0 : Int32) h)
noncomputable def M_isFulfilled_j91 (s0 : Int32) (h : Hp) : Option Int32 := if s0 = 0 ∨ s0 = 1 then (some s0) else none
noncomputable def M_isFulfilled_j83 (s0 : Int32) (s1 : Int32) (h : Hp) : Option Int32 := if s0 = s1 then ((M_isFulfilled_j91 (1 : Int32) h)) else ((M_isFulfilled_j91 (0 : Int32) h))
noncomputable def M_isFulfilled_j72 (x4 : Int32) (s0 : Int32) (h : Hp) : Option Int32 := if x4 = (3 : Int32) then ((M_isFulfilled_j83 s0 (1 : Int32) h)) else ((M_isFulfilled_j83 s0 (0 : Int32) h))
noncomputable def M_isFulfilled_j46 (x2 : Int32) (x3 : Int32) (x4 : Int32) (h : Hp) : Option Int32 := if x4 < (2 : Int32) then (if inb x2 (ln 274) then (bnd ((h.1 274 (Int32.toNatClampNeg x2))) fun y9 => if inb y9 (ln 266) then (if (h.1 266 (Int32.toNatClampNeg y9)) ≤ 0 then ((M_isFulfilled_j139 x4 h)) else (if inb y9 (ln 267) then (if inb (((16 : Int32) * y9) + (h.1 267 (Int32.toNatClampNeg y9))) (ln 264) then ((M_has (h.1 264 (Int32.toNatClampNeg (((16 : Int32) * y9) + (h.1 267 (Int32.toNatClampNeg y9))))) x3).bind fun r14 => if r14 = 0 then ((M_isFulfilled_j139 x4 h)) else ((M_isFulfilled_j140 x4 (1 : Int32) h))) else none) else none)) else none) else none) else (if inb x2 (ln 274) then (if inb x3 (ln 274) then (if (h.1 274 (Int32.toNatClampNeg x2)) = (h.1 274 (Int32.toNatClampNeg x3)) then ((M_isFulfilled_j72 x4 (1 : Int32) h)) else ((M_isFulfilled_j72 x4 (0 : Int32) h))) else none) else none)
noncomputable def M_isFulfilled (h : Hp) (x1 : Int32) : Option Int32 := (M_wishOf h x1 (1 : Int32)).bind fun r19 => (M_wishOf h x1 (2 : Int32)).bind fun r20 => (M_wishOf h x1 (0 : Int32)).bind fun r21 => (M_isGuest h r19).bind fun r22 => if r22 = 0 then ((M_isFulfilled_j44 h)) else (if r21 < (2 : Int32) then ((M_isFulfilled_j46 r19 r20 r21 h)) else ((M_isGuest h r20).bind fun r25 => if r25 = 0 then ((M_isFulfilled_j44 h)) else ((M_isFulfilled_j46 r19 r20 r21 h))))
set_option maxRecDepth 100000 in
set_option maxHeartbeats 4000000 in
theorem c_M_isFulfilled {E : En} {d : Nat} (h : Hp) (x1 : Int32) {P : Int32 → Prop} (hO : Okk (M_isFulfilled h x1) P) : Cn E (d + 3) z_M_isFulfilled [.ref 251, .int x1] h (RIp h P) := by
  refine cn_of (on := 12) (d := d + 2) ⟨rfl, by decide +kernel, Nat.le_of_ble_eq_true rfl⟩ (fun G hG => ?_)
  unfold M_isFulfilled at hO
  show G 0 [(0, .ref 251), (1, .int x1)] [] h
  have j44 : Okk (M_isFulfilled_j44 h) P → G 44 [] [] h := by
    intro hO
    unfold M_isFulfilled_j44 at hO
    refine rb hG 4 44 45 [.ldc_w 0] [0] [] [] [.int (0 : Int32)] h [] (by decide +kernel) rfl trivial ?_
    exact eZ hG 45 (by decide +kernel) rfl (Or.inl rfl) ⟨(0 : Int32), rfl, rfl, ok_some (Q := P) hO⟩
  have j162 : ∀ (s0 : Int32), Okk (M_isFulfilled_j162 s0 h) P → G 162 [] [.int s0] h := by
    intro s0 hO
    unfold M_isFulfilled_j162 at hO
    obtain ⟨g1, hO⟩ := ok_if hO
    exact eZ hG 162 (by decide +kernel) rfl g1 ⟨s0, rfl, rfl, ok_some (Q := P) hO⟩
  have j154 : ∀ (s0 : Int32) (s1 : Int32), Okk (M_isFulfilled_j154 s0 s1 h) P → G 154 [] [.int s1, .int s0] h := by
    intro s0 s1 hO
    unfold M_isFulfilled_j154 at hO
    refine rjN hG (7) 161 154 (by decide +kernel) (by decide) (fun c2 => ?_) (fun c2 => ?_)
    · have hO := ok_pos c2 hO
      refine rb hG 5 157 162 [.ldc_w 0] [1] [] [] [.int (1 : Int32)] h [] (by decide +kernel) rfl trivial ?_
      exact j162 (1 : Int32) hO
    · have hO := ok_neg c2 hO
      refine rb hG 4 161 162 [.ldc_w 0] [0] [] [] [.int (0 : Int32)] h [] (by decide +kernel) rfl trivial ?_
      exact j162 (0 : Int32) hO
  have j140 : ∀ (x4 : Int32) (s0 : Int32), Okk (M_isFulfilled_j140 x4 s0 h) P → G 140 [(4, .int x4)] [.int s0] h := by
    intro x4 s0 hO
    unfold M_isFulfilled_j140 at hO
    refine rb hG 6 140 146 [.istore 6, .iload 6, .iload 4] [] [] [(6, .int s0), (4, .int x4)] [.int x4, .int s0] h [] (by decide +kernel) rfl trivial ?_
    refine riN hG (7) 153 146 (by decide +kernel) (by decide) (fun c3 => ?_) (fun c3 => ?_)
    · have hO := ok_pos c3 hO
      refine rb hG 5 149 154 [.ldc_w 0] [1] [] [(6, .int s0), (4, .int x4)] [.int (1 : Int32), .int s0] h [] (by decide +kernel) rfl trivial ?_
      refine rs hG [] [] rfl ?_
      exact j154 s0 (1 : Int32) hO
    · have hO := ok_neg c3 hO
      refine rb hG 4 153 154 [.ldc_w 0] [0] [] [(6, .int s0), (4, .int x4)] [.int (0 : Int32), .int s0] h [] (by decide +kernel) rfl trivial ?_
      refine rs hG [] [] rfl ?_
      exact j154 s0 (0 : Int32) hO
  have j139 : ∀ (x4 : Int32), Okk (M_isFulfilled_j139 x4 h) P → G 139 [(4, .int x4)] [] h := by
    intro x4 hO
    unfold M_isFulfilled_j139 at hO
    refine rb hG 4 139 140 [.ldc_w 0] [0] [] [(4, .int x4)] [.int (0 : Int32)] h [] (by decide +kernel) rfl trivial ?_
    exact j140 x4 (0 : Int32) hO
  have j91 : ∀ (s0 : Int32), Okk (M_isFulfilled_j91 s0 h) P → G 91 [] [.int s0] h := by
    intro s0 hO
    unfold M_isFulfilled_j91 at hO
    obtain ⟨g4, hO⟩ := ok_if hO
    exact eZ hG 91 (by decide +kernel) rfl g4 ⟨s0, rfl, rfl, ok_some (Q := P) hO⟩
  have j83 : ∀ (s0 : Int32) (s1 : Int32), Okk (M_isFulfilled_j83 s0 s1 h) P → G 83 [] [.int s1, .int s0] h := by
    intro s0 s1 hO
    unfold M_isFulfilled_j83 at hO
    refine rjN hG (7) 90 83 (by decide +kernel) (by decide) (fun c5 => ?_) (fun c5 => ?_)
    · have hO := ok_pos c5 hO
      refine rb hG 5 86 91 [.ldc_w 0] [1] [] [] [.int (1 : Int32)] h [] (by decide +kernel) rfl trivial ?_
      exact j91 (1 : Int32) hO
    · have hO := ok_neg c5 hO
      refine rb hG 4 90 91 [.ldc_w 0] [0] [] [] [.int (0 : Int32)] h [] (by decide +kernel) rfl trivial ?_
      exact j91 (0 : Int32) hO
  have j72 : ∀ (x4 : Int32) (s0 : Int32), Okk (M_isFulfilled_j72 x4 s0 h) P → G 72 [(4, .int x4)] [.int s0] h := by
    intro x4 s0 hO
    unfold M_isFulfilled_j72 at hO
    refine rb hG 5 72 75 [.iload 4, .ldc_w 0] [3] [] [(4, .int x4)] [.int (3 : Int32), .int x4, .int s0] h [] (by decide +kernel) rfl trivial ?_
    refine rjN hG (7) 82 75 (by decide +kernel) (by decide) (fun c6 => ?_) (fun c6 => ?_)
    · have hO := ok_pos c6 hO
      refine rb hG 5 78 83 [.ldc_w 0] [1] [] [(4, .int x4)] [.int (1 : Int32), .int s0] h [] (by decide +kernel) rfl trivial ?_
      refine rs hG [] [] rfl ?_
      exact j83 s0 (1 : Int32) hO
    · have hO := ok_neg c6 hO
      refine rb hG 4 82 83 [.ldc_w 0] [0] [] [(4, .int x4)] [.int (0 : Int32), .int s0] h [] (by decide +kernel) rfl trivial ?_
      refine rs hG [] [] rfl ?_
      exact j83 s0 (0 : Int32) hO
  have j46 : ∀ (x2 : Int32) (x3 : Int32) (x4 : Int32), Okk (M_isFulfilled_j46 x2 x3 x4 h) P → G 46 [(0, .ref 251), (2, .int x2), (3, .int x3), (4, .int x4)] [] h := by
    intro x2 x3 x4 hO
    unfold M_isFulfilled_j46 at hO
    refine rb hG 5 46 49 [.iload 4, .ldc_w 0] [2] [] [(0, .ref 251), (2, .int x2), (3, .int x3), (4, .int x4)] [.int (2 : Int32), .int x4] h [] (by decide +kernel) rfl trivial ?_
    refine rj hG .lt (43) 92 49 (by decide +kernel) (by decide) (fun c7 => ?_) (fun c7 => ?_)
    · have hO := ok_pos c7 hO
      obtain ⟨g8, hO⟩ := ok_if hO
      refine rbx hG 8 92 100 [.aload 0, .invokeinterface 1244 23, .iload 2, .iaload, .istore 5] [] [] ((h.1 274 (Int32.toNatClampNeg x2))) (fun y9 => [(5, .int y9), (0, .ref 251), (2, .int x2), (3, .int x3), (4, .int x4)]) (fun y9 => []) (fun y9 => h) [kd 251 = 12, kd 274 = 20 ∧ inb x2 (ln 274)] (by decide +kernel) rfl ⟨kd_251, ⟨kd_274, g8⟩⟩ hO (fun y9 hO => ?_)
      obtain ⟨g10, hO⟩ := ok_if hO
      refine rb hG 7 100 107 [.aload 0, .invokeinterface 1230 15, .iload 5, .iaload] [] [] [(5, .int y9), (0, .ref 251), (2, .int x2), (3, .int x3), (4, .int x4)] [.int (h.1 266 (Int32.toNatClampNeg y9))] h [kd 251 = 12, kd 266 = 20 ∧ inb y9 (ln 266)] (by decide +kernel) rfl ⟨kd_251, ⟨kd_266, g10⟩⟩ ?_
      refine ri hG .le (32) 139 107 (by decide +kernel) (by decide) (fun c11 => ?_) (fun c11 => ?_)
      · have hO := ok_pos c11 hO
        refine rs hG [(4, .int x4)] [4] rfl ?_
        exact j139 x4 hO
      · have hO := ok_neg c11 hO
        obtain ⟨g12, hO⟩ := ok_if hO
        obtain ⟨g13, hO⟩ := ok_if hO
        refine rb hG 15 110 129 [.aload 0, .invokeinterface 1228 13, .ldc_w 0, .iload 5, .imul, .aload 0, .invokeinterface 1231 16, .iload 5, .iaload, .iadd, .iaload, .iload 3] [16] [] [(5, .int y9), (0, .ref 251), (2, .int x2), (3, .int x3), (4, .int x4)] [.int x3, .int (h.1 264 (Int32.toNatClampNeg (((16 : Int32) * y9) + (h.1 267 (Int32.toNatClampNeg y9)))))] h [kd 251 = 12, kd 251 = 12, kd 267 = 20 ∧ inb y9 (ln 267), kd 264 = 20 ∧ inb (((16 : Int32) * y9) + (h.1 267 (Int32.toNatClampNeg y9))) (ln 264)] (by decide +kernel) rfl ⟨kd_251, kd_251, ⟨kd_267, g12⟩, ⟨kd_264, g13⟩⟩ ?_
        refine rt hG z_M_has 103 2 129 [.int (h.1 264 (Int32.toNatClampNeg (((16 : Int32) * y9) + (h.1 267 (Int32.toNatClampNeg y9))))), .int x3] [] (by decide +kernel) mk_M_has lk_12_103 rfl ⟨rfl, Nat.le_of_ble_eq_true rfl⟩ (c_M_has (d := d + 1) h (h.1 264 (Int32.toNatClampNeg (((16 : Int32) * y9) + (h.1 267 (Int32.toNatClampNeg y9))))) x3 (ok_bind hO)) ?_
        rintro _ _ ⟨r14, rfl, rfl, hO⟩
        refine ri hG .eq (7) 139 132 (by decide +kernel) (by decide) (fun c15 => ?_) (fun c15 => ?_)
        · have hO := ok_pos c15 hO
          refine rs hG [(4, .int x4)] [4] rfl ?_
          exact j139 x4 hO
        · have hO := ok_neg c15 hO
          refine rb hG 5 135 140 [.ldc_w 0] [1] [] [(5, .int y9), (0, .ref 251), (2, .int x2), (3, .int x3), (4, .int x4)] [.int (1 : Int32)] h [] (by decide +kernel) rfl trivial ?_
          refine rs hG [(4, .int x4)] [4] rfl ?_
          exact j140 x4 (1 : Int32) hO
    · have hO := ok_neg c7 hO
      obtain ⟨g16, hO⟩ := ok_if hO
      obtain ⟨g17, hO⟩ := ok_if hO
      refine rb hG 11 52 64 [.aload 0, .invokeinterface 1244 23, .iload 2, .iaload, .aload 0, .invokeinterface 1244 23, .iload 3, .iaload] [] [] [(0, .ref 251), (2, .int x2), (3, .int x3), (4, .int x4)] [.int (h.1 274 (Int32.toNatClampNeg x3)), .int (h.1 274 (Int32.toNatClampNeg x2))] h [kd 251 = 12, kd 274 = 20 ∧ inb x2 (ln 274), kd 251 = 12, kd 274 = 20 ∧ inb x3 (ln 274)] (by decide +kernel) rfl ⟨kd_251, ⟨kd_274, g16⟩, kd_251, ⟨kd_274, g17⟩⟩ ?_
      refine rjN hG (7) 71 64 (by decide +kernel) (by decide) (fun c18 => ?_) (fun c18 => ?_)
      · have hO := ok_pos c18 hO
        refine rb hG 5 67 72 [.ldc_w 0] [1] [] [(0, .ref 251), (2, .int x2), (3, .int x3), (4, .int x4)] [.int (1 : Int32)] h [] (by decide +kernel) rfl trivial ?_
        refine rs hG [(4, .int x4)] [3] rfl ?_
        exact j72 x4 (1 : Int32) hO
      · have hO := ok_neg c18 hO
        refine rb hG 4 71 72 [.ldc_w 0] [0] [] [(0, .ref 251), (2, .int x2), (3, .int x3), (4, .int x4)] [.int (0 : Int32)] h [] (by decide +kernel) rfl trivial ?_
        refine rs hG [(4, .int x4)] [3] rfl ?_
        exact j72 x4 (0 : Int32) hO
  refine rb hG 6 0 3 [.aload 0, .iload 1, .ldc_w 0] [1] [] [(0, .ref 251), (1, .int x1)] [.int (1 : Int32), .int x1, .ref 251] h [] (by decide +kernel) rfl trivial ?_
  refine rv hG z_M_wishOf 411 2 3 251 [.int x1, .int (1 : Int32)] [] (by decide +kernel) mk_M_wishOf lk_12_411 rcv_251 rfl ⟨rfl, Nat.le_of_ble_eq_true rfl⟩ (c_M_wishOf (d := d + 1) h x1 (1 : Int32) (ok_bind hO)) ?_
  rintro _ _ ⟨r19, rfl, rfl, hO⟩
  refine rb hG 7 6 10 [.istore 2, .aload 0, .iload 1, .ldc_w 0] [2] [] [(2, .int r19), (0, .ref 251), (1, .int x1)] [.int (2 : Int32), .int x1, .ref 251] h [] (by decide +kernel) rfl trivial ?_
  refine rv hG z_M_wishOf 411 2 10 251 [.int x1, .int (2 : Int32)] [] (by decide +kernel) mk_M_wishOf lk_12_411 rcv_251 rfl ⟨rfl, Nat.le_of_ble_eq_true rfl⟩ (c_M_wishOf (d := d + 1) h x1 (2 : Int32) (ok_bind hO)) ?_
  rintro _ _ ⟨r20, rfl, rfl, hO⟩
  refine rb hG 7 13 17 [.istore 3, .aload 0, .iload 1, .ldc_w 0] [0] [] [(3, .int r20), (2, .int r19), (0, .ref 251), (1, .int x1)] [.int (0 : Int32), .int x1, .ref 251] h [] (by decide +kernel) rfl trivial ?_
  refine rv hG z_M_wishOf 411 2 17 251 [.int x1, .int (0 : Int32)] [] (by decide +kernel) mk_M_wishOf lk_12_411 rcv_251 rfl ⟨rfl, Nat.le_of_ble_eq_true rfl⟩ (c_M_wishOf (d := d + 1) h x1 (0 : Int32) (ok_bind hO)) ?_
  rintro _ _ ⟨r21, rfl, rfl, hO⟩
  refine rb hG 6 20 24 [.istore 4, .aload 0, .iload 2] [] [] [(4, .int r21), (3, .int r20), (2, .int r19), (0, .ref 251), (1, .int x1)] [.int r19, .ref 251] h [] (by decide +kernel) rfl trivial ?_
  refine rv hG z_M_isGuest 332 1 24 251 [.int r19] [] (by decide +kernel) mk_M_isGuest lk_12_332 rcv_251 rfl ⟨rfl, Nat.le_of_ble_eq_true rfl⟩ (c_M_isGuest (d := d) h r19 (ok_bind hO)) ?_
  rintro _ _ ⟨r22, rfl, rfl, hO⟩
  refine ri hG .eq (17) 44 27 (by decide +kernel) (by decide) (fun c23 => ?_) (fun c23 => ?_)
  · have hO := ok_pos c23 hO
    refine rs hG [] [] rfl ?_
    exact j44 hO
  · have hO := ok_neg c23 hO
    refine rb hG 5 30 33 [.iload 4, .ldc_w 0] [2] [] [(4, .int r21), (3, .int r20), (2, .int r19), (0, .ref 251), (1, .int x1)] [.int (2 : Int32), .int r21] h [] (by decide +kernel) rfl trivial ?_
    refine rj hG .lt (13) 46 33 (by decide +kernel) (by decide) (fun c24 => ?_) (fun c24 => ?_)
    · have hO := ok_pos c24 hO
      refine rs hG [(0, .ref 251), (2, .int r19), (3, .int r20), (4, .int r21)] [3, 2, 1, 0] rfl ?_
      exact j46 r19 r20 r21 hO
    · have hO := ok_neg c24 hO
      refine rb hG 5 36 38 [.aload 0, .iload 3] [] [] [(4, .int r21), (3, .int r20), (2, .int r19), (0, .ref 251), (1, .int x1)] [.int r20, .ref 251] h [] (by decide +kernel) rfl trivial ?_
      refine rv hG z_M_isGuest 332 1 38 251 [.int r20] [] (by decide +kernel) mk_M_isGuest lk_12_332 rcv_251 rfl ⟨rfl, Nat.le_of_ble_eq_true rfl⟩ (c_M_isGuest (d := d) h r20 (ok_bind hO)) ?_
      rintro _ _ ⟨r25, rfl, rfl, hO⟩
      refine riN hG (5) 46 41 (by decide +kernel) (by decide) (fun c26 => ?_) (fun c26 => ?_)
      · have hO := ok_pos c26 hO
        refine rs hG [] [] rfl ?_
        exact j44 hO
      · have hO := ok_neg c26 hO
        refine rs hG [(0, .ref 251), (2, .int r19), (3, .int r20), (4, .int r21)] [3, 2, 1, 0] rfl ?_
        exact j46 r19 r20 r21 hO
/-! GrainInnModel.areFulfilled()Z -/
noncomputable def M_areFulfilled_j36 (x1 : Int32) (h : Hp) : Option Int32 := if x1 = 0 ∨ x1 = 1 then (some x1) else none
noncomputable def M_areFulfilled_j29 (x2 : Int32) (s0 : Int32) (h : Hp) : Option ((Int32 × Int32) ⊕ Int32) := bnd ((x2 + (1 : Int32))) fun y2 => some (.inl (s0, y2))
noncomputable def M_areFulfilled_j28 (x2 : Int32) (h : Hp) : Option ((Int32 × Int32) ⊕ Int32) := (M_areFulfilled_j29 x2 (0 : Int32) h)
noncomputable def M_areFulfilled_b4 (x1 : Int32) (x2 : Int32) (h : Hp) : Option ((Int32 × Int32) ⊕ Int32) := (M_wishMany h).bind fun r3 => if r3 ≤ x2 then (((M_areFulfilled_j36 x1 h).map Sum.inr)) else (if x1 = 0 then ((M_areFulfilled_j28 x2 h)) else ((M_isFulfilled h x2).bind fun r6 => if r6 = 0 then ((M_areFulfilled_j28 x2 h)) else ((M_areFulfilled_j29 x2 (1 : Int32) h))))
noncomputable def M_areFulfilled_l4 (x1 : Int32) (x2 : Int32) (h : Hp) : Option Int32 := lp (fun s : (Int32 × Int32) => M_areFulfilled_b4 s.1 s.2 h) (x1, x2)
theorem M_areFulfilled_l4_eq (x1 : Int32) (x2 : Int32) (h : Hp) : M_areFulfilled_l4 x1 x2 h = (M_areFulfilled_b4 x1 x2 h).bind (Sum.elim (fun q : (Int32 × Int32) => M_areFulfilled_l4 q.1 q.2 h) some) := lp_eq _ _
noncomputable def M_areFulfilled (h : Hp) : Option Int32 := (M_areFulfilled_l4 (1 : Int32) (0 : Int32) h)
set_option maxRecDepth 100000 in
set_option maxHeartbeats 4000000 in
theorem c_M_areFulfilled {E : En} {d : Nat} (h : Hp) {P : Int32 → Prop} (hO : Okk (M_areFulfilled h) P) : Cn E (d + 4) z_M_areFulfilled [.ref 251] h (RIp h P) := by
  refine cn_of (on := 12) (d := d + 3) ⟨rfl, by decide +kernel, Nat.le_of_ble_eq_true rfl⟩ (fun G hG => ?_)
  unfold M_areFulfilled at hO
  show G 0 [(0, .ref 251)] [] h
  have j36 : ∀ (x1 : Int32), Okk (M_areFulfilled_j36 x1 h) P → G 36 [(1, .int x1)] [] h := by
    intro x1 hO
    unfold M_areFulfilled_j36 at hO
    refine rb hG 4 36 37 [.iload 1] [] [] [(1, .int x1)] [.int x1] h [] (by decide +kernel) rfl trivial ?_
    obtain ⟨g1, hO⟩ := ok_if hO
    exact eZ hG 37 (by decide +kernel) rfl g1 ⟨x1, rfl, rfl, ok_some (Q := P) hO⟩
  have l4 : ∀ (x1 : Int32) (x2 : Int32), Okk (M_areFulfilled_l4 x1 x2 h) P → G 4 [(0, .ref 251), (1, .int x1), (2, .int x2)] [] h := by
    intro x1 x2 hO
    obtain ⟨H4, eH4⟩ : ∃ q : (Int32 × Int32) → Prop, q = fun s => G 4 [(0, .ref 251), (1, .int (s.1)), (2, .int (s.2))] [] (h) := ⟨_, rfl⟩
    have w9 : H4 (x1, x2) := by
      refine lp_wp (f := fun s : (Int32 × Int32) => M_areFulfilled_b4 s.1 s.2 h) (H := H4) (Q := P) ?_ (x1, x2) hO
      rintro ⟨x1, x2⟩ hO
      rw [eH4]
      show G 4 [(0, .ref 251), (1, .int x1), (2, .int x2)] [] h
      have k4 : ∀ s : (Int32 × Int32), H4 s → G 4 [(0, .ref 251), (1, .int (s.1)), (2, .int (s.2))] [] (h) := fun s q => by rw [eH4] at q; exact q
      replace hO : Okk (M_areFulfilled_b4 x1 x2 h) (Sum.elim H4 P) := hO
      clear eH4
      have j29 : ∀ (x2 : Int32) (s0 : Int32), Okk (M_areFulfilled_j29 x2 s0 h) (Sum.elim H4 P) → G 29 [(0, .ref 251), (2, .int x2)] [.int s0] h := by
        intro x2 s0 hO
        unfold M_areFulfilled_j29 at hO
        refine rbx hG 5 29 33 [.istore 1, .iinc 2 0] [1] [] ((x2 + (1 : Int32))) (fun y2 => [(2, .int y2), (1, .int s0), (0, .ref 251)]) (fun y2 => []) (fun y2 => h) [] (by decide +kernel) rfl trivial hO (fun y2 hO => ?_)
        refine rb hG 4 33 4 [] [] [] [(2, .int y2), (1, .int s0), (0, .ref 251)] [] h [] (by decide +kernel) rfl trivial ?_
        refine rs hG [(0, .ref 251), (1, .int s0), (2, .int y2)] [2, 1, 0] rfl ?_
        exact k4 (s0, y2) (ok_some (Q := (Sum.elim H4 P)) hO)
      have j28 : ∀ (x2 : Int32), Okk (M_areFulfilled_j28 x2 h) (Sum.elim H4 P) → G 28 [(0, .ref 251), (2, .int x2)] [] h := by
        intro x2 hO
        unfold M_areFulfilled_j28 at hO
        refine rb hG 4 28 29 [.ldc_w 0] [0] [] [(0, .ref 251), (2, .int x2)] [.int (0 : Int32)] h [] (by decide +kernel) rfl trivial ?_
        exact j29 x2 (0 : Int32) hO
      unfold M_areFulfilled_b4 at hO
      refine rb hG 5 4 6 [.iload 2, .aload 0] [] [] [(0, .ref 251), (1, .int x1), (2, .int x2)] [.ref 251, .int x2] h [] (by decide +kernel) rfl trivial ?_
      refine rv hG z_M_wishMany 408 0 6 251 [] [.int x2] (by decide +kernel) mk_M_wishMany lk_12_408 rcv_251 rfl ⟨rfl, Nat.le_of_ble_eq_true rfl⟩ (c_M_wishMany (d := d + 2) h (ok_bind hO)) ?_
      rintro _ _ ⟨r3, rfl, rfl, hO⟩
      refine rj hG .ge (27) 36 9 (by decide +kernel) (by decide) (fun c4 => ?_) (fun c4 => ?_)
      · have hO := ok_pos c4 hO
        refine rs hG [(1, .int x1)] [1] rfl ?_
        exact j36 x1 (ok_inr hO)
      · have hO := ok_neg c4 hO
        refine rb hG 4 12 13 [.iload 1] [] [] [(0, .ref 251), (1, .int x1), (2, .int x2)] [.int x1] h [] (by decide +kernel) rfl trivial ?_
        refine ri hG .eq (15) 28 13 (by decide +kernel) (by decide) (fun c5 => ?_) (fun c5 => ?_)
        · have hO := ok_pos c5 hO
          refine rs hG [(0, .ref 251), (2, .int x2)] [0, 2] rfl ?_
          exact j28 x2 hO
        · have hO := ok_neg c5 hO
          refine rb hG 5 16 18 [.aload 0, .iload 2] [] [] [(0, .ref 251), (1, .int x1), (2, .int x2)] [.int x2, .ref 251] h [] (by decide +kernel) rfl trivial ?_
          refine rv hG z_M_isFulfilled 414 1 18 251 [.int x2] [] (by decide +kernel) mk_M_isFulfilled lk_12_414 rcv_251 rfl ⟨rfl, Nat.le_of_ble_eq_true rfl⟩ (c_M_isFulfilled (d := d) h x2 (ok_bind hO)) ?_
          rintro _ _ ⟨r6, rfl, rfl, hO⟩
          refine ri hG .eq (7) 28 21 (by decide +kernel) (by decide) (fun c7 => ?_) (fun c7 => ?_)
          · have hO := ok_pos c7 hO
            refine rs hG [(0, .ref 251), (2, .int x2)] [0, 2] rfl ?_
            exact j28 x2 hO
          · have hO := ok_neg c7 hO
            refine rb hG 5 24 29 [.ldc_w 0] [1] [] [(0, .ref 251), (1, .int x1), (2, .int x2)] [.int (1 : Int32)] h [] (by decide +kernel) rfl trivial ?_
            refine rs hG [(0, .ref 251), (2, .int x2)] [0, 2] rfl ?_
            exact j29 x2 (1 : Int32) hO
    rw [eH4] at w9
    exact w9
  refine rb hG 7 0 4 [.ldc_w 0, .istore 1, .ldc_w 1, .istore 2] [1, 0] [] [(2, .int (0 : Int32)), (1, .int (1 : Int32)), (0, .ref 251)] [] h [] (by decide +kernel) rfl trivial ?_
  refine rs hG [(0, .ref 251), (1, .int (1 : Int32)), (2, .int (0 : Int32))] [2, 1, 0] rfl ?_
  exact l4 (1 : Int32) (0 : Int32) hO
/-! GrainInnModel.ghostsAt(I)I -/
noncomputable def M_ghostsAt_j29 (s0 : Int32) (h : Hp) : Option Int32 := some s0
noncomputable def M_ghostsAt (h : Hp) (x1 : Int32) : Option Int32 := if inb x1 (ln 266) then (if (h.1 266 (Int32.toNatClampNeg x1)) = 0 then ((M_ghostsAt_j29 (0 : Int32) h)) else (if inb x1 (ln 267) then (if inb (((16 : Int32) * x1) + (h.1 267 (Int32.toNatClampNeg x1))) (ln 263) then ((M_ghostsAt_j29 (h.1 263 (Int32.toNatClampNeg (((16 : Int32) * x1) + (h.1 267 (Int32.toNatClampNeg x1))))) h)) else none) else none)) else none
set_option maxRecDepth 100000 in
set_option maxHeartbeats 4000000 in
theorem c_M_ghostsAt {E : En} {d : Nat} (h : Hp) (x1 : Int32) {P : Int32 → Prop} (hO : Okk (M_ghostsAt h x1) P) : Cn E (d + 1) z_M_ghostsAt [.ref 251, .int x1] h (RIp h P) := by
  refine cn_of (on := 12) (d := d + 0) ⟨rfl, by decide +kernel, Nat.le_of_ble_eq_true rfl⟩ (fun G hG => ?_)
  unfold M_ghostsAt at hO
  show G 0 [(0, .ref 251), (1, .int x1)] [] h
  have j29 : ∀ (s0 : Int32), Okk (M_ghostsAt_j29 s0 h) P → G 29 [] [.int s0] h := by
    intro s0 hO
    unfold M_ghostsAt_j29 at hO
    exact eI hG 29 (by decide +kernel) rfl ⟨s0, rfl, rfl, ok_some (Q := P) hO⟩
  obtain ⟨g1, hO⟩ := ok_if hO
  refine rb hG 7 0 6 [.aload 0, .invokeinterface 1230 15, .iload 1, .iaload] [] [] [(0, .ref 251), (1, .int x1)] [.int (h.1 266 (Int32.toNatClampNeg x1))] h [kd 251 = 12, kd 266 = 20 ∧ inb x1 (ln 266)] (by decide +kernel) rfl ⟨kd_251, ⟨kd_266, g1⟩⟩ ?_
  refine riN hG (7) 13 6 (by decide +kernel) (by decide) (fun c2 => ?_) (fun c2 => ?_)
  · have hO := ok_pos c2 hO
    refine rb hG 5 9 29 [.ldc_w 0] [0] [] [(0, .ref 251), (1, .int x1)] [.int (0 : Int32)] h [] (by decide +kernel) rfl trivial ?_
    refine rs hG [] [] rfl ?_
    exact j29 (0 : Int32) hO
  · have hO := ok_neg c2 hO
    obtain ⟨g3, hO⟩ := ok_if hO
    obtain ⟨g4, hO⟩ := ok_if hO
    refine rb hG 14 13 29 [.aload 0, .invokeinterface 1227 12, .ldc_w 0, .iload 1, .imul, .aload 0, .invokeinterface 1231 16, .iload 1, .iaload, .iadd, .iaload] [16] [] [(0, .ref 251), (1, .int x1)] [.int (h.1 263 (Int32.toNatClampNeg (((16 : Int32) * x1) + (h.1 267 (Int32.toNatClampNeg x1)))))] h [kd 251 = 12, kd 251 = 12, kd 267 = 20 ∧ inb x1 (ln 267), kd 263 = 20 ∧ inb (((16 : Int32) * x1) + (h.1 267 (Int32.toNatClampNeg x1))) (ln 263)] (by decide +kernel) rfl ⟨kd_251, kd_251, ⟨kd_267, g3⟩, ⟨kd_263, g4⟩⟩ ?_
    refine rs hG [] [] rfl ?_
    exact j29 (h.1 263 (Int32.toNatClampNeg (((16 : Int32) * x1) + (h.1 267 (Int32.toNatClampNeg x1))))) hO
/-! GrainInnModel.harm()I -/
noncomputable def M_harm_j59 (x1 : Int32) (h : Hp) : Option Int32 := some x1
noncomputable def M_harm_b4 (x1 : Int32) (x2 : Int32) (h : Hp) : Option ((Int32 × Int32) ⊕ Int32) := if (h.1 251 24) ≤ x2 then (((M_harm_j59 x1 h).map Sum.inr)) else (if inb x2 (ln 275) then ((M_ghostsAt h x2).bind fun r3 => (M_couples h (h.1 275 (Int32.toNatClampNeg x2)) r3 (17 : Int32)).bind fun r4 => if inb x2 (ln 275) then (if inb x2 (ln 275) then ((M_couples h (h.1 275 (Int32.toNatClampNeg x2)) (h.1 275 (Int32.toNatClampNeg x2)) (17 : Int32)).bind fun r7 => bnd ((x1 + (r4 + (r7 / (2 : Int32))))) fun y8 => bnd ((x2 + (1 : Int32))) fun y9 => some (.inl (y8, y9))) else none) else none) else none)
noncomputable def M_harm_l4 (x1 : Int32) (x2 : Int32) (h : Hp) : Option Int32 := lp (fun s : (Int32 × Int32) => M_harm_b4 s.1 s.2 h) (x1, x2)
theorem M_harm_l4_eq (x1 : Int32) (x2 : Int32) (h : Hp) : M_harm_l4 x1 x2 h = (M_harm_b4 x1 x2 h).bind (Sum.elim (fun q : (Int32 × Int32) => M_harm_l4 q.1 q.2 h) some) := lp_eq _ _
noncomputable def M_harm (h : Hp) : Option Int32 := (M_harm_l4 (0 : Int32) (0 : Int32) h)
set_option maxRecDepth 100000 in
set_option maxHeartbeats 4000000 in
theorem c_M_harm {E : En} {d : Nat} (h : Hp) {P : Int32 → Prop} (hO : Okk (M_harm h) P) : Cn E (d + 3) z_M_harm [.ref 251] h (RIp h P) := by
  refine cn_of (on := 12) (d := d + 2) ⟨rfl, by decide +kernel, Nat.le_of_ble_eq_true rfl⟩ (fun G hG => ?_)
  unfold M_harm at hO
  show G 0 [(0, .ref 251)] [] h
  have j59 : ∀ (x1 : Int32), Okk (M_harm_j59 x1 h) P → G 59 [(1, .int x1)] [] h := by
    intro x1 hO
    unfold M_harm_j59 at hO
    refine rb hG 4 59 60 [.iload 1] [] [] [(1, .int x1)] [.int x1] h [] (by decide +kernel) rfl trivial ?_
    exact eI hG 60 (by decide +kernel) rfl ⟨x1, rfl, rfl, ok_some (Q := P) hO⟩
  have l4 : ∀ (x1 : Int32) (x2 : Int32), Okk (M_harm_l4 x1 x2 h) P → G 4 [(0, .ref 251), (1, .int x1), (2, .int x2)] [] h := by
    intro x1 x2 hO
    obtain ⟨H4, eH4⟩ : ∃ q : (Int32 × Int32) → Prop, q = fun s => G 4 [(0, .ref 251), (1, .int (s.1)), (2, .int (s.2))] [] (h) := ⟨_, rfl⟩
    have w9 : H4 (x1, x2) := by
      refine lp_wp (f := fun s : (Int32 × Int32) => M_harm_b4 s.1 s.2 h) (H := H4) (Q := P) ?_ (x1, x2) hO
      rintro ⟨x1, x2⟩ hO
      rw [eH4]
      show G 4 [(0, .ref 251), (1, .int x1), (2, .int x2)] [] h
      have k4 : ∀ s : (Int32 × Int32), H4 s → G 4 [(0, .ref 251), (1, .int (s.1)), (2, .int (s.2))] [] (h) := fun s q => by rw [eH4] at q; exact q
      replace hO : Okk (M_harm_b4 x1 x2 h) (Sum.elim H4 P) := hO
      clear eH4
      unfold M_harm_b4 at hO
      refine rb hG 6 4 9 [.iload 2, .aload 0, .getfield 1224] [] [] [(0, .ref 251), (1, .int x1), (2, .int x2)] [.int (h.1 251 24), .int x2] h [kd 251 = 12] (by decide +kernel) rfl kd_251 ?_
      refine rj hG .ge (50) 59 9 (by decide +kernel) (by decide) (fun c1 => ?_) (fun c1 => ?_)
      · have hO := ok_pos c1 hO
        refine rs hG [(1, .int x1)] [1] rfl ?_
        exact j59 x1 (ok_inr hO)
      · have hO := ok_neg c1 hO
        obtain ⟨g2, hO⟩ := ok_if hO
        refine rb hG 11 12 22 [.iload 1, .aload 0, .aload 0, .invokeinterface 1245 24, .iload 2, .iaload, .aload 0, .iload 2] [] [] [(0, .ref 251), (1, .int x1), (2, .int x2)] [.int x2, .ref 251, .int (h.1 275 (Int32.toNatClampNeg x2)), .ref 251, .int x1] h [kd 251 = 12, kd 275 = 20 ∧ inb x2 (ln 275)] (by decide +kernel) rfl ⟨kd_251, ⟨kd_275, g2⟩⟩ ?_
        refine rv hG z_M_ghostsAt 417 1 22 251 [.int x2] [.int (h.1 275 (Int32.toNatClampNeg x2)), .ref 251, .int x1] (by decide +kernel) mk_M_ghostsAt lk_12_417 rcv_251 rfl ⟨rfl, Nat.le_of_ble_eq_true rfl⟩ (c_M_ghostsAt (d := d + 1) h x2 (ok_bind hO)) ?_
        rintro _ _ ⟨r3, rfl, rfl, hO⟩
        refine rb hG 4 25 27 [.ldc_w 0] [17] [] [(0, .ref 251), (1, .int x1), (2, .int x2)] [.int (17 : Int32), .int r3, .int (h.1 275 (Int32.toNatClampNeg x2)), .ref 251, .int x1] h [] (by decide +kernel) rfl trivial ?_
        refine rv hG z_M_couples 313 3 27 251 [.int (h.1 275 (Int32.toNatClampNeg x2)), .int r3, .int (17 : Int32)] [.int x1] (by decide +kernel) mk_M_couples lk_12_313 rcv_251 rfl ⟨rfl, Nat.le_of_ble_eq_true rfl⟩ (c_M_couples (d := d) h (h.1 275 (Int32.toNatClampNeg x2)) r3 (17 : Int32) (ok_bind hO)) ?_
        rintro _ _ ⟨r4, rfl, rfl, hO⟩
        obtain ⟨g5, hO⟩ := ok_if hO
        obtain ⟨g6, hO⟩ := ok_if hO
        refine rb hG 13 30 45 [.aload 0, .aload 0, .invokeinterface 1245 24, .iload 2, .iaload, .aload 0, .invokeinterface 1245 24, .iload 2, .iaload, .ldc_w 0] [17] [] [(0, .ref 251), (1, .int x1), (2, .int x2)] [.int (17 : Int32), .int (h.1 275 (Int32.toNatClampNeg x2)), .int (h.1 275 (Int32.toNatClampNeg x2)), .ref 251, .int r4, .int x1] h [kd 251 = 12, kd 275 = 20 ∧ inb x2 (ln 275), kd 251 = 12, kd 275 = 20 ∧ inb x2 (ln 275)] (by decide +kernel) rfl ⟨kd_251, ⟨kd_275, g5⟩, kd_251, ⟨kd_275, g6⟩⟩ ?_
        refine rv hG z_M_couples 313 3 45 251 [.int (h.1 275 (Int32.toNatClampNeg x2)), .int (h.1 275 (Int32.toNatClampNeg x2)), .int (17 : Int32)] [.int r4, .int x1] (by decide +kernel) mk_M_couples lk_12_313 rcv_251 rfl ⟨rfl, Nat.le_of_ble_eq_true rfl⟩ (c_M_couples (d := d) h (h.1 275 (Int32.toNatClampNeg x2)) (h.1 275 (Int32.toNatClampNeg x2)) (17 : Int32) (ok_bind hO)) ?_
        rintro _ _ ⟨r7, rfl, rfl, hO⟩
        refine rbx hG 8 48 53 [.ldc_w 0, .idiv, .iadd, .iadd, .istore 1] [2] [] ((x1 + (r4 + (r7 / (2 : Int32))))) (fun y8 => [(1, .int y8), (0, .ref 251), (2, .int x2)]) (fun y8 => []) (fun y8 => h) [¬ (2 : Int32) = 0] (by decide +kernel) rfl (show ¬ (2 : Int32) = 0 by decide) hO (fun y8 hO => ?_)
        refine rbx hG 4 53 56 [.iinc 2 0] [1] [] ((x2 + (1 : Int32))) (fun y9 => [(2, .int y9), (1, .int y8), (0, .ref 251)]) (fun y9 => []) (fun y9 => h) [] (by decide +kernel) rfl trivial hO (fun y9 hO => ?_)
        refine rb hG 4 56 4 [] [] [] [(2, .int y9), (1, .int y8), (0, .ref 251)] [] h [] (by decide +kernel) rfl trivial ?_
        refine rs hG [(0, .ref 251), (1, .int y8), (2, .int y9)] [2, 1, 0] rfl ?_
        exact k4 (y8, y9) (ok_some (Q := (Sum.elim H4 P)) hO)
    rw [eH4] at w9
    exact w9
  refine rb hG 7 0 4 [.ldc_w 0, .istore 1, .ldc_w 0, .istore 2] [0] [] [(2, .int (0 : Int32)), (1, .int (0 : Int32)), (0, .ref 251)] [] h [] (by decide +kernel) rfl trivial ?_
  refine rs hG [(0, .ref 251), (1, .int (0 : Int32)), (2, .int (0 : Int32))] [2, 1, 0] rfl ?_
  exact l4 (0 : Int32) (0 : Int32) hO
/-! GrainInnModel.pays()I -/
noncomputable def M_pays_j59 (x1 : Int32) (h : Hp) : Option Int32 := some x1
noncomputable def M_pays_j51 (x2 : Int32) (s0 : Int32) (s1 : Int32) (h : Hp) : Option ((Int32 × Int32) ⊕ Int32) := bnd ((s0 + s1)) fun y1 => bnd ((x2 + (1 : Int32))) fun y2 => some (.inl (y1, y2))
noncomputable def M_pays_b4 (x1 : Int32) (x2 : Int32) (h : Hp) : Option ((Int32 × Int32) ⊕ Int32) := if (h.1 251 24) ≤ x2 then (((M_pays_j59 x1 h).map Sum.inr)) else (if inb x2 (ln 275) then (if (h.1 275 (Int32.toNatClampNeg x2)) = 0 then ((M_pays_j51 x2 x1 (0 : Int32) h)) else ((M_ofTable h x2 (2 : Int32)).bind fun r6 => if inb x2 (ln 275) then ((M_ones (h.1 275 (Int32.toNatClampNeg x2))).bind fun r8 => (M_ghostsAt h x2).bind fun r9 => (M_ones r9).bind fun r10 => (M_pays_j51 x2 x1 (r6 * (r8 + r10)) h)) else none)) else none)
noncomputable def M_pays_l4 (x1 : Int32) (x2 : Int32) (h : Hp) : Option Int32 := lp (fun s : (Int32 × Int32) => M_pays_b4 s.1 s.2 h) (x1, x2)
theorem M_pays_l4_eq (x1 : Int32) (x2 : Int32) (h : Hp) : M_pays_l4 x1 x2 h = (M_pays_b4 x1 x2 h).bind (Sum.elim (fun q : (Int32 × Int32) => M_pays_l4 q.1 q.2 h) some) := lp_eq _ _
noncomputable def M_pays (h : Hp) : Option Int32 := (M_pays_l4 (0 : Int32) (0 : Int32) h)
set_option maxRecDepth 100000 in
set_option maxHeartbeats 4000000 in
theorem c_M_pays {E : En} {d : Nat} (h : Hp) {P : Int32 → Prop} (hO : Okk (M_pays h) P) : Cn E (d + 3) z_M_pays [.ref 251] h (RIp h P) := by
  refine cn_of (on := 12) (d := d + 2) ⟨rfl, by decide +kernel, Nat.le_of_ble_eq_true rfl⟩ (fun G hG => ?_)
  unfold M_pays at hO
  show G 0 [(0, .ref 251)] [] h
  have j59 : ∀ (x1 : Int32), Okk (M_pays_j59 x1 h) P → G 59 [(1, .int x1)] [] h := by
    intro x1 hO
    unfold M_pays_j59 at hO
    refine rb hG 4 59 60 [.iload 1] [] [] [(1, .int x1)] [.int x1] h [] (by decide +kernel) rfl trivial ?_
    exact eI hG 60 (by decide +kernel) rfl ⟨x1, rfl, rfl, ok_some (Q := P) hO⟩
  have l4 : ∀ (x1 : Int32) (x2 : Int32), Okk (M_pays_l4 x1 x2 h) P → G 4 [(0, .ref 251), (1, .int x1), (2, .int x2)] [] h := by
    intro x1 x2 hO
    obtain ⟨H4, eH4⟩ : ∃ q : (Int32 × Int32) → Prop, q = fun s => G 4 [(0, .ref 251), (1, .int (s.1)), (2, .int (s.2))] [] (h) := ⟨_, rfl⟩
    have w9 : H4 (x1, x2) := by
      refine lp_wp (f := fun s : (Int32 × Int32) => M_pays_b4 s.1 s.2 h) (H := H4) (Q := P) ?_ (x1, x2) hO
      rintro ⟨x1, x2⟩ hO
      rw [eH4]
      show G 4 [(0, .ref 251), (1, .int x1), (2, .int x2)] [] h
      have k4 : ∀ s : (Int32 × Int32), H4 s → G 4 [(0, .ref 251), (1, .int (s.1)), (2, .int (s.2))] [] (h) := fun s q => by rw [eH4] at q; exact q
      replace hO : Okk (M_pays_b4 x1 x2 h) (Sum.elim H4 P) := hO
      clear eH4
      have j51 : ∀ (x2 : Int32) (s0 : Int32) (s1 : Int32), Okk (M_pays_j51 x2 s0 s1 h) (Sum.elim H4 P) → G 51 [(0, .ref 251), (2, .int x2)] [.int s1, .int s0] h := by
        intro x2 s0 s1 hO
        unfold M_pays_j51 at hO
        refine rbx hG 5 51 53 [.iadd, .istore 1] [] [] ((s0 + s1)) (fun y1 => [(1, .int y1), (0, .ref 251), (2, .int x2)]) (fun y1 => []) (fun y1 => h) [] (by decide +kernel) rfl trivial hO (fun y1 hO => ?_)
        refine rbx hG 4 53 56 [.iinc 2 0] [1] [] ((x2 + (1 : Int32))) (fun y2 => [(2, .int y2), (1, .int y1), (0, .ref 251)]) (fun y2 => []) (fun y2 => h) [] (by decide +kernel) rfl trivial hO (fun y2 hO => ?_)
        refine rb hG 4 56 4 [] [] [] [(2, .int y2), (1, .int y1), (0, .ref 251)] [] h [] (by decide +kernel) rfl trivial ?_
        refine rs hG [(0, .ref 251), (1, .int y1), (2, .int y2)] [2, 1, 0] rfl ?_
        exact k4 (y1, y2) (ok_some (Q := (Sum.elim H4 P)) hO)
      unfold M_pays_b4 at hO
      refine rb hG 6 4 9 [.iload 2, .aload 0, .getfield 1224] [] [] [(0, .ref 251), (1, .int x1), (2, .int x2)] [.int (h.1 251 24), .int x2] h [kd 251 = 12] (by decide +kernel) rfl kd_251 ?_
      refine rj hG .ge (50) 59 9 (by decide +kernel) (by decide) (fun c3 => ?_) (fun c3 => ?_)
      · have hO := ok_pos c3 hO
        refine rs hG [(1, .int x1)] [1] rfl ?_
        exact j59 x1 (ok_inr hO)
      · have hO := ok_neg c3 hO
        obtain ⟨g4, hO⟩ := ok_if hO
        refine rb hG 8 12 19 [.iload 1, .aload 0, .invokeinterface 1245 24, .iload 2, .iaload] [] [] [(0, .ref 251), (1, .int x1), (2, .int x2)] [.int (h.1 275 (Int32.toNatClampNeg x2)), .int x1] h [kd 251 = 12, kd 275 = 20 ∧ inb x2 (ln 275)] (by decide +kernel) rfl ⟨kd_251, ⟨kd_275, g4⟩⟩ ?_
        refine riN hG (7) 26 19 (by decide +kernel) (by decide) (fun c5 => ?_) (fun c5 => ?_)
        · have hO := ok_pos c5 hO
          refine rb hG 5 22 51 [.ldc_w 0] [0] [] [(0, .ref 251), (1, .int x1), (2, .int x2)] [.int (0 : Int32), .int x1] h [] (by decide +kernel) rfl trivial ?_
          refine rs hG [(0, .ref 251), (2, .int x2)] [0, 2] rfl ?_
          exact j51 x2 x1 (0 : Int32) hO
        · have hO := ok_neg c5 hO
          refine rb hG 6 26 29 [.aload 0, .iload 2, .ldc_w 0] [2] [] [(0, .ref 251), (1, .int x1), (2, .int x2)] [.int (2 : Int32), .int x2, .ref 251, .int x1] h [] (by decide +kernel) rfl trivial ?_
          refine rv hG z_M_ofTable 283 2 29 251 [.int x2, .int (2 : Int32)] [.int x1] (by decide +kernel) mk_M_ofTable lk_12_283 rcv_251 rfl ⟨rfl, Nat.le_of_ble_eq_true rfl⟩ (c_M_ofTable (d := d) h x2 (2 : Int32) (ok_bind hO)) ?_
          rintro _ _ ⟨r6, rfl, rfl, hO⟩
          obtain ⟨g7, hO⟩ := ok_if hO
          refine rb hG 7 32 38 [.aload 0, .invokeinterface 1245 24, .iload 2, .iaload] [] [] [(0, .ref 251), (1, .int x1), (2, .int x2)] [.int (h.1 275 (Int32.toNatClampNeg x2)), .int r6, .int x1] h [kd 251 = 12, kd 275 = 20 ∧ inb x2 (ln 275)] (by decide +kernel) rfl ⟨kd_251, ⟨kd_275, g7⟩⟩ ?_
          refine rt hG z_M_ones 347 1 38 [.int (h.1 275 (Int32.toNatClampNeg x2))] [.int r6, .int x1] (by decide +kernel) mk_M_ones lk_12_347 rfl ⟨rfl, Nat.le_of_ble_eq_true rfl⟩ (c_M_ones (d := d) h (h.1 275 (Int32.toNatClampNeg x2)) (ok_bind hO)) ?_
          rintro _ _ ⟨r8, rfl, rfl, hO⟩
          refine rb hG 5 41 43 [.aload 0, .iload 2] [] [] [(0, .ref 251), (1, .int x1), (2, .int x2)] [.int x2, .ref 251, .int r8, .int r6, .int x1] h [] (by decide +kernel) rfl trivial ?_
          refine rv hG z_M_ghostsAt 417 1 43 251 [.int x2] [.int r8, .int r6, .int x1] (by decide +kernel) mk_M_ghostsAt lk_12_417 rcv_251 rfl ⟨rfl, Nat.le_of_ble_eq_true rfl⟩ (c_M_ghostsAt (d := d + 1) h x2 (ok_bind hO)) ?_
          rintro _ _ ⟨r9, rfl, rfl, hO⟩
          refine rt hG z_M_ones 347 1 46 [.int r9] [.int r8, .int r6, .int x1] (by decide +kernel) mk_M_ones lk_12_347 rfl ⟨rfl, Nat.le_of_ble_eq_true rfl⟩ (c_M_ones (d := d) h r9 (ok_bind hO)) ?_
          rintro _ _ ⟨r10, rfl, rfl, hO⟩
          refine rb hG 5 49 51 [.iadd, .imul] [] [] [(0, .ref 251), (1, .int x1), (2, .int x2)] [.int (r6 * (r8 + r10)), .int x1] h [] (by decide +kernel) rfl trivial ?_
          refine rs hG [(0, .ref 251), (2, .int x2)] [0, 2] rfl ?_
          exact j51 x2 x1 (r6 * (r8 + r10)) hO
    rw [eH4] at w9
    exact w9
  refine rb hG 7 0 4 [.ldc_w 0, .istore 1, .ldc_w 0, .istore 2] [0] [] [(2, .int (0 : Int32)), (1, .int (0 : Int32)), (0, .ref 251)] [] h [] (by decide +kernel) rfl trivial ?_
  refine rs hG [(0, .ref 251), (1, .int (0 : Int32)), (2, .int (0 : Int32))] [2, 1, 0] rfl ?_
  exact l4 (0 : Int32) (0 : Int32) hO
/-! GrainInnModel.seats(IIIII)I -/
noncomputable def M_seats_j67 (h : Hp) : Option (Int32 × Hp) := some ((-1 : Int32), h)
noncomputable def M_seats_j250 (s0 : Int32) (h : Hp) : Option (Int32 × Hp) := some (s0, h)
noncomputable def M_seats_j195 (x5 : Int32) (x7 : Int32) (x8 : Int32) (x9 : Int32) (x10 : Int32) (h : Hp) : Option (Int32 × Hp) := if x5 = (2 : Int32) then (some (x7, h)) else (if x8 = (-1 : Int32) then (some ((-1 : Int32), h)) else ((M_laySeats h x8).bind fun (r3, h4) => if x5 = 0 then ((M_seats_j250 x9 h4)) else (if x5 = (1 : Int32) then ((M_seats_j250 x10 h4)) else (if inb (x5 - (10 : Int32)) (ln 274) then ((M_seats_j250 (h4.1 274 (Int32.toNatClampNeg (x5 - (10 : Int32)))) h4)) else none))))
noncomputable def M_seats_j189 (x5 : Int32) (x6 : Int32) (x7 : Int32) (x8 : Int32) (x9 : Int32) (x10 : Int32) (x11 : Int32) (h : Hp) : Option ((Int32 × Int32 × Int32 × Int32 × Int32 × Hp) ⊕ (Int32 × Hp)) := bnd ((x11 + (1 : Int32))) fun y8 => some (.inl (x7, x8, x9, x10, y8, h))
noncomputable def M_seats_j177 (x5 : Int32) (x6 : Int32) (x7 : Int32) (x11 : Int32) (x12 : Int32) (x13 : Int32) (h : Hp) : Option ((Int32 × Int32 × Int32 × Int32 × Int32 × Hp) ⊕ (Int32 × Hp)) := (M_seats_j189 x5 x6 x7 x11 x12 x13 x11 h)
noncomputable def M_seats_b118 (x5 : Int32) (x6 : Int32) (x7 : Int32) (x8 : Int32) (x9 : Int32) (x10 : Int32) (x11 : Int32) (h : Hp) : Option ((Int32 × Int32 × Int32 × Int32 × Int32 × Hp) ⊕ (Int32 × Hp)) := if x6 ≤ x11 then (((M_seats_j195 x5 x7 x8 x9 x10 h).map Sum.inr)) else ((M_laySeats h x11).bind fun (r10, h11) => if r10 = 0 then ((M_seats_j189 x5 x6 x7 x8 x9 x10 x11 h11)) else ((M_areFulfilled h11).bind fun r13 => if r13 = 0 then ((M_seats_j189 x5 x6 x7 x8 x9 x10 x11 h11)) else (bnd ((x7 + (1 : Int32))) fun y15 => (M_harm h11).bind fun r16 => (M_pays h11).bind fun r17 => if r16 < x9 then ((M_seats_j177 x5 x6 y15 x11 r16 r17 h11)) else (if r16 = x9 then (if x10 ≤ r17 then ((M_seats_j189 x5 x6 y15 x8 x9 x10 x11 h11)) else ((M_seats_j177 x5 x6 y15 x11 r16 r17 h11))) else ((M_seats_j189 x5 x6 y15 x8 x9 x10 x11 h11))))))
noncomputable def M_seats_l118 (x5 : Int32) (x6 : Int32) (x7 : Int32) (x8 : Int32) (x9 : Int32) (x10 : Int32) (x11 : Int32) (h : Hp) : Option (Int32 × Hp) := lp (fun s : (Int32 × Int32 × Int32 × Int32 × Int32 × Hp) => M_seats_b118 x5 x6 s.1 s.2.1 s.2.2.1 s.2.2.2.1 s.2.2.2.2.1 s.2.2.2.2.2) (x7, x8, x9, x10, x11, h)
theorem M_seats_l118_eq (x5 : Int32) (x6 : Int32) (x7 : Int32) (x8 : Int32) (x9 : Int32) (x10 : Int32) (x11 : Int32) (h : Hp) : M_seats_l118 x5 x6 x7 x8 x9 x10 x11 h = (M_seats_b118 x5 x6 x7 x8 x9 x10 x11 h).bind (Sum.elim (fun q : (Int32 × Int32 × Int32 × Int32 × Int32 × Hp) => M_seats_l118 x5 x6 q.1 q.2.1 q.2.2.1 q.2.2.2.1 q.2.2.2.2.1 q.2.2.2.2.2) some) := lp_eq _ _
noncomputable def M_seats_j99 (x5 : Int32) (x6 : Int32) (h : Hp) : Option (Int32 × Hp) := (M_seats_l118 x5 x6 (0 : Int32) (-1 : Int32) (1000000 : Int32) (1000000 : Int32) (0 : Int32) h)
noncomputable def M_seats_b75 (x5 : Int32) (x6 : Int32) (x7 : Int32) (h : Hp) : Option ((Int32 × Int32) ⊕ (Int32 × Hp)) := if (h.1 251 25) ≤ x7 then (((M_seats_j99 x5 x6 h).map Sum.inr)) else (bnd ((x6 * (h.1 251 24))) fun y22 => bnd ((x7 + (1 : Int32))) fun y23 => some (.inl (y22, y23)))
noncomputable def M_seats_l75 (x5 : Int32) (x6 : Int32) (x7 : Int32) (h : Hp) : Option (Int32 × Hp) := lp (fun s : (Int32 × Int32) => M_seats_b75 x5 s.1 s.2 h) (x6, x7)
theorem M_seats_l75_eq (x5 : Int32) (x6 : Int32) (x7 : Int32) (h : Hp) : M_seats_l75 x5 x6 x7 h = (M_seats_b75 x5 x6 x7 h).bind (Sum.elim (fun q : (Int32 × Int32) => M_seats_l75 x5 q.1 q.2 h) some) := lp_eq _ _
noncomputable def M_seats_j69 (x5 : Int32) (h : Hp) : Option (Int32 × Hp) := (M_seats_l75 x5 (1 : Int32) (0 : Int32) h)
noncomputable def M_seats (h : Hp) (x1 : Int32) (x2 : Int32) (x3 : Int32) (x4 : Int32) (x5 : Int32) : Option (Int32 × Hp) := bnd (wr h 251 0 (0 : Int32)) fun h24 => (M_hasWishes h24 x4).bind fun (r25, h26) => if r25 = 0 then ((M_seats_j67 h26)) else ((M_layState h26 x1 x2 x3).bind fun (r28, h29) => if r28 = 0 then ((M_seats_j67 h29)) else ((M_allSeated h29).bind fun r31 => if r31 = 0 then (if (6 : Int32) < (h29.1 251 25) then ((M_seats_j67 h29)) else ((M_in x5 (0 : Int32) (2 : Int32)).bind fun r34 => if r34 = 0 then ((M_in x5 (10 : Int32) ((9 : Int32) + (h29.1 251 25))).bind fun r36 => if r36 = 0 then ((M_seats_j67 h29)) else ((M_seats_j69 x5 h29))) else ((M_seats_j69 x5 h29)))) else ((M_seats_j67 h29))))
set_option maxRecDepth 100000 in
set_option maxHeartbeats 4000000 in
theorem c_M_seats {E : En} {d : Nat} (h : Hp) (x1 : Int32) (x2 : Int32) (x3 : Int32) (x4 : Int32) (x5 : Int32) {P : (Int32 × Hp) → Prop} (hO : Okk (M_seats h x1 x2 x3 x4 x5) P) : Cn E (d + 9) z_M_seats [.ref 251, .int x1, .int x2, .int x3, .int x4, .int x5] h (RI P) := by
  refine cn_of (on := 12) (d := d + 8) ⟨rfl, by decide +kernel, Nat.le_of_ble_eq_true rfl⟩ (fun G hG => ?_)
  unfold M_seats at hO
  show G 0 [(0, .ref 251), (1, .int x1), (2, .int x2), (3, .int x3), (4, .int x4), (5, .int x5)] [] h
  have j67 : ∀ (h : Hp), Okk (M_seats_j67 h) P → G 67 [] [] h := by
    intro h hO
    unfold M_seats_j67 at hO
    refine rb hG 4 67 68 [.ldc_w 0] [-1] [] [] [.int (-1 : Int32)] h [] (by decide +kernel) rfl trivial ?_
    exact eI hG 68 (by decide +kernel) rfl ⟨(-1 : Int32), rfl, ok_some (Q := P) hO⟩
  have j250 : ∀ (s0 : Int32) (h : Hp), Okk (M_seats_j250 s0 h) P → G 250 [] [.int s0] h := by
    intro s0 h hO
    unfold M_seats_j250 at hO
    exact eI hG 250 (by decide +kernel) rfl ⟨s0, rfl, ok_some (Q := P) hO⟩
  have j195 : ∀ (x7 : Int32) (x8 : Int32) (x9 : Int32) (x10 : Int32) (h : Hp), Okk (M_seats_j195 x5 x7 x8 x9 x10 h) P → G 195 [(0, .ref 251), (5, .int x5), (7, .int x7), (8, .int x8), (9, .int x9), (10, .int x10)] [] h := by
    intro x7 x8 x9 x10 h hO
    unfold M_seats_j195 at hO
    refine rb hG 5 195 198 [.iload 5, .ldc_w 0] [2] [] [(0, .ref 251), (5, .int x5), (7, .int x7), (8, .int x8), (9, .int x9), (10, .int x10)] [.int (2 : Int32), .int x5] h [] (by decide +kernel) rfl trivial ?_
    refine rjN hG (6) 204 198 (by decide +kernel) (by decide) (fun c1 => ?_) (fun c1 => ?_)
    · have hO := ok_pos c1 hO
      refine rb hG 4 201 203 [.iload 7] [] [] [(0, .ref 251), (5, .int x5), (7, .int x7), (8, .int x8), (9, .int x9), (10, .int x10)] [.int x7] h [] (by decide +kernel) rfl trivial ?_
      exact eI hG 203 (by decide +kernel) rfl ⟨x7, rfl, ok_some (Q := P) hO⟩
    · have hO := ok_neg c1 hO
      refine rb hG 5 204 207 [.iload 8, .ldc_w 0] [-1] [] [(0, .ref 251), (5, .int x5), (7, .int x7), (8, .int x8), (9, .int x9), (10, .int x10)] [.int (-1 : Int32), .int x8] h [] (by decide +kernel) rfl trivial ?_
      refine rjN hG (5) 212 207 (by decide +kernel) (by decide) (fun c2 => ?_) (fun c2 => ?_)
      · have hO := ok_pos c2 hO
        refine rb hG 4 210 211 [.ldc_w 0] [-1] [] [(0, .ref 251), (5, .int x5), (7, .int x7), (8, .int x8), (9, .int x9), (10, .int x10)] [.int (-1 : Int32)] h [] (by decide +kernel) rfl trivial ?_
        exact eI hG 211 (by decide +kernel) rfl ⟨(-1 : Int32), rfl, ok_some (Q := P) hO⟩
      · have hO := ok_neg c2 hO
        refine rb hG 5 212 215 [.aload 0, .iload 8] [] [] [(0, .ref 251), (5, .int x5), (7, .int x7), (8, .int x8), (9, .int x9), (10, .int x10)] [.int x8, .ref 251] h [] (by decide +kernel) rfl trivial ?_
        refine rv hG z_M_laySeats 421 1 215 251 [.int x8] [] (by decide +kernel) mk_M_laySeats lk_12_421 rcv_251 rfl ⟨rfl, Nat.le_of_ble_eq_true rfl⟩ (c_M_laySeats (d := d + 5) h x8 (ok_bind hO)) ?_
        rintro _ h4 ⟨r3, rfl, hO⟩
        refine rb hG 5 218 221 [.pop, .iload 5] [] [] [(0, .ref 251), (5, .int x5), (7, .int x7), (8, .int x8), (9, .int x9), (10, .int x10)] [.int x5] h4 [] (by decide +kernel) rfl trivial ?_
        refine riN hG (8) 229 221 (by decide +kernel) (by decide) (fun c5 => ?_) (fun c5 => ?_)
        · have hO := ok_pos c5 hO
          refine rb hG 5 224 250 [.iload 9] [] [] [(0, .ref 251), (5, .int x5), (7, .int x7), (8, .int x8), (9, .int x9), (10, .int x10)] [.int x9] h4 [] (by decide +kernel) rfl trivial ?_
          refine rs hG [] [] rfl ?_
          exact j250 x9 h4 hO
        · have hO := ok_neg c5 hO
          refine rb hG 5 229 232 [.iload 5, .ldc_w 0] [1] [] [(0, .ref 251), (5, .int x5), (7, .int x7), (8, .int x8), (9, .int x9), (10, .int x10)] [.int (1 : Int32), .int x5] h4 [] (by decide +kernel) rfl trivial ?_
          refine rjN hG (8) 240 232 (by decide +kernel) (by decide) (fun c6 => ?_) (fun c6 => ?_)
          · have hO := ok_pos c6 hO
            refine rb hG 5 235 250 [.iload 10] [] [] [(0, .ref 251), (5, .int x5), (7, .int x7), (8, .int x8), (9, .int x9), (10, .int x10)] [.int x10] h4 [] (by decide +kernel) rfl trivial ?_
            refine rs hG [] [] rfl ?_
            exact j250 x10 h4 hO
          · have hO := ok_neg c6 hO
            obtain ⟨g7, hO⟩ := ok_if hO
            refine rb hG 9 240 250 [.aload 0, .invokeinterface 1244 23, .iload 5, .ldc_w 0, .isub, .iaload] [10] [] [(0, .ref 251), (5, .int x5), (7, .int x7), (8, .int x8), (9, .int x9), (10, .int x10)] [.int (h4.1 274 (Int32.toNatClampNeg (x5 - (10 : Int32))))] h4 [kd 251 = 12, kd 274 = 20 ∧ inb (x5 - (10 : Int32)) (ln 274)] (by decide +kernel) rfl ⟨kd_251, ⟨kd_274, g7⟩⟩ ?_
            refine rs hG [] [] rfl ?_
            exact j250 (h4.1 274 (Int32.toNatClampNeg (x5 - (10 : Int32)))) h4 hO
  have l118 : ∀ (x6 : Int32) (x7 : Int32) (x8 : Int32) (x9 : Int32) (x10 : Int32) (x11 : Int32) (h : Hp), Okk (M_seats_l118 x5 x6 x7 x8 x9 x10 x11 h) P → G 118 [(0, .ref 251), (5, .int x5), (6, .int x6), (7, .int x7), (8, .int x8), (9, .int x9), (10, .int x10), (11, .int x11)] [] h := by
    intro x6 x7 x8 x9 x10 x11 h hO
    obtain ⟨H118, eH118⟩ : ∃ q : (Int32 × Int32 × Int32 × Int32 × Int32 × Hp) → Prop, q = fun s => G 118 [(0, .ref 251), (5, .int x5), (6, .int x6), (7, .int (s.1)), (8, .int (s.2.1)), (9, .int (s.2.2.1)), (10, .int (s.2.2.2.1)), (11, .int (s.2.2.2.2.1))] [] (s.2.2.2.2.2) := ⟨_, rfl⟩
    have w9 : H118 (x7, x8, x9, x10, x11, h) := by
      refine lp_wp (f := fun s : (Int32 × Int32 × Int32 × Int32 × Int32 × Hp) => M_seats_b118 x5 x6 s.1 s.2.1 s.2.2.1 s.2.2.2.1 s.2.2.2.2.1 s.2.2.2.2.2) (H := H118) (Q := P) ?_ (x7, x8, x9, x10, x11, h) hO
      rintro ⟨x7, x8, x9, x10, x11, h⟩ hO
      rw [eH118]
      show G 118 [(0, .ref 251), (5, .int x5), (6, .int x6), (7, .int x7), (8, .int x8), (9, .int x9), (10, .int x10), (11, .int x11)] [] h
      have k118 : ∀ s : (Int32 × Int32 × Int32 × Int32 × Int32 × Hp), H118 s → G 118 [(0, .ref 251), (5, .int x5), (6, .int x6), (7, .int (s.1)), (8, .int (s.2.1)), (9, .int (s.2.2.1)), (10, .int (s.2.2.2.1)), (11, .int (s.2.2.2.2.1))] [] (s.2.2.2.2.2) := fun s q => by rw [eH118] at q; exact q
      replace hO : Okk (M_seats_b118 x5 x6 x7 x8 x9 x10 x11 h) (Sum.elim H118 P) := hO
      clear eH118
      have j189 : ∀ (x7 : Int32) (x8 : Int32) (x9 : Int32) (x10 : Int32) (x11 : Int32) (h : Hp), Okk (M_seats_j189 x5 x6 x7 x8 x9 x10 x11 h) (Sum.elim H118 P) → G 189 [(0, .ref 251), (5, .int x5), (6, .int x6), (7, .int x7), (8, .int x8), (9, .int x9), (10, .int x10), (11, .int x11)] [] h := by
        intro x7 x8 x9 x10 x11 h hO
        unfold M_seats_j189 at hO
        refine rbx hG 4 189 192 [.iinc 11 0] [1] [] ((x11 + (1 : Int32))) (fun y8 => [(11, .int y8), (0, .ref 251), (5, .int x5), (6, .int x6), (7, .int x7), (8, .int x8), (9, .int x9), (10, .int x10)]) (fun y8 => []) (fun y8 => h) [] (by decide +kernel) rfl trivial hO (fun y8 hO => ?_)
        refine rb hG 4 192 118 [] [] [] [(11, .int y8), (0, .ref 251), (5, .int x5), (6, .int x6), (7, .int x7), (8, .int x8), (9, .int x9), (10, .int x10)] [] h [] (by decide +kernel) rfl trivial ?_
        refine rs hG [(0, .ref 251), (5, .int x5), (6, .int x6), (7, .int x7), (8, .int x8), (9, .int x9), (10, .int x10), (11, .int y8)] [1, 2, 3, 4, 5, 6, 7, 0] rfl ?_
        exact k118 (x7, x8, x9, x10, y8, h) (ok_some (Q := (Sum.elim H118 P)) hO)
      have j177 : ∀ (x7 : Int32) (x11 : Int32) (x12 : Int32) (x13 : Int32) (h : Hp), Okk (M_seats_j177 x5 x6 x7 x11 x12 x13 h) (Sum.elim H118 P) → G 177 [(0, .ref 251), (5, .int x5), (6, .int x6), (7, .int x7), (11, .int x11), (12, .int x12), (13, .int x13)] [] h := by
        intro x7 x11 x12 x13 h hO
        unfold M_seats_j177 at hO
        refine rb hG 9 177 189 [.iload 11, .istore 8, .iload 12, .istore 9, .iload 13, .istore 10] [] [] [(10, .int x13), (9, .int x12), (8, .int x11), (0, .ref 251), (5, .int x5), (6, .int x6), (7, .int x7), (11, .int x11), (12, .int x12), (13, .int x13)] [] h [] (by decide +kernel) rfl trivial ?_
        refine rs hG [(0, .ref 251), (5, .int x5), (6, .int x6), (7, .int x7), (8, .int x11), (9, .int x12), (10, .int x13), (11, .int x11)] [3, 4, 5, 6, 2, 1, 0, 7] rfl ?_
        exact j189 x7 x11 x12 x13 x11 h hO
      unfold M_seats_b118 at hO
      refine rb hG 5 118 122 [.iload 11, .iload 6] [] [] [(0, .ref 251), (5, .int x5), (6, .int x6), (7, .int x7), (8, .int x8), (9, .int x9), (10, .int x10), (11, .int x11)] [.int x6, .int x11] h [] (by decide +kernel) rfl trivial ?_
      refine rj hG .ge (73) 195 122 (by decide +kernel) (by decide) (fun c9 => ?_) (fun c9 => ?_)
      · have hO := ok_pos c9 hO
        refine rs hG [(0, .ref 251), (5, .int x5), (7, .int x7), (8, .int x8), (9, .int x9), (10, .int x10)] [0, 1, 3, 4, 5, 6] rfl ?_
        exact j195 x7 x8 x9 x10 h (ok_inr hO)
      · have hO := ok_neg c9 hO
        refine rb hG 5 125 128 [.aload 0, .iload 11] [] [] [(0, .ref 251), (5, .int x5), (6, .int x6), (7, .int x7), (8, .int x8), (9, .int x9), (10, .int x10), (11, .int x11)] [.int x11, .ref 251] h [] (by decide +kernel) rfl trivial ?_
        refine rv hG z_M_laySeats 421 1 128 251 [.int x11] [] (by decide +kernel) mk_M_laySeats lk_12_421 rcv_251 rfl ⟨rfl, Nat.le_of_ble_eq_true rfl⟩ (c_M_laySeats (d := d + 5) h x11 (ok_bind hO)) ?_
        rintro _ h11 ⟨r10, rfl, hO⟩
        refine ri hG .eq (58) 189 131 (by decide +kernel) (by decide) (fun c12 => ?_) (fun c12 => ?_)
        · have hO := ok_pos c12 hO
          exact j189 x7 x8 x9 x10 x11 h11 hO
        · have hO := ok_neg c12 hO
          refine rb hG 4 134 135 [.aload 0] [] [] [(0, .ref 251), (5, .int x5), (6, .int x6), (7, .int x7), (8, .int x8), (9, .int x9), (10, .int x10), (11, .int x11)] [.ref 251] h11 [] (by decide +kernel) rfl trivial ?_
          refine rv hG z_M_areFulfilled 424 0 135 251 [] [] (by decide +kernel) mk_M_areFulfilled lk_12_424 rcv_251 rfl ⟨rfl, Nat.le_of_ble_eq_true rfl⟩ (c_M_areFulfilled (d := d + 4) h11 (ok_bind hO)) ?_
          rintro _ _ ⟨r13, rfl, rfl, hO⟩
          refine ri hG .eq (51) 189 138 (by decide +kernel) (by decide) (fun c14 => ?_) (fun c14 => ?_)
          · have hO := ok_pos c14 hO
            exact j189 x7 x8 x9 x10 x11 h11 hO
          · have hO := ok_neg c14 hO
            refine rbx hG 4 141 144 [.iinc 7 0] [1] [] ((x7 + (1 : Int32))) (fun y15 => [(7, .int y15), (0, .ref 251), (5, .int x5), (6, .int x6), (8, .int x8), (9, .int x9), (10, .int x10), (11, .int x11)]) (fun y15 => []) (fun y15 => h11) [] (by decide +kernel) rfl trivial hO (fun y15 hO => ?_)
            refine rb hG 4 144 145 [.aload 0] [] [] [(7, .int y15), (0, .ref 251), (5, .int x5), (6, .int x6), (8, .int x8), (9, .int x9), (10, .int x10), (11, .int x11)] [.ref 251] h11 [] (by decide +kernel) rfl trivial ?_
            refine rv hG z_M_harm 427 0 145 251 [] [] (by decide +kernel) mk_M_harm lk_12_427 rcv_251 rfl ⟨rfl, Nat.le_of_ble_eq_true rfl⟩ (c_M_harm (d := d + 5) h11 (ok_bind hO)) ?_
            rintro _ _ ⟨r16, rfl, rfl, hO⟩
            refine rb hG 5 148 151 [.istore 12, .aload 0] [] [] [(12, .int r16), (7, .int y15), (0, .ref 251), (5, .int x5), (6, .int x6), (8, .int x8), (9, .int x9), (10, .int x10), (11, .int x11)] [.ref 251] h11 [] (by decide +kernel) rfl trivial ?_
            refine rv hG z_M_pays 430 0 151 251 [] [] (by decide +kernel) mk_M_pays lk_12_430 rcv_251 rfl ⟨rfl, Nat.le_of_ble_eq_true rfl⟩ (c_M_pays (d := d + 5) h11 (ok_bind hO)) ?_
            rintro _ _ ⟨r17, rfl, rfl, hO⟩
            refine rb hG 6 154 160 [.istore 13, .iload 12, .iload 9] [] [] [(13, .int r17), (12, .int r16), (7, .int y15), (0, .ref 251), (5, .int x5), (6, .int x6), (8, .int x8), (9, .int x9), (10, .int x10), (11, .int x11)] [.int x9, .int r16] h11 [] (by decide +kernel) rfl trivial ?_
            refine rj hG .lt (17) 177 160 (by decide +kernel) (by decide) (fun c18 => ?_) (fun c18 => ?_)
            · have hO := ok_pos c18 hO
              refine rs hG [(0, .ref 251), (5, .int x5), (6, .int x6), (7, .int y15), (11, .int x11), (12, .int r16), (13, .int r17)] [3, 4, 5, 2, 9, 1, 0] rfl ?_
              exact j177 y15 x11 r16 r17 h11 hO
            · have hO := ok_neg c18 hO
              refine rb hG 5 163 167 [.iload 12, .iload 9] [] [] [(13, .int r17), (12, .int r16), (7, .int y15), (0, .ref 251), (5, .int x5), (6, .int x6), (8, .int x8), (9, .int x9), (10, .int x10), (11, .int x11)] [.int x9, .int r16] h11 [] (by decide +kernel) rfl trivial ?_
              refine rjN hG (22) 189 167 (by decide +kernel) (by decide) (fun c19 => ?_) (fun c19 => ?_)
              · have hO := ok_pos c19 hO
                refine rb hG 5 170 174 [.iload 13, .iload 10] [] [] [(13, .int r17), (12, .int r16), (7, .int y15), (0, .ref 251), (5, .int x5), (6, .int x6), (8, .int x8), (9, .int x9), (10, .int x10), (11, .int x11)] [.int x10, .int r17] h11 [] (by decide +kernel) rfl trivial ?_
                refine rj hG .ge (15) 189 174 (by decide +kernel) (by decide) (fun c20 => ?_) (fun c20 => ?_)
                · have hO := ok_pos c20 hO
                  refine rs hG [(0, .ref 251), (5, .int x5), (6, .int x6), (7, .int y15), (8, .int x8), (9, .int x9), (10, .int x10), (11, .int x11)] [3, 4, 5, 2, 6, 7, 8, 9] rfl ?_
                  exact j189 y15 x8 x9 x10 x11 h11 hO
                · have hO := ok_neg c20 hO
                  refine rs hG [(0, .ref 251), (5, .int x5), (6, .int x6), (7, .int y15), (11, .int x11), (12, .int r16), (13, .int r17)] [3, 4, 5, 2, 9, 1, 0] rfl ?_
                  exact j177 y15 x11 r16 r17 h11 hO
              · have hO := ok_neg c19 hO
                refine rs hG [(0, .ref 251), (5, .int x5), (6, .int x6), (7, .int y15), (8, .int x8), (9, .int x9), (10, .int x10), (11, .int x11)] [3, 4, 5, 2, 6, 7, 8, 9] rfl ?_
                exact j189 y15 x8 x9 x10 x11 h11 hO
    rw [eH118] at w9
    exact w9
  have j99 : ∀ (x6 : Int32) (h : Hp), Okk (M_seats_j99 x5 x6 h) P → G 99 [(0, .ref 251), (5, .int x5), (6, .int x6)] [] h := by
    intro x6 h hO
    unfold M_seats_j99 at hO
    refine rb hG 13 99 118 [.ldc_w 0, .istore 7, .ldc_w 1, .istore 8, .ldc_w 2, .istore 9, .ldc_w 2, .istore 10, .ldc_w 0, .istore 11] [0, -1, 1000000] [] [(11, .int (0 : Int32)), (10, .int (1000000 : Int32)), (9, .int (1000000 : Int32)), (8, .int (-1 : Int32)), (7, .int (0 : Int32)), (0, .ref 251), (5, .int x5), (6, .int x6)] [] h [] (by decide +kernel) rfl trivial ?_
    refine rs hG [(0, .ref 251), (5, .int x5), (6, .int x6), (7, .int (0 : Int32)), (8, .int (-1 : Int32)), (9, .int (1000000 : Int32)), (10, .int (1000000 : Int32)), (11, .int (0 : Int32))] [5, 6, 7, 4, 3, 2, 1, 0] rfl ?_
    exact l118 x6 (0 : Int32) (-1 : Int32) (1000000 : Int32) (1000000 : Int32) (0 : Int32) h hO
  have l75 : ∀ (x6 : Int32) (x7 : Int32) (h : Hp), Okk (M_seats_l75 x5 x6 x7 h) P → G 75 [(0, .ref 251), (5, .int x5), (6, .int x6), (7, .int x7)] [] h := by
    intro x6 x7 h hO
    obtain ⟨H75, eH75⟩ : ∃ q : (Int32 × Int32) → Prop, q = fun s => G 75 [(0, .ref 251), (5, .int x5), (6, .int (s.1)), (7, .int (s.2))] [] (h) := ⟨_, rfl⟩
    have w9 : H75 (x6, x7) := by
      refine lp_wp (f := fun s : (Int32 × Int32) => M_seats_b75 x5 s.1 s.2 h) (H := H75) (Q := P) ?_ (x6, x7) hO
      rintro ⟨x6, x7⟩ hO
      rw [eH75]
      show G 75 [(0, .ref 251), (5, .int x5), (6, .int x6), (7, .int x7)] [] h
      have k75 : ∀ s : (Int32 × Int32), H75 s → G 75 [(0, .ref 251), (5, .int x5), (6, .int (s.1)), (7, .int (s.2))] [] (h) := fun s q => by rw [eH75] at q; exact q
      replace hO : Okk (M_seats_b75 x5 x6 x7 h) (Sum.elim H75 P) := hO
      clear eH75
      unfold M_seats_b75 at hO
      refine rb hG 6 75 81 [.iload 7, .aload 0, .getfield 1225] [] [] [(0, .ref 251), (5, .int x5), (6, .int x6), (7, .int x7)] [.int (h.1 251 25), .int x7] h [kd 251 = 12] (by decide +kernel) rfl kd_251 ?_
      refine rj hG .ge (18) 99 81 (by decide +kernel) (by decide) (fun c21 => ?_) (fun c21 => ?_)
      · have hO := ok_pos c21 hO
        refine rs hG [(0, .ref 251), (5, .int x5), (6, .int x6)] [0, 1, 2] rfl ?_
        exact j99 x6 h (ok_inr hO)
      · have hO := ok_neg c21 hO
        refine rbx hG 8 84 93 [.iload 6, .aload 0, .getfield 1224, .imul, .istore 6] [] [] ((x6 * (h.1 251 24))) (fun y22 => [(6, .int y22), (0, .ref 251), (5, .int x5), (7, .int x7)]) (fun y22 => []) (fun y22 => h) [kd 251 = 12] (by decide +kernel) rfl kd_251 hO (fun y22 hO => ?_)
        refine rbx hG 4 93 96 [.iinc 7 0] [1] [] ((x7 + (1 : Int32))) (fun y23 => [(7, .int y23), (6, .int y22), (0, .ref 251), (5, .int x5)]) (fun y23 => []) (fun y23 => h) [] (by decide +kernel) rfl trivial hO (fun y23 hO => ?_)
        refine rb hG 4 96 75 [] [] [] [(7, .int y23), (6, .int y22), (0, .ref 251), (5, .int x5)] [] h [] (by decide +kernel) rfl trivial ?_
        refine rs hG [(0, .ref 251), (5, .int x5), (6, .int y22), (7, .int y23)] [2, 3, 1, 0] rfl ?_
        exact k75 (y22, y23) (ok_some (Q := (Sum.elim H75 P)) hO)
    rw [eH75] at w9
    exact w9
  have j69 : ∀ (h : Hp), Okk (M_seats_j69 x5 h) P → G 69 [(0, .ref 251), (5, .int x5)] [] h := by
    intro h hO
    unfold M_seats_j69 at hO
    refine rb hG 7 69 75 [.ldc_w 0, .istore 6, .ldc_w 1, .istore 7] [1, 0] [] [(7, .int (0 : Int32)), (6, .int (1 : Int32)), (0, .ref 251), (5, .int x5)] [] h [] (by decide +kernel) rfl trivial ?_
    refine rs hG [(0, .ref 251), (5, .int x5), (6, .int (1 : Int32)), (7, .int (0 : Int32))] [2, 3, 1, 0] rfl ?_
    exact l75 (1 : Int32) (0 : Int32) h hO
  refine rbx hG 6 0 5 [.aload 0, .ldc_w 0, .putfield 1200] [0] [] (wr h 251 0 (0 : Int32)) (fun h24 => [(0, .ref 251), (1, .int x1), (2, .int x2), (3, .int x3), (4, .int x4), (5, .int x5)]) (fun h24 => []) (fun h24 => h24) [kd 251 = 12] (by decide +kernel) rfl kd_251 hO (fun h24 hO => ?_)
  refine rb hG 5 5 8 [.aload 0, .iload 4] [] [] [(0, .ref 251), (1, .int x1), (2, .int x2), (3, .int x3), (4, .int x4), (5, .int x5)] [.int x4, .ref 251] h24 [] (by decide +kernel) rfl trivial ?_
  refine rv hG z_M_hasWishes 405 1 8 251 [.int x4] [] (by decide +kernel) mk_M_hasWishes lk_12_405 rcv_251 rfl ⟨rfl, Nat.le_of_ble_eq_true rfl⟩ (c_M_hasWishes (d := d + 5) h24 x4 (ok_bind hO)) ?_
  rintro _ h26 ⟨r25, rfl, hO⟩
  refine ri hG .eq (56) 67 11 (by decide +kernel) (by decide) (fun c27 => ?_) (fun c27 => ?_)
  · have hO := ok_pos c27 hO
    refine rs hG [] [] rfl ?_
    exact j67 h26 hO
  · have hO := ok_neg c27 hO
    refine rb hG 7 14 18 [.aload 0, .iload 1, .iload 2, .iload 3] [] [] [(0, .ref 251), (1, .int x1), (2, .int x2), (3, .int x3), (4, .int x4), (5, .int x5)] [.int x3, .int x2, .int x1, .ref 251] h26 [] (by decide +kernel) rfl trivial ?_
    refine rv hG z_M_layState 380 3 18 251 [.int x1, .int x2, .int x3] [] (by decide +kernel) mk_M_layState lk_12_380 rcv_251 rfl ⟨rfl, Nat.le_of_ble_eq_true rfl⟩ (c_M_layState (d := d) h26 x1 x2 x3 (ok_bind hO)) ?_
    rintro _ h29 ⟨r28, rfl, hO⟩
    refine ri hG .eq (46) 67 21 (by decide +kernel) (by decide) (fun c30 => ?_) (fun c30 => ?_)
    · have hO := ok_pos c30 hO
      refine rs hG [] [] rfl ?_
      exact j67 h29 hO
    · have hO := ok_neg c30 hO
      refine rb hG 4 24 25 [.aload 0] [] [] [(0, .ref 251), (1, .int x1), (2, .int x2), (3, .int x3), (4, .int x4), (5, .int x5)] [.ref 251] h29 [] (by decide +kernel) rfl trivial ?_
      refine rv hG z_M_allSeated 344 0 25 251 [] [] (by decide +kernel) mk_M_allSeated lk_12_344 rcv_251 rfl ⟨rfl, Nat.le_of_ble_eq_true rfl⟩ (c_M_allSeated (d := d + 7) h29 (ok_bind hO)) ?_
      rintro _ _ ⟨r31, rfl, rfl, hO⟩
      refine riN hG (39) 67 28 (by decide +kernel) (by decide) (fun c32 => ?_) (fun c32 => ?_)
      · have hO := ok_pos c32 hO
        refine rb hG 6 31 37 [.aload 0, .getfield 1225, .ldc_w 0] [6] [] [(0, .ref 251), (1, .int x1), (2, .int x2), (3, .int x3), (4, .int x4), (5, .int x5)] [.int (6 : Int32), .int (h29.1 251 25)] h29 [kd 251 = 12] (by decide +kernel) rfl kd_251 ?_
        refine rj hG .gt (30) 67 37 (by decide +kernel) (by decide) (fun c33 => ?_) (fun c33 => ?_)
        · have hO := ok_pos c33 hO
          refine rs hG [] [] rfl ?_
          exact j67 h29 hO
        · have hO := ok_neg c33 hO
          refine rb hG 6 40 44 [.iload 5, .ldc_w 0, .ldc_w 1] [0, 2] [] [(0, .ref 251), (1, .int x1), (2, .int x2), (3, .int x3), (4, .int x4), (5, .int x5)] [.int (2 : Int32), .int (0 : Int32), .int x5] h29 [] (by decide +kernel) rfl trivial ?_
          refine rt hG z_M_in 111 3 44 [.int x5, .int (0 : Int32), .int (2 : Int32)] [] (by decide +kernel) mk_M_in lk_12_111 rfl ⟨rfl, Nat.le_of_ble_eq_true rfl⟩ (c_M_in (d := d + 7) h29 x5 (0 : Int32) (2 : Int32) (ok_bind hO)) ?_
          rintro _ _ ⟨r34, rfl, rfl, hO⟩
          refine riN hG (22) 69 47 (by decide +kernel) (by decide) (fun c35 => ?_) (fun c35 => ?_)
          · have hO := ok_pos c35 hO
            refine rb hG 9 50 61 [.iload 5, .ldc_w 0, .ldc_w 1, .aload 0, .getfield 1225, .iadd] [10, 9] [] [(0, .ref 251), (1, .int x1), (2, .int x2), (3, .int x3), (4, .int x4), (5, .int x5)] [.int ((9 : Int32) + (h29.1 251 25)), .int (10 : Int32), .int x5] h29 [kd 251 = 12] (by decide +kernel) rfl kd_251 ?_
            refine rt hG z_M_in 111 3 61 [.int x5, .int (10 : Int32), .int ((9 : Int32) + (h29.1 251 25))] [] (by decide +kernel) mk_M_in lk_12_111 rfl ⟨rfl, Nat.le_of_ble_eq_true rfl⟩ (c_M_in (d := d + 7) h29 x5 (10 : Int32) ((9 : Int32) + (h29.1 251 25)) (ok_bind hO)) ?_
            rintro _ _ ⟨r36, rfl, rfl, hO⟩
            refine riN hG (5) 69 64 (by decide +kernel) (by decide) (fun c37 => ?_) (fun c37 => ?_)
            · have hO := ok_pos c37 hO
              refine rs hG [] [] rfl ?_
              exact j67 h29 hO
            · have hO := ok_neg c37 hO
              refine rs hG [(0, .ref 251), (5, .int x5)] [0, 5] rfl ?_
              exact j69 h29 hO
          · have hO := ok_neg c35 hO
            refine rs hG [(0, .ref 251), (5, .int x5)] [0, 5] rfl ?_
            exact j69 h29 hO
      · have hO := ok_neg c32 hO
        refine rs hG [] [] rfl ?_
        exact j67 h29 hO
/-! GrainInn.Bench.copyFrom(LGrainInn$Bench;)V -/
noncomputable def B_copyFrom_j39 (x0 : Nat) (x1 : Nat) (h : Hp) : Option Hp := if kd x1 = 0 then (bnd (wr h x0 4 (h.1 x1 4)) fun h2 => bnd (wr h2 x0 5 (h2.1 x1 5)) fun h3 => bnd (wr h3 x0 6 (h3.1 x1 6)) fun h4 => some h4) else none
noncomputable def B_copyFrom_b6 (x0 : Nat) (x1 : Nat) (x2 : Int32) (h : Hp) : Option ((Int32 × Hp) ⊕ Hp) := if kd x1 = 0 then (if (h.1 x1 3) ≤ x2 then (((B_copyFrom_j39 x0 x1 h).map Sum.inr)) else ((B_guestsOf h x1 x2).bind fun r7 => (B_wordsOf h x1 x2).bind fun r8 => (B_nightOf h x1 x2).bind fun r9 => (B_append h x0 r7 r8 r9).bind fun h10 => bnd ((x2 + (1 : Int32))) fun y11 => some (.inl (y11, h10)))) else none
noncomputable def B_copyFrom_l6 (x0 : Nat) (x1 : Nat) (x2 : Int32) (h : Hp) : Option Hp := lp (fun s : (Int32 × Hp) => B_copyFrom_b6 x0 x1 s.1 s.2) (x2, h)
theorem B_copyFrom_l6_eq (x0 : Nat) (x1 : Nat) (x2 : Int32) (h : Hp) : B_copyFrom_l6 x0 x1 x2 h = (B_copyFrom_b6 x0 x1 x2 h).bind (Sum.elim (fun q : (Int32 × Hp) => B_copyFrom_l6 x0 x1 q.1 q.2) some) := lp_eq _ _
noncomputable def B_copyFrom (h : Hp) (x0 : Nat) (x1 : Nat) : Option Hp := if kd x0 = 0 then ((B_clear h x0).bind fun h12 => (B_copyFrom_l6 x0 x1 (0 : Int32) h12)) else none
set_option maxRecDepth 100000 in
set_option maxHeartbeats 4000000 in
theorem c_B_copyFrom {E : En} {d : Nat} (h : Hp) (x0 : Nat) (x1 : Nat) {P : Hp → Prop} (hO : Okk (B_copyFrom h x0 x1) P) : Cn E (d + 2) z_B_copyFrom [.ref x0, .ref x1] h (RV P) := by
  refine cn_of (on := 0) (d := d + 1) ⟨rfl, by decide +kernel, Nat.le_of_ble_eq_true rfl⟩ (fun G hG => ?_)
  unfold B_copyFrom at hO
  show G 0 [(0, .ref x0), (1, .ref x1)] [] h
  obtain ⟨g0, hO⟩ := ok_if hO
  have j39 : ∀ (h : Hp), Okk (B_copyFrom_j39 x0 x1 h) P → G 39 [(0, .ref x0), (1, .ref x1)] [] h := by
    intro h hO
    unfold B_copyFrom_j39 at hO
    obtain ⟨g1, hO⟩ := ok_if hO
    refine rbx hG 7 39 47 [.aload 0, .aload 1, .getfield 4, .putfield 4] [] [] (wr h x0 4 (h.1 x1 4)) (fun h2 => [(0, .ref x0), (1, .ref x1)]) (fun h2 => []) (fun h2 => h2) [kd x1 = 0, kd x0 = 0] (by decide +kernel) rfl ⟨g1, g0⟩ hO (fun h2 hO => ?_)
    refine rbx hG 7 47 55 [.aload 0, .aload 1, .getfield 5, .putfield 5] [] [] (wr h2 x0 5 (h2.1 x1 5)) (fun h3 => [(0, .ref x0), (1, .ref x1)]) (fun h3 => []) (fun h3 => h3) [kd x1 = 0, kd x0 = 0] (by decide +kernel) rfl ⟨g1, g0⟩ hO (fun h3 hO => ?_)
    refine rbx hG 7 55 63 [.aload 0, .aload 1, .getfield 6, .putfield 6] [] [] (wr h3 x0 6 (h3.1 x1 6)) (fun h4 => [(0, .ref x0), (1, .ref x1)]) (fun h4 => []) (fun h4 => h4) [kd x1 = 0, kd x0 = 0] (by decide +kernel) rfl ⟨g1, g0⟩ hO (fun h4 hO => ?_)
    exact eV hG 63 (by decide +kernel) rfl ⟨rfl, ok_some (Q := P) hO⟩
  have l6 : ∀ (x2 : Int32) (h : Hp), Okk (B_copyFrom_l6 x0 x1 x2 h) P → G 6 [(0, .ref x0), (1, .ref x1), (2, .int x2)] [] h := by
    intro x2 h hO
    obtain ⟨H6, eH6⟩ : ∃ q : (Int32 × Hp) → Prop, q = fun s => G 6 [(0, .ref x0), (1, .ref x1), (2, .int (s.1))] [] (s.2) := ⟨_, rfl⟩
    have w9 : H6 (x2, h) := by
      refine lp_wp (f := fun s : (Int32 × Hp) => B_copyFrom_b6 x0 x1 s.1 s.2) (H := H6) (Q := P) ?_ (x2, h) hO
      rintro ⟨x2, h⟩ hO
      rw [eH6]
      show G 6 [(0, .ref x0), (1, .ref x1), (2, .int x2)] [] h
      have k6 : ∀ s : (Int32 × Hp), H6 s → G 6 [(0, .ref x0), (1, .ref x1), (2, .int (s.1))] [] (s.2) := fun s q => by rw [eH6] at q; exact q
      replace hO : Okk (B_copyFrom_b6 x0 x1 x2 h) (Sum.elim H6 P) := hO
      clear eH6
      unfold B_copyFrom_b6 at hO
      obtain ⟨g5, hO⟩ := ok_if hO
      refine rb hG 6 6 11 [.iload 2, .aload 1, .getfield 3] [] [] [(0, .ref x0), (1, .ref x1), (2, .int x2)] [.int (h.1 x1 3), .int x2] h [kd x1 = 0] (by decide +kernel) rfl g5 ?_
      refine rj hG .ge (28) 39 11 (by decide +kernel) (by decide) (fun c6 => ?_) (fun c6 => ?_)
      · have hO := ok_pos c6 hO
        refine rs hG [(0, .ref x0), (1, .ref x1)] [0, 1] rfl ?_
        exact j39 h (ok_inr hO)
      · have hO := ok_neg c6 hO
        refine rb hG 6 14 17 [.aload 0, .aload 1, .iload 2] [] [] [(0, .ref x0), (1, .ref x1), (2, .int x2)] [.int x2, .ref x1, .ref x0] h [] (by decide +kernel) rfl trivial ?_
        refine rv hG z_B_guestsOf 37 1 17 x1 [.int x2] [.ref x0] (by decide +kernel) mk_B_guestsOf lk_0_37 (rcv_B g5) rfl ⟨rfl, Nat.le_of_ble_eq_true rfl⟩ (c_B_guestsOf (d := d) h x1 x2 (ok_bind hO)) ?_
        rintro _ _ ⟨r7, rfl, rfl, hO⟩
        refine rb hG 5 20 22 [.aload 1, .iload 2] [] [] [(0, .ref x0), (1, .ref x1), (2, .int x2)] [.int x2, .ref x1, .int r7, .ref x0] h [] (by decide +kernel) rfl trivial ?_
        refine rv hG z_B_wordsOf 41 1 22 x1 [.int x2] [.int r7, .ref x0] (by decide +kernel) mk_B_wordsOf lk_0_41 (rcv_B g5) rfl ⟨rfl, Nat.le_of_ble_eq_true rfl⟩ (c_B_wordsOf (d := d) h x1 x2 (ok_bind hO)) ?_
        rintro _ _ ⟨r8, rfl, rfl, hO⟩
        refine rb hG 5 25 27 [.aload 1, .iload 2] [] [] [(0, .ref x0), (1, .ref x1), (2, .int x2)] [.int x2, .ref x1, .int r8, .int r7, .ref x0] h [] (by decide +kernel) rfl trivial ?_
        refine rv hG z_B_nightOf 44 1 27 x1 [.int x2] [.int r8, .int r7, .ref x0] (by decide +kernel) mk_B_nightOf lk_0_44 (rcv_B g5) rfl ⟨rfl, Nat.le_of_ble_eq_true rfl⟩ (c_B_nightOf (d := d) h x1 x2 (ok_bind hO)) ?_
        rintro _ _ ⟨r9, rfl, rfl, hO⟩
        refine rv hG z_B_append 47 3 30 x0 [.int r7, .int r8, .int r9] [] (by decide +kernel) mk_B_append lk_0_47 (rcv_B g0) rfl ⟨rfl, Nat.le_of_ble_eq_true rfl⟩ (c_B_append (d := d) h x0 r7 r8 r9 (ok_bind hO)) ?_
        rintro _ h10 ⟨rfl, hO⟩
        refine rbx hG 4 33 36 [.iinc 2 0] [1] [] ((x2 + (1 : Int32))) (fun y11 => [(2, .int y11), (0, .ref x0), (1, .ref x1)]) (fun y11 => []) (fun y11 => h10) [] (by decide +kernel) rfl trivial hO (fun y11 hO => ?_)
        refine rb hG 4 36 6 [] [] [] [(2, .int y11), (0, .ref x0), (1, .ref x1)] [] h10 [] (by decide +kernel) rfl trivial ?_
        refine rs hG [(0, .ref x0), (1, .ref x1), (2, .int y11)] [1, 2, 0] rfl ?_
        exact k6 (y11, h10) (ok_some (Q := (Sum.elim H6 P)) hO)
    rw [eH6] at w9
    exact w9
  refine rb hG 4 0 1 [.aload 0] [] [] [(0, .ref x0), (1, .ref x1)] [.ref x0] h [] (by decide +kernel) rfl trivial ?_
  refine rv hG z_B_clear 34 0 1 x0 [] [] (by decide +kernel) mk_B_clear lk_0_34 (rcv_B g0) rfl ⟨rfl, Nat.le_of_ble_eq_true rfl⟩ (c_B_clear (d := d) h x0 (ok_bind hO)) ?_
  rintro _ h12 ⟨rfl, hO⟩
  refine rb hG 5 4 6 [.ldc_w 0, .istore 2] [0] [] [(2, .int (0 : Int32)), (0, .ref x0), (1, .ref x1)] [] h12 [] (by decide +kernel) rfl trivial ?_
  refine rs hG [(0, .ref x0), (1, .ref x1), (2, .int (0 : Int32))] [1, 2, 0] rfl ?_
  exact l6 (0 : Int32) h12 hO
/-! GrainInn.Rounds.tryFrom(LGrainInn$State;I)V -/
noncomputable def N_tryFrom_j47 (x1 : Nat) (h : Hp) : Option Hp := some h
noncomputable def N_tryFrom (h : Hp) (x1 : Nat) (x2 : Int32) : Option Hp := if x1 = 57 then ((S_benchAt h x2).bind fun r2 => if r2 = 0 then ((B_clear h 91).bind fun h4 => (N_tryFrom_j47 x1 h4)) else ((B_copyFrom h 91 r2).bind fun h5 => if kd (Int32.toNatClampNeg (h5.1 57 6)) = 1 then ((H_keepsOf h5 (Int32.toNatClampNeg (h5.1 57 6)) x2).bind fun r7 => (B_endNight h5 91 (h5.1 57 7) r7).bind fun h8 => (N_tryFrom_j47 x1 h8)) else none)) else none
set_option maxRecDepth 100000 in
set_option maxHeartbeats 4000000 in
theorem c_N_tryFrom {E : En} {d : Nat} (h : Hp) (x1 : Nat) (x2 : Int32) {P : Hp → Prop} (hO : Okk (N_tryFrom h x1 x2) P) : Cn E (d + 3) z_N_tryFrom [.ref 90, .ref x1, .int x2] h (RV P) := by
  refine cn_of (on := 5) (d := d + 2) ⟨rfl, by decide +kernel, Nat.le_of_ble_eq_true rfl⟩ (fun G hG => ?_)
  unfold N_tryFrom at hO
  show G 0 [(0, .ref 90), (1, .ref x1), (2, .int x2)] [] h
  have j47 : ∀ (h : Hp), Okk (N_tryFrom_j47 x1 h) P → G 47 [] [] h := by
    intro h hO
    unfold N_tryFrom_j47 at hO
    exact eV hG 47 (by decide +kernel) rfl ⟨rfl, ok_some (Q := P) hO⟩
  obtain ⟨g1, hOg1⟩ := ok_if hO
  subst g1
  have hO := hOg1
  refine rb hG 5 0 2 [.aload 1, .iload 2] [] [] [(0, .ref 90), (1, .ref 57), (2, .int x2)] [.int x2, .ref 57] h [] (by decide +kernel) rfl trivial ?_
  refine rv hG z_S_benchAt 48 1 2 57 [.int x2] [] (by decide +kernel) mk_S_benchAt lk_5_48 rcv_57 rfl ⟨rfl, Nat.le_of_ble_eq_true rfl⟩ (c_S_benchAt (d := d) h x2 (ok_bind hO)) ?_
  rintro _ _ ⟨r2, rfl, rfl, hO⟩
  refine rb hG 5 5 7 [.astore 3, .aload 3] [] [] [(3, .ref r2), (0, .ref 90), (1, .ref 57), (2, .int x2)] [.ref r2] h [] (by decide +kernel) rfl trivial ?_
  refine rnn hG (13) 20 7 (by decide +kernel) (by decide) (fun c3 => ?_) (fun c3 => ?_)
  · have hO := ok_pos c3 hO
    refine rb hG 5 10 14 [.aload 0, .invokeinterface 500 1] [] [] [(3, .ref r2), (0, .ref 90), (1, .ref 57), (2, .int x2)] [.ref 91] h [kd 90 = 5] (by decide +kernel) rfl kd_90 ?_
    refine rv hG z_B_clear 54 0 14 91 [] [] (by decide +kernel) mk_B_clear lk_5_54 rcv_91 rfl ⟨rfl, Nat.le_of_ble_eq_true rfl⟩ (c_B_clear (d := d + 1) h 91 (ok_bind hO)) ?_
    rintro _ h4 ⟨rfl, hO⟩
    refine rb hG 4 17 47 [] [] [] [(3, .ref r2), (0, .ref 90), (1, .ref 57), (2, .int x2)] [] h4 [] (by decide +kernel) rfl trivial ?_
    refine rs hG [] [] rfl ?_
    exact j47 h4 hO
  · have hO := ok_neg c3 hO
    refine rb hG 6 20 25 [.aload 0, .invokeinterface 500 1, .aload 3] [] [] [(3, .ref r2), (0, .ref 90), (1, .ref 57), (2, .int x2)] [.ref r2, .ref 91] h [kd 90 = 5] (by decide +kernel) rfl kd_90 ?_
    refine rv hG z_B_copyFrom 57 1 25 91 [.ref r2] [] (by decide +kernel) mk_B_copyFrom lk_5_57 rcv_91 rfl ⟨rfl, Nat.le_of_ble_eq_true rfl⟩ (c_B_copyFrom (d := d) h 91 r2 (ok_bind hO)) ?_
    rintro _ h5 ⟨rfl, hO⟩
    obtain ⟨g6, hO⟩ := ok_if hO
    refine rb hG 10 28 41 [.aload 0, .invokeinterface 500 1, .aload 1, .getfield 707, .aload 1, .instanceof 706, .iload 2] [] [] [(3, .ref r2), (0, .ref 90), (1, .ref 57), (2, .int x2)] [.int x2, .ref (Int32.toNatClampNeg (h5.1 57 6)), .int (h5.1 57 7), .ref 91] h5 [kd 90 = 5, kd 57 = 7, kd 57 = 7] (by decide +kernel) rfl ⟨kd_90, kd_57, kd_57⟩ ?_
    refine rv hG z_H_keepsOf 68 1 41 (Int32.toNatClampNeg (h5.1 57 6)) [.int x2] [.int (h5.1 57 7), .ref 91] (by decide +kernel) mk_H_keepsOf lk_5_68 (rcv_H g6) rfl ⟨rfl, Nat.le_of_ble_eq_true rfl⟩ (c_H_keepsOf (d := d) h5 (Int32.toNatClampNeg (h5.1 57 6)) x2 (ok_bind hO)) ?_
    rintro _ _ ⟨r7, rfl, rfl, hO⟩
    refine rv hG z_B_endNight 74 2 44 91 [.int (h5.1 57 7), .int r7] [] (by decide +kernel) mk_B_endNight lk_5_74 rcv_91 rfl ⟨rfl, Nat.le_of_ble_eq_true rfl⟩ (c_B_endNight (d := d) h5 91 (h5.1 57 7) r7 (ok_bind hO)) ?_
    rintro _ h8 ⟨rfl, hO⟩
    refine rs hG [] [] rfl ?_
    exact j47 h8 hO
/-! GrainInn.Bench.sitQuietly(II)V -/
noncomputable def B_sitQuietly (h : Hp) (x0 : Nat) (x1 : Int32) (x2 : Int32) : Option Hp := if kd x0 = 0 then ((B_turnOn h x0).bind fun h1 => (B_append h1 x0 (0 : Int32) (0 : Int32) x1).bind fun h2 => (B_forgetFirst h2 x0 ((h2.1 x0 3) - x2)).bind fun h3 => some h3) else none
set_option maxRecDepth 100000 in
set_option maxHeartbeats 4000000 in
theorem c_B_sitQuietly {E : En} {d : Nat} (h : Hp) (x0 : Nat) (x1 : Int32) (x2 : Int32) {P : Hp → Prop} (hO : Okk (B_sitQuietly h x0 x1 x2) P) : Cn E (d + 2) z_B_sitQuietly [.ref x0, .int x1, .int x2] h (RV P) := by
  refine cn_of (on := 0) (d := d + 1) ⟨rfl, by decide +kernel, Nat.le_of_ble_eq_true rfl⟩ (fun G hG => ?_)
  unfold B_sitQuietly at hO
  show G 0 [(0, .ref x0), (1, .int x1), (2, .int x2)] [] h
  obtain ⟨g0, hO⟩ := ok_if hO
  refine rb hG 4 0 1 [.aload 0] [] [] [(0, .ref x0), (1, .int x1), (2, .int x2)] [.ref x0] h [] (by decide +kernel) rfl trivial ?_
  refine rv hG z_B_turnOn 61 0 1 x0 [] [] (by decide +kernel) mk_B_turnOn lk_0_61 (rcv_B g0) rfl ⟨rfl, Nat.le_of_ble_eq_true rfl⟩ (c_B_turnOn (d := d) h x0 (ok_bind hO)) ?_
  rintro _ h1 ⟨rfl, hO⟩
  refine rb hG 7 4 8 [.aload 0, .ldc_w 0, .ldc_w 0, .iload 1] [0] [] [(0, .ref x0), (1, .int x1), (2, .int x2)] [.int x1, .int (0 : Int32), .int (0 : Int32), .ref x0] h1 [] (by decide +kernel) rfl trivial ?_
  refine rv hG z_B_append 47 3 8 x0 [.int (0 : Int32), .int (0 : Int32), .int x1] [] (by decide +kernel) mk_B_append lk_0_47 (rcv_B g0) rfl ⟨rfl, Nat.le_of_ble_eq_true rfl⟩ (c_B_append (d := d) h1 x0 (0 : Int32) (0 : Int32) x1 (ok_bind hO)) ?_
  rintro _ h2 ⟨rfl, hO⟩
  refine rb hG 8 11 18 [.aload 0, .aload 0, .getfield 3, .iload 2, .isub] [] [] [(0, .ref x0), (1, .int x1), (2, .int x2)] [.int ((h2.1 x0 3) - x2), .ref x0] h2 [kd x0 = 0] (by decide +kernel) rfl g0 ?_
  refine rv hG z_B_forgetFirst 57 1 18 x0 [.int ((h2.1 x0 3) - x2)] [] (by decide +kernel) mk_B_forgetFirst lk_0_57 (rcv_B g0) rfl ⟨rfl, Nat.le_of_ble_eq_true rfl⟩ (c_B_forgetFirst (d := d) h2 x0 ((h2.1 x0 3) - x2) (ok_bind hO)) ?_
  rintro _ h3 ⟨rfl, hO⟩
  exact eV hG 21 (by decide +kernel) rfl ⟨rfl, ok_some (Q := P) hO⟩
/-! GrainInn.Rounds.awaitWord(LGrainInn$State;II)V -/
noncomputable def N_awaitWord_j114 (x1 : Nat) (h : Hp) : Option Hp := some h
noncomputable def N_awaitWord_j89 (x1 : Nat) (x2 : Int32) (x3 : Int32) (x4 : Int32) (h : Hp) : Option ((Int32 × Hp) ⊕ Hp) := if x1 = 57 then (if kd (Int32.toNatClampNeg (h.1 57 6)) = 1 then ((H_keepsOf h (Int32.toNatClampNeg (h.1 57 6)) x2).bind fun r3 => (B_sitQuietly h 91 (h.1 57 7) r3).bind fun h4 => bnd ((x4 + (1 : Int32))) fun y5 => some (.inl (y5, h4))) else none) else none
noncomputable def N_awaitWord_j70 (x1 : Nat) (x2 : Int32) (x3 : Int32) (x4 : Int32) (s1 : Int32) (h : Hp) : Option ((Int32 × Hp) ⊕ Hp) := bnd (wr h 90 5 s1) fun h6 => bnd (wr h6 90 6 x4) fun h7 => bnd (wr h7 90 7 ((h7.1 90 7) + (1 : Int32))) fun h8 => (N_awaitWord_j89 x1 x2 x3 x4 h8)
noncomputable def N_awaitWord_b24 (x1 : Nat) (x2 : Int32) (x3 : Int32) (x4 : Int32) (h : Hp) : Option ((Int32 × Hp) ⊕ Hp) := if (6 : Int32) < x4 then (((N_awaitWord_j114 x1 h).map Sum.inr)) else ((B_wordsOf h 91 (h.1 91 4)).bind fun r10 => (K_isIn r10 x3).bind fun r11 => if r11 = 0 then ((N_awaitWord_j89 x1 x2 x3 x4 h)) else (if (h.1 90 5) = (-1 : Int32) then ((N_awaitWord_j70 x1 x2 x3 x4 x4 h)) else ((N_awaitWord_j70 x1 x2 x3 x4 (h.1 90 5) h))))
noncomputable def N_awaitWord_l24 (x1 : Nat) (x2 : Int32) (x3 : Int32) (x4 : Int32) (h : Hp) : Option Hp := lp (fun s : (Int32 × Hp) => N_awaitWord_b24 x1 x2 x3 s.1 s.2) (x4, h)
theorem N_awaitWord_l24_eq (x1 : Nat) (x2 : Int32) (x3 : Int32) (x4 : Int32) (h : Hp) : N_awaitWord_l24 x1 x2 x3 x4 h = (N_awaitWord_b24 x1 x2 x3 x4 h).bind (Sum.elim (fun q : (Int32 × Hp) => N_awaitWord_l24 x1 x2 x3 q.1 q.2) some) := lp_eq _ _
noncomputable def N_awaitWord (h : Hp) (x1 : Nat) (x2 : Int32) (x3 : Int32) : Option Hp := bnd (wr h 90 5 (-1 : Int32)) fun h14 => bnd (wr h14 90 6 (-1 : Int32)) fun h15 => bnd (wr h15 90 7 (0 : Int32)) fun h16 => (N_tryFrom h16 x1 x2).bind fun h17 => (N_awaitWord_l24 x1 x2 x3 (1 : Int32) h17)
set_option maxRecDepth 100000 in
set_option maxHeartbeats 4000000 in
theorem c_N_awaitWord {E : En} {d : Nat} (h : Hp) (x1 : Nat) (x2 : Int32) (x3 : Int32) {P : Hp → Prop} (hO : Okk (N_awaitWord h x1 x2 x3) P) : Cn E (d + 4) z_N_awaitWord [.ref 90, .ref x1, .int x2, .int x3] h (RV P) := by
  refine cn_of (on := 5) (d := d + 3) ⟨rfl, by decide +kernel, Nat.le_of_ble_eq_true rfl⟩ (fun G hG => ?_)
  unfold N_awaitWord at hO
  show G 0 [(0, .ref 90), (1, .ref x1), (2, .int x2), (3, .int x3)] [] h
  have j114 : ∀ (h : Hp), Okk (N_awaitWord_j114 x1 h) P → G 114 [] [] h := by
    intro h hO
    unfold N_awaitWord_j114 at hO
    exact eV hG 114 (by decide +kernel) rfl ⟨rfl, ok_some (Q := P) hO⟩
  have l24 : ∀ (x4 : Int32) (h : Hp), Okk (N_awaitWord_l24 x1 x2 x3 x4 h) P → G 24 [(0, .ref 90), (1, .ref x1), (2, .int x2), (3, .int x3), (4, .int x4)] [] h := by
    intro x4 h hO
    obtain ⟨H24, eH24⟩ : ∃ q : (Int32 × Hp) → Prop, q = fun s => G 24 [(0, .ref 90), (1, .ref x1), (2, .int x2), (3, .int x3), (4, .int (s.1))] [] (s.2) := ⟨_, rfl⟩
    have w9 : H24 (x4, h) := by
      refine lp_wp (f := fun s : (Int32 × Hp) => N_awaitWord_b24 x1 x2 x3 s.1 s.2) (H := H24) (Q := P) ?_ (x4, h) hO
      rintro ⟨x4, h⟩ hO
      rw [eH24]
      show G 24 [(0, .ref 90), (1, .ref x1), (2, .int x2), (3, .int x3), (4, .int x4)] [] h
      have k24 : ∀ s : (Int32 × Hp), H24 s → G 24 [(0, .ref 90), (1, .ref x1), (2, .int x2), (3, .int x3), (4, .int (s.1))] [] (s.2) := fun s q => by rw [eH24] at q; exact q
      replace hO : Okk (N_awaitWord_b24 x1 x2 x3 x4 h) (Sum.elim H24 P) := hO
      clear eH24
      have j89 : ∀ (x4 : Int32) (h : Hp), Okk (N_awaitWord_j89 x1 x2 x3 x4 h) (Sum.elim H24 P) → G 89 [(0, .ref 90), (1, .ref x1), (2, .int x2), (3, .int x3), (4, .int x4)] [] h := by
        intro x4 h hO
        unfold N_awaitWord_j89 at hO
        obtain ⟨g1, hOg1⟩ := ok_if hO
        subst g1
        have hO := hOg1
        obtain ⟨g2, hO⟩ := ok_if hO
        refine rb hG 10 89 102 [.aload 0, .invokeinterface 500 1, .aload 1, .getfield 707, .aload 1, .instanceof 706, .iload 2] [] [] [(0, .ref 90), (1, .ref 57), (2, .int x2), (3, .int x3), (4, .int x4)] [.int x2, .ref (Int32.toNatClampNeg (h.1 57 6)), .int (h.1 57 7), .ref 91] h [kd 90 = 5, kd 57 = 7, kd 57 = 7] (by decide +kernel) rfl ⟨kd_90, kd_57, kd_57⟩ ?_
        refine rv hG z_H_keepsOf 68 1 102 (Int32.toNatClampNeg (h.1 57 6)) [.int x2] [.int (h.1 57 7), .ref 91] (by decide +kernel) mk_H_keepsOf lk_5_68 (rcv_H g2) rfl ⟨rfl, Nat.le_of_ble_eq_true rfl⟩ (c_H_keepsOf (d := d + 1) h (Int32.toNatClampNeg (h.1 57 6)) x2 (ok_bind hO)) ?_
        rintro _ _ ⟨r3, rfl, rfl, hO⟩
        refine rv hG z_B_sitQuietly 92 2 105 91 [.int (h.1 57 7), .int r3] [] (by decide +kernel) mk_B_sitQuietly lk_5_92 rcv_91 rfl ⟨rfl, Nat.le_of_ble_eq_true rfl⟩ (c_B_sitQuietly (d := d + 1) h 91 (h.1 57 7) r3 (ok_bind hO)) ?_
        rintro _ h4 ⟨rfl, hO⟩
        refine rbx hG 4 108 111 [.iinc 4 0] [1] [] ((x4 + (1 : Int32))) (fun y5 => [(4, .int y5), (0, .ref 90), (1, .ref 57), (2, .int x2), (3, .int x3)]) (fun y5 => []) (fun y5 => h4) [] (by decide +kernel) rfl trivial hO (fun y5 hO => ?_)
        refine rb hG 4 111 24 [] [] [] [(4, .int y5), (0, .ref 90), (1, .ref 57), (2, .int x2), (3, .int x3)] [] h4 [] (by decide +kernel) rfl trivial ?_
        refine rs hG [(0, .ref 90), (1, .ref 57), (2, .int x2), (3, .int x3), (4, .int y5)] [1, 2, 3, 4, 0] rfl ?_
        exact k24 (y5, h4) (ok_some (Q := (Sum.elim H24 P)) hO)
      have j70 : ∀ (x4 : Int32) (s1 : Int32) (h : Hp), Okk (N_awaitWord_j70 x1 x2 x3 x4 s1 h) (Sum.elim H24 P) → G 70 [(0, .ref 90), (1, .ref x1), (2, .int x2), (3, .int x3), (4, .int x4)] [.int s1, .ref 90] h := by
        intro x4 s1 h hO
        unfold N_awaitWord_j70 at hO
        refine rbx hG 4 70 73 [.putfield 505] [] [] (wr h 90 5 s1) (fun h6 => [(0, .ref 90), (1, .ref x1), (2, .int x2), (3, .int x3), (4, .int x4)]) (fun h6 => []) (fun h6 => h6) [kd 90 = 5] (by decide +kernel) rfl kd_90 hO (fun h6 hO => ?_)
        refine rbx hG 6 73 79 [.aload 0, .iload 4, .putfield 506] [] [] (wr h6 90 6 x4) (fun h7 => [(0, .ref 90), (1, .ref x1), (2, .int x2), (3, .int x3), (4, .int x4)]) (fun h7 => []) (fun h7 => h7) [kd 90 = 5] (by decide +kernel) rfl kd_90 hO (fun h7 hO => ?_)
        refine rbx hG 9 79 89 [.aload 0, .dup, .getfield 507, .ldc_w 0, .iadd, .putfield 507] [1] [] (wr h7 90 7 ((h7.1 90 7) + (1 : Int32))) (fun h8 => [(0, .ref 90), (1, .ref x1), (2, .int x2), (3, .int x3), (4, .int x4)]) (fun h8 => []) (fun h8 => h8) [kd 90 = 5, kd 90 = 5] (by decide +kernel) rfl ⟨kd_90, kd_90⟩ hO (fun h8 hO => ?_)
        exact j89 x4 h8 hO
      unfold N_awaitWord_b24 at hO
      refine rb hG 5 24 28 [.iload 4, .ldc_w 0] [6] [] [(0, .ref 90), (1, .ref x1), (2, .int x2), (3, .int x3), (4, .int x4)] [.int (6 : Int32), .int x4] h [] (by decide +kernel) rfl trivial ?_
      refine rj hG .gt (86) 114 28 (by decide +kernel) (by decide) (fun c9 => ?_) (fun c9 => ?_)
      · have hO := ok_pos c9 hO
        refine rs hG [] [] rfl ?_
        exact j114 h (ok_inr hO)
      · have hO := ok_neg c9 hO
        refine rb hG 8 31 42 [.aload 0, .invokeinterface 500 1, .aload 0, .invokeinterface 500 1, .getfield 4] [] [] [(0, .ref 90), (1, .ref x1), (2, .int x2), (3, .int x3), (4, .int x4)] [.int (h.1 91 4), .ref 91] h [kd 90 = 5, kd 90 = 5, kd 91 = 0] (by decide +kernel) rfl ⟨kd_90, kd_90, kd_91⟩ ?_
        refine rv hG z_B_wordsOf 85 1 42 91 [.int (h.1 91 4)] [] (by decide +kernel) mk_B_wordsOf lk_5_85 rcv_91 rfl ⟨rfl, Nat.le_of_ble_eq_true rfl⟩ (c_B_wordsOf (d := d + 2) h 91 (h.1 91 4) (ok_bind hO)) ?_
        rintro _ _ ⟨r10, rfl, rfl, hO⟩
        refine rb hG 4 45 46 [.iload 3] [] [] [(0, .ref 90), (1, .ref x1), (2, .int x2), (3, .int x3), (4, .int x4)] [.int x3, .int r10] h [] (by decide +kernel) rfl trivial ?_
        refine rt hG z_K_isIn 88 2 46 [.int r10, .int x3] [] (by decide +kernel) mk_K_isIn lk_5_88 rfl ⟨rfl, Nat.le_of_ble_eq_true rfl⟩ (c_K_isIn (d := d + 2) h r10 x3 (ok_bind hO)) ?_
        rintro _ _ ⟨r11, rfl, rfl, hO⟩
        refine ri hG .eq (40) 89 49 (by decide +kernel) (by decide) (fun c12 => ?_) (fun c12 => ?_)
        · have hO := ok_pos c12 hO
          exact j89 x4 h hO
        · have hO := ok_neg c12 hO
          refine rb hG 7 52 58 [.aload 0, .aload 0, .getfield 505, .ldc_w 0] [-1] [] [(0, .ref 90), (1, .ref x1), (2, .int x2), (3, .int x3), (4, .int x4)] [.int (-1 : Int32), .int (h.1 90 5), .ref 90] h [kd 90 = 5] (by decide +kernel) rfl kd_90 ?_
          refine rjN hG (8) 66 58 (by decide +kernel) (by decide) (fun c13 => ?_) (fun c13 => ?_)
          · have hO := ok_pos c13 hO
            refine rb hG 5 61 70 [.iload 4] [] [] [(0, .ref 90), (1, .ref x1), (2, .int x2), (3, .int x3), (4, .int x4)] [.int x4, .ref 90] h [] (by decide +kernel) rfl trivial ?_
            exact j70 x4 x4 h hO
          · have hO := ok_neg c13 hO
            refine rb hG 5 66 70 [.aload 0, .getfield 505] [] [] [(0, .ref 90), (1, .ref x1), (2, .int x2), (3, .int x3), (4, .int x4)] [.int (h.1 90 5), .ref 90] h [kd 90 = 5] (by decide +kernel) rfl kd_90 ?_
            exact j70 x4 (h.1 90 5) h hO
    rw [eH24] at w9
    exact w9
  refine rbx hG 6 0 5 [.aload 0, .ldc_w 0, .putfield 505] [-1] [] (wr h 90 5 (-1 : Int32)) (fun h14 => [(0, .ref 90), (1, .ref x1), (2, .int x2), (3, .int x3)]) (fun h14 => []) (fun h14 => h14) [kd 90 = 5] (by decide +kernel) rfl kd_90 hO (fun h14 hO => ?_)
  refine rbx hG 6 5 10 [.aload 0, .ldc_w 0, .putfield 506] [-1] [] (wr h14 90 6 (-1 : Int32)) (fun h15 => [(0, .ref 90), (1, .ref x1), (2, .int x2), (3, .int x3)]) (fun h15 => []) (fun h15 => h15) [kd 90 = 5] (by decide +kernel) rfl kd_90 hO (fun h15 hO => ?_)
  refine rbx hG 6 10 15 [.aload 0, .ldc_w 0, .putfield 507] [0] [] (wr h15 90 7 (0 : Int32)) (fun h16 => [(0, .ref 90), (1, .ref x1), (2, .int x2), (3, .int x3)]) (fun h16 => []) (fun h16 => h16) [kd 90 = 5] (by decide +kernel) rfl kd_90 hO (fun h16 hO => ?_)
  refine rb hG 6 15 18 [.aload 0, .aload 1, .iload 2] [] [] [(0, .ref 90), (1, .ref x1), (2, .int x2), (3, .int x3)] [.int x2, .ref x1, .ref 90] h16 [] (by decide +kernel) rfl trivial ?_
  refine rv hG z_N_tryFrom 78 2 18 90 [.ref x1, .int x2] [] (by decide +kernel) mk_N_tryFrom lk_5_78 rcv_90 rfl ⟨rfl, Nat.le_of_ble_eq_true rfl⟩ (c_N_tryFrom (d := d) h16 x1 x2 (ok_bind hO)) ?_
  rintro _ h17 ⟨rfl, hO⟩
  refine rb hG 5 21 24 [.ldc_w 0, .istore 4] [1] [] [(4, .int (1 : Int32)), (0, .ref 90), (1, .ref x1), (2, .int x2), (3, .int x3)] [] h17 [] (by decide +kernel) rfl trivial ?_
  refine rs hG [(0, .ref 90), (1, .ref x1), (2, .int x2), (3, .int x3), (4, .int (1 : Int32))] [1, 2, 3, 4, 0] rfl ?_
  exact l24 (1 : Int32) h17 hO
/-! GrainInn.comes(IIIIII)I -/
noncomputable def K_comes_j38 (h : Hp) : Option (Int32 × Hp) := some ((-1 : Int32), h)
noncomputable def K_comes (h : Hp) (x1 : Int32) (x2 : Int32) (x3 : Int32) (x4 : Int32) (x5 : Int32) (x6 : Int32) : Option (Int32 × Hp) := (K_reach h x1 x2 x3).bind fun (r1, h2) => if r1 = 0 then ((K_comes_j38 h2)) else (if r1 = 57 then (if kd (Int32.toNatClampNeg (h2.1 57 6)) = 1 then ((H_hasTable h2 (Int32.toNatClampNeg (h2.1 57 6)) x4).bind fun r6 => if r6 = 0 then ((K_comes_j38 h2)) else ((K_isOf x5 (0 : Int32) (10 : Int32)).bind fun r8 => if r8 = 0 then ((K_comes_j38 h2)) else ((N_awaitWord h2 57 x4 x5).bind fun h10 => if x6 = (0 : Int32) then (some ((h10.1 90 5), h10)) else (if x6 = (1 : Int32) then (some ((h10.1 90 6), h10)) else (if x6 = (2 : Int32) then (some ((h10.1 90 7), h10)) else (some ((-1 : Int32), h10))))))) else none) else none)
set_option maxRecDepth 100000 in
set_option maxHeartbeats 4000000 in
theorem c_K_comes {E : En} {d : Nat} (h : Hp) (x1 : Int32) (x2 : Int32) (x3 : Int32) (x4 : Int32) (x5 : Int32) (x6 : Int32) {P : (Int32 × Hp) → Prop} (hO : Okk (K_comes h x1 x2 x3 x4 x5 x6) P) : Cn E (d + 8) z_K_comes [.ref 1, .int x1, .int x2, .int x3, .int x4, .int x5, .int x6] h (RI P) := by
  refine cn_of (on := 11) (d := d + 7) ⟨rfl, by decide +kernel, Nat.le_of_ble_eq_true rfl⟩ (fun G hG => ?_)
  unfold K_comes at hO
  show G 0 [(0, .ref 1), (1, .int x1), (2, .int x2), (3, .int x3), (4, .int x4), (5, .int x5), (6, .int x6)] [] h
  have j38 : ∀ (h : Hp), Okk (K_comes_j38 h) P → G 38 [] [] h := by
    intro h hO
    unfold K_comes_j38 at hO
    refine rb hG 4 38 39 [.ldc_w 0] [-1] [] [] [.int (-1 : Int32)] h [] (by decide +kernel) rfl trivial ?_
    exact eI hG 39 (by decide +kernel) rfl ⟨(-1 : Int32), rfl, ok_some (Q := P) hO⟩
  refine rb hG 7 0 4 [.aload 0, .iload 1, .iload 2, .iload 3] [] [] [(0, .ref 1), (1, .int x1), (2, .int x2), (3, .int x3), (4, .int x4), (5, .int x5), (6, .int x6)] [.int x3, .int x2, .int x1, .ref 1] h [] (by decide +kernel) rfl trivial ?_
  refine rv hG z_K_reach 155 3 4 1 [.int x1, .int x2, .int x3] [] (by decide +kernel) mk_K_reach lk_11_155 rcv_1 rfl ⟨rfl, Nat.le_of_ble_eq_true rfl⟩ (c_K_reach (d := d) h x1 x2 x3 (ok_bind hO)) ?_
  rintro _ h2 ⟨r1, rfl, hO⟩
  refine rb hG 5 7 11 [.astore 7, .aload 7] [] [] [(7, .ref r1), (0, .ref 1), (1, .int x1), (2, .int x2), (3, .int x3), (4, .int x4), (5, .int x5), (6, .int x6)] [.ref r1] h2 [] (by decide +kernel) rfl trivial ?_
  refine rn hG (27) 38 11 (by decide +kernel) (by decide) (fun c3 => ?_) (fun c3 => ?_)
  · have hO := ok_pos c3 hO
    refine rs hG [] [] rfl ?_
    exact j38 h2 hO
  · have hO := ok_neg c3 hO
    obtain ⟨g4, hOg4⟩ := ok_if hO
    subst g4
    have hO := hOg4
    obtain ⟨g5, hO⟩ := ok_if hO
    refine rb hG 6 14 21 [.aload 7, .instanceof 706, .iload 4] [] [] [(7, .ref 57), (0, .ref 1), (1, .int x1), (2, .int x2), (3, .int x3), (4, .int x4), (5, .int x5), (6, .int x6)] [.int x4, .ref (Int32.toNatClampNeg (h2.1 57 6))] h2 [kd 57 = 7] (by decide +kernel) rfl kd_57 ?_
    refine rv hG z_H_hasTable 245 1 21 (Int32.toNatClampNeg (h2.1 57 6)) [.int x4] [] (by decide +kernel) mk_H_hasTable lk_11_245 (rcv_H g5) rfl ⟨rfl, Nat.le_of_ble_eq_true rfl⟩ (c_H_hasTable (d := d + 6) h2 (Int32.toNatClampNeg (h2.1 57 6)) x4 (ok_bind hO)) ?_
    rintro _ _ ⟨r6, rfl, rfl, hO⟩
    refine ri hG .eq (14) 38 24 (by decide +kernel) (by decide) (fun c7 => ?_) (fun c7 => ?_)
    · have hO := ok_pos c7 hO
      refine rs hG [] [] rfl ?_
      exact j38 h2 hO
    · have hO := ok_neg c7 hO
      refine rb hG 6 27 32 [.iload 5, .ldc_w 0, .ldc_w 1] [0, 10] [] [(7, .ref 57), (0, .ref 1), (1, .int x1), (2, .int x2), (3, .int x3), (4, .int x4), (5, .int x5), (6, .int x6)] [.int (10 : Int32), .int (0 : Int32), .int x5] h2 [] (by decide +kernel) rfl trivial ?_
      refine rt hG z_K_isOf 119 3 32 [.int x5, .int (0 : Int32), .int (10 : Int32)] [] (by decide +kernel) mk_K_isOf lk_11_119 rfl ⟨rfl, Nat.le_of_ble_eq_true rfl⟩ (c_K_isOf (d := d + 6) h2 x5 (0 : Int32) (10 : Int32) (ok_bind hO)) ?_
      rintro _ _ ⟨r8, rfl, rfl, hO⟩
      refine riN hG (5) 40 35 (by decide +kernel) (by decide) (fun c9 => ?_) (fun c9 => ?_)
      · have hO := ok_pos c9 hO
        refine rs hG [] [] rfl ?_
        exact j38 h2 hO
      · have hO := ok_neg c9 hO
        refine rb hG 8 40 50 [.aload 0, .invokeinterface 1105 89, .aload 7, .iload 4, .iload 5] [] [] [(7, .ref 57), (0, .ref 1), (1, .int x1), (2, .int x2), (3, .int x3), (4, .int x4), (5, .int x5), (6, .int x6)] [.int x5, .int x4, .ref 57, .ref 90] h2 [kd 1 = 11] (by decide +kernel) rfl kd_1 ?_
        refine rv hG z_N_awaitWord 248 3 50 90 [.ref 57, .int x4, .int x5] [] (by decide +kernel) mk_N_awaitWord lk_11_248 rcv_90 rfl ⟨rfl, Nat.le_of_ble_eq_true rfl⟩ (c_N_awaitWord (d := d + 3) h2 57 x4 x5 (ok_bind hO)) ?_
        rintro _ h10 ⟨rfl, hO⟩
        refine rb hG 4 53 55 [.iload 6] [] [] [(7, .ref 57), (0, .ref 1), (1, .int x1), (2, .int x2), (3, .int x3), (4, .int x4), (5, .int x5), (6, .int x6)] [.int x6] h10 [] (by decide +kernel) rfl trivial ?_
        refine rw9 hG (49) (0) (2) #[(25), (33), (41)] 25 55 [80, 88, 96] 104 (by decide +kernel) (by decide +kernel) ?_
        refine sw_c (0 : Int32) (by decide) (fun c11 => ?_) (fun c11 => ?_)
        · have hO := ok_pos c11 hO
          refine rb hG 6 80 87 [.aload 0, .invokeinterface 1105 89, .getfield 505] [] [] [(7, .ref 57), (0, .ref 1), (1, .int x1), (2, .int x2), (3, .int x3), (4, .int x4), (5, .int x5), (6, .int x6)] [.int (h10.1 90 5)] h10 [kd 1 = 11, kd 90 = 5] (by decide +kernel) rfl ⟨kd_1, kd_90⟩ ?_
          exact eI hG 87 (by decide +kernel) rfl ⟨(h10.1 90 5), rfl, ok_some (Q := P) hO⟩
        have hO := ok_neg c11 hO
        refine sw_c (1 : Int32) (by decide) (fun c12 => ?_) (fun c12 => ?_)
        · have hO := ok_pos c12 hO
          refine rb hG 6 88 95 [.aload 0, .invokeinterface 1105 89, .getfield 506] [] [] [(7, .ref 57), (0, .ref 1), (1, .int x1), (2, .int x2), (3, .int x3), (4, .int x4), (5, .int x5), (6, .int x6)] [.int (h10.1 90 6)] h10 [kd 1 = 11, kd 90 = 5] (by decide +kernel) rfl ⟨kd_1, kd_90⟩ ?_
          exact eI hG 95 (by decide +kernel) rfl ⟨(h10.1 90 6), rfl, ok_some (Q := P) hO⟩
        have hO := ok_neg c12 hO
        refine sw_c (2 : Int32) (by decide) (fun c13 => ?_) (fun c13 => ?_)
        · have hO := ok_pos c13 hO
          refine rb hG 6 96 103 [.aload 0, .invokeinterface 1105 89, .getfield 507] [] [] [(7, .ref 57), (0, .ref 1), (1, .int x1), (2, .int x2), (3, .int x3), (4, .int x4), (5, .int x5), (6, .int x6)] [.int (h10.1 90 7)] h10 [kd 1 = 11, kd 90 = 5] (by decide +kernel) rfl ⟨kd_1, kd_90⟩ ?_
          exact eI hG 103 (by decide +kernel) rfl ⟨(h10.1 90 7), rfl, ok_some (Q := P) hO⟩
        have hO := ok_neg c13 hO
        show G 104 _ _ _
        refine rb hG 4 104 105 [.ldc_w 0] [-1] [] [(7, .ref 57), (0, .ref 1), (1, .int x1), (2, .int x2), (3, .int x3), (4, .int x4), (5, .int x5), (6, .int x6)] [.int (-1 : Int32)] h10 [] (by decide +kernel) rfl trivial ?_
        exact eI hG 105 (by decide +kernel) rfl ⟨(-1 : Int32), rfl, ok_some (Q := P) hO⟩
/-! GrainInnModel.findComes(II)V -/
noncomputable def M_findComes_j254 (h : Hp) : Option Hp := some h
noncomputable def M_findComes_j248 (x1 : Int32) (x3 : Int32) (x4 : Int32) (x5 : Int32) (x6 : Int32) (h : Hp) : Option ((Int32 × Int32 × Int32 × Int32 × Hp) ⊕ Hp) := bnd ((x6 + (1 : Int32))) fun y1 => some (.inl (x3, x4, x5, y1, h))
noncomputable def M_findComes_j217 (x1 : Int32) (x3 : Int32) (x4 : Int32) (x5 : Int32) (x6 : Int32) (h : Hp) : Option ((Int32 × Int32 × Int32 × Int32 × Hp) ⊕ Hp) := bnd ((x4 + (1 : Int32))) fun y2 => (M_ofTable h x1 (1 : Int32)).bind fun r3 => if y2 ≤ r3 then ((M_findComes_j248 x1 x3 y2 x5 x6 h)) else (bnd ((y2 + (-1 : Int32))) fun y5 => bnd ((sr x3 (1 : Int32))) fun y6 => (M_greater (0 : Int32) (x5 - (1 : Int32))).bind fun r7 => (M_findComes_j248 x1 y6 y5 r7 x6 h))
noncomputable def M_findComes_j208 (x1 : Int32) (x3 : Int32) (x4 : Int32) (x5 : Int32) (x6 : Int32) (h : Hp) : Option ((Int32 × Int32 × Int32 × Int32 × Hp) ⊕ Hp) := if ¬ x4 = 0 then (bnd ((rm (x5 + (1 : Int32)) x4)) fun y9 => (M_findComes_j217 x1 x3 x4 y9 x6 h)) else none
noncomputable def M_findComes_j189 (x1 : Int32) (x3 : Int32) (x4 : Int32) (x5 : Int32) (x6 : Int32) (s1 : Int32) (h : Hp) : Option ((Int32 × Int32 × Int32 × Int32 × Hp) ⊕ Hp) := bnd (wr h 251 46 s1) fun h10 => bnd (wr h10 251 47 x6) fun h11 => bnd (wr h11 251 48 ((h11.1 251 48) + (1 : Int32))) fun h12 => (M_findComes_j208 x1 x3 x4 x5 x6 h12)
noncomputable def M_findComes_b146 (x1 : Int32) (x3 : Int32) (x4 : Int32) (x5 : Int32) (x6 : Int32) (h : Hp) : Option ((Int32 × Int32 × Int32 × Int32 × Hp) ⊕ Hp) := if (64 : Int32) < x6 then (((M_findComes_j254 h).map Sum.inr)) else (if x3 = 0 then (((M_findComes_j254 h).map Sum.inr)) else (if x4 ≤ 0 then ((M_findComes_j217 x1 x3 x4 x5 x6 h)) else ((M_has x3 x5).bind fun r16 => if r16 = 0 then ((M_findComes_j208 x1 x3 x4 x5 x6 h)) else (if (h.1 251 46) = (-1 : Int32) then ((M_findComes_j189 x1 x3 x4 x5 x6 x6 h)) else ((M_findComes_j189 x1 x3 x4 x5 x6 (h.1 251 46) h))))))
noncomputable def M_findComes_l146 (x1 : Int32) (x3 : Int32) (x4 : Int32) (x5 : Int32) (x6 : Int32) (h : Hp) : Option Hp := lp (fun s : (Int32 × Int32 × Int32 × Int32 × Hp) => M_findComes_b146 x1 s.1 s.2.1 s.2.2.1 s.2.2.2.1 s.2.2.2.2) (x3, x4, x5, x6, h)
theorem M_findComes_l146_eq (x1 : Int32) (x3 : Int32) (x4 : Int32) (x5 : Int32) (x6 : Int32) (h : Hp) : M_findComes_l146 x1 x3 x4 x5 x6 h = (M_findComes_b146 x1 x3 x4 x5 x6 h).bind (Sum.elim (fun q : (Int32 × Int32 × Int32 × Int32 × Hp) => M_findComes_l146 x1 q.1 q.2.1 q.2.2.1 q.2.2.2.1 q.2.2.2.2) some) := lp_eq _ _
noncomputable def M_findComes_j143 (x1 : Int32) (x3 : Int32) (x4 : Int32) (x5 : Int32) (h : Hp) : Option Hp := (M_findComes_l146 x1 x3 x4 x5 (1 : Int32) h)
noncomputable def M_findComes_j110 (x1 : Int32) (x4 : Int32) (x5 : Int32) (s0 : Int32) (s1 : Int32) (h : Hp) : Option Hp := bnd ((s0 ||| s1)) fun y19 => bnd ((x4 + (1 : Int32))) fun y20 => (M_ofTable h x1 (1 : Int32)).bind fun r21 => if y20 ≤ r21 then ((M_findComes_j143 x1 y19 y20 x5 h)) else (bnd ((y20 + (-1 : Int32))) fun y23 => bnd ((sr y19 (1 : Int32))) fun y24 => (M_greater (0 : Int32) (x5 - (1 : Int32))).bind fun r25 => (M_findComes_j143 x1 y24 y23 r25 h))
noncomputable def M_findComes_j79 (x1 : Int32) (x2 : Int32) (x3 : Int32) (x4 : Int32) (x5 : Int32) (h : Hp) : Option Hp := if inb x1 (ln 268) then (if (h.1 268 (Int32.toNatClampNeg x1)) = 0 then ((M_findComes_j143 x1 x3 x4 x5 h)) else (if inb x1 (ln 269) then ((M_has (h.1 269 (Int32.toNatClampNeg x1)) x2).bind fun r29 => if r29 = 0 then ((M_findComes_j110 x1 x4 x5 x3 (0 : Int32) h)) else ((M_findComes_j110 x1 x4 x5 x3 (sh (1 : Int32) x4) h))) else none)) else none
noncomputable def M_findComes_j71 (x1 : Int32) (x2 : Int32) (x4 : Int32) (x5 : Int32) (x6 : Int32) (s0 : Int32) (s1 : Int32) (h : Hp) : Option ((Int32 × Int32) ⊕ Hp) := bnd ((s0 ||| s1)) fun y31 => bnd ((x6 + (1 : Int32))) fun y32 => some (.inl (y31, y32))
noncomputable def M_findComes_b36 (x1 : Int32) (x2 : Int32) (x3 : Int32) (x4 : Int32) (x5 : Int32) (x6 : Int32) (h : Hp) : Option ((Int32 × Int32) ⊕ Hp) := if x4 ≤ x6 then (((M_findComes_j79 x1 x2 x3 x4 x5 h).map Sum.inr)) else (if inb (((16 : Int32) * x1) + x6) (ln 264) then ((M_has (h.1 264 (Int32.toNatClampNeg (((16 : Int32) * x1) + x6))) x2).bind fun r35 => if r35 = 0 then ((M_findComes_j71 x1 x2 x4 x5 x6 x3 (0 : Int32) h)) else ((M_findComes_j71 x1 x2 x4 x5 x6 x3 (sh (1 : Int32) x6) h))) else none)
noncomputable def M_findComes_l36 (x1 : Int32) (x2 : Int32) (x3 : Int32) (x4 : Int32) (x5 : Int32) (x6 : Int32) (h : Hp) : Option Hp := lp (fun s : (Int32 × Int32) => M_findComes_b36 x1 x2 s.1 x4 x5 s.2 h) (x3, x6)
theorem M_findComes_l36_eq (x1 : Int32) (x2 : Int32) (x3 : Int32) (x4 : Int32) (x5 : Int32) (x6 : Int32) (h : Hp) : M_findComes_l36 x1 x2 x3 x4 x5 x6 h = (M_findComes_b36 x1 x2 x3 x4 x5 x6 h).bind (Sum.elim (fun q : (Int32 × Int32) => M_findComes_l36 x1 x2 q.1 x4 x5 q.2 h) some) := lp_eq _ _
noncomputable def M_findComes (h : Hp) (x1 : Int32) (x2 : Int32) : Option Hp := bnd (wr h 251 46 (-1 : Int32)) fun h37 => bnd (wr h37 251 47 (-1 : Int32)) fun h38 => bnd (wr h38 251 48 (0 : Int32)) fun h39 => if inb x1 (ln 266) then (bnd ((h39.1 266 (Int32.toNatClampNeg x1))) fun y41 => if inb x1 (ln 267) then (bnd ((h39.1 267 (Int32.toNatClampNeg x1))) fun y43 => (M_findComes_l36 x1 x2 (0 : Int32) y41 y43 (0 : Int32) h39)) else none) else none
set_option maxRecDepth 100000 in
set_option maxHeartbeats 4000000 in
theorem c_M_findComes {E : En} {d : Nat} (h : Hp) (x1 : Int32) (x2 : Int32) {P : Hp → Prop} (hO : Okk (M_findComes h x1 x2) P) : Cn E (d + 3) z_M_findComes [.ref 251, .int x1, .int x2] h (RV P) := by
  refine cn_of (on := 12) (d := d + 2) ⟨rfl, by decide +kernel, Nat.le_of_ble_eq_true rfl⟩ (fun G hG => ?_)
  unfold M_findComes at hO
  show G 0 [(0, .ref 251), (1, .int x1), (2, .int x2)] [] h
  have j254 : ∀ (h : Hp), Okk (M_findComes_j254 h) P → G 254 [] [] h := by
    intro h hO
    unfold M_findComes_j254 at hO
    exact eV hG 254 (by decide +kernel) rfl ⟨rfl, ok_some (Q := P) hO⟩
  have l146 : ∀ (x3 : Int32) (x4 : Int32) (x5 : Int32) (x6 : Int32) (h : Hp), Okk (M_findComes_l146 x1 x3 x4 x5 x6 h) P → G 146 [(0, .ref 251), (1, .int x1), (3, .int x3), (4, .int x4), (5, .int x5), (6, .int x6)] [] h := by
    intro x3 x4 x5 x6 h hO
    obtain ⟨H146, eH146⟩ : ∃ q : (Int32 × Int32 × Int32 × Int32 × Hp) → Prop, q = fun s => G 146 [(0, .ref 251), (1, .int x1), (3, .int (s.1)), (4, .int (s.2.1)), (5, .int (s.2.2.1)), (6, .int (s.2.2.2.1))] [] (s.2.2.2.2) := ⟨_, rfl⟩
    have w9 : H146 (x3, x4, x5, x6, h) := by
      refine lp_wp (f := fun s : (Int32 × Int32 × Int32 × Int32 × Hp) => M_findComes_b146 x1 s.1 s.2.1 s.2.2.1 s.2.2.2.1 s.2.2.2.2) (H := H146) (Q := P) ?_ (x3, x4, x5, x6, h) hO
      rintro ⟨x3, x4, x5, x6, h⟩ hO
      rw [eH146]
      show G 146 [(0, .ref 251), (1, .int x1), (3, .int x3), (4, .int x4), (5, .int x5), (6, .int x6)] [] h
      have k146 : ∀ s : (Int32 × Int32 × Int32 × Int32 × Hp), H146 s → G 146 [(0, .ref 251), (1, .int x1), (3, .int (s.1)), (4, .int (s.2.1)), (5, .int (s.2.2.1)), (6, .int (s.2.2.2.1))] [] (s.2.2.2.2) := fun s q => by rw [eH146] at q; exact q
      replace hO : Okk (M_findComes_b146 x1 x3 x4 x5 x6 h) (Sum.elim H146 P) := hO
      clear eH146
      have j248 : ∀ (x3 : Int32) (x4 : Int32) (x5 : Int32) (x6 : Int32) (h : Hp), Okk (M_findComes_j248 x1 x3 x4 x5 x6 h) (Sum.elim H146 P) → G 248 [(0, .ref 251), (1, .int x1), (3, .int x3), (4, .int x4), (5, .int x5), (6, .int x6)] [] h := by
        intro x3 x4 x5 x6 h hO
        unfold M_findComes_j248 at hO
        refine rbx hG 4 248 251 [.iinc 6 0] [1] [] ((x6 + (1 : Int32))) (fun y1 => [(6, .int y1), (0, .ref 251), (1, .int x1), (3, .int x3), (4, .int x4), (5, .int x5)]) (fun y1 => []) (fun y1 => h) [] (by decide +kernel) rfl trivial hO (fun y1 hO => ?_)
        refine rb hG 4 251 146 [] [] [] [(6, .int y1), (0, .ref 251), (1, .int x1), (3, .int x3), (4, .int x4), (5, .int x5)] [] h [] (by decide +kernel) rfl trivial ?_
        refine rs hG [(0, .ref 251), (1, .int x1), (3, .int x3), (4, .int x4), (5, .int x5), (6, .int y1)] [1, 2, 3, 4, 5, 0] rfl ?_
        exact k146 (x3, x4, x5, y1, h) (ok_some (Q := (Sum.elim H146 P)) hO)
      have j217 : ∀ (x3 : Int32) (x4 : Int32) (x5 : Int32) (x6 : Int32) (h : Hp), Okk (M_findComes_j217 x1 x3 x4 x5 x6 h) (Sum.elim H146 P) → G 217 [(0, .ref 251), (1, .int x1), (3, .int x3), (4, .int x4), (5, .int x5), (6, .int x6)] [] h := by
        intro x3 x4 x5 x6 h hO
        unfold M_findComes_j217 at hO
        refine rbx hG 4 217 220 [.iinc 4 0] [1] [] ((x4 + (1 : Int32))) (fun y2 => [(4, .int y2), (0, .ref 251), (1, .int x1), (3, .int x3), (5, .int x5), (6, .int x6)]) (fun y2 => []) (fun y2 => h) [] (by decide +kernel) rfl trivial hO (fun y2 hO => ?_)
        refine rb hG 7 220 225 [.iload 4, .aload 0, .iload 1, .ldc_w 0] [1] [] [(4, .int y2), (0, .ref 251), (1, .int x1), (3, .int x3), (5, .int x5), (6, .int x6)] [.int (1 : Int32), .int x1, .ref 251, .int y2] h [] (by decide +kernel) rfl trivial ?_
        refine rv hG z_M_ofTable 283 2 225 251 [.int x1, .int (1 : Int32)] [.int y2] (by decide +kernel) mk_M_ofTable lk_12_283 rcv_251 rfl ⟨rfl, Nat.le_of_ble_eq_true rfl⟩ (c_M_ofTable (d := d) h x1 (1 : Int32) (ok_bind hO)) ?_
        rintro _ _ ⟨r3, rfl, rfl, hO⟩
        refine rj hG .le (20) 248 228 (by decide +kernel) (by decide) (fun c4 => ?_) (fun c4 => ?_)
        · have hO := ok_pos c4 hO
          refine rs hG [(0, .ref 251), (1, .int x1), (3, .int x3), (4, .int y2), (5, .int x5), (6, .int x6)] [1, 2, 3, 0, 4, 5] rfl ?_
          exact j248 x3 y2 x5 x6 h hO
        · have hO := ok_neg c4 hO
          refine rbx hG 4 231 234 [.iinc 4 0] [-1] [] ((y2 + (-1 : Int32))) (fun y5 => [(4, .int y5), (0, .ref 251), (1, .int x1), (3, .int x3), (5, .int x5), (6, .int x6)]) (fun y5 => []) (fun y5 => h) [] (by decide +kernel) rfl trivial hO (fun y5 hO => ?_)
          refine rbx hG 7 234 238 [.iload 3, .ldc_w 0, .ishr, .istore 3] [1] [] ((sr x3 (1 : Int32))) (fun y6 => [(3, .int y6), (4, .int y5), (0, .ref 251), (1, .int x1), (5, .int x5), (6, .int x6)]) (fun y6 => []) (fun y6 => h) [] (by decide +kernel) rfl trivial hO (fun y6 hO => ?_)
          refine rb hG 7 238 243 [.ldc_w 0, .iload 5, .ldc_w 1, .isub] [0, 1] [] [(3, .int y6), (4, .int y5), (0, .ref 251), (1, .int x1), (5, .int x5), (6, .int x6)] [.int (x5 - (1 : Int32)), .int (0 : Int32)] h [] (by decide +kernel) rfl trivial ?_
          refine rt hG z_M_greater 176 2 243 [.int (0 : Int32), .int (x5 - (1 : Int32))] [] (by decide +kernel) mk_M_greater lk_12_176 rfl ⟨rfl, Nat.le_of_ble_eq_true rfl⟩ (c_M_greater (d := d + 1) h (0 : Int32) (x5 - (1 : Int32)) (ok_bind hO)) ?_
          rintro _ _ ⟨r7, rfl, rfl, hO⟩
          refine rb hG 4 246 248 [.istore 5] [] [] [(5, .int r7), (3, .int y6), (4, .int y5), (0, .ref 251), (1, .int x1), (6, .int x6)] [] h [] (by decide +kernel) rfl trivial ?_
          refine rs hG [(0, .ref 251), (1, .int x1), (3, .int y6), (4, .int y5), (5, .int r7), (6, .int x6)] [3, 4, 1, 2, 0, 5] rfl ?_
          exact j248 y6 y5 r7 x6 h hO
      have j208 : ∀ (x3 : Int32) (x4 : Int32) (x5 : Int32) (x6 : Int32) (h : Hp), Okk (M_findComes_j208 x1 x3 x4 x5 x6 h) (Sum.elim H146 P) → G 208 [(0, .ref 251), (1, .int x1), (3, .int x3), (4, .int x4), (5, .int x5), (6, .int x6)] [] h := by
        intro x3 x4 x5 x6 h hO
        unfold M_findComes_j208 at hO
        obtain ⟨g8, hO⟩ := ok_if hO
        refine rbx hG 9 208 217 [.iload 5, .ldc_w 0, .iadd, .iload 4, .irem, .istore 5] [1] [] ((rm (x5 + (1 : Int32)) x4)) (fun y9 => [(5, .int y9), (0, .ref 251), (1, .int x1), (3, .int x3), (4, .int x4), (6, .int x6)]) (fun y9 => []) (fun y9 => h) [¬ x4 = 0] (by decide +kernel) rfl g8 hO (fun y9 hO => ?_)
        refine rs hG [(0, .ref 251), (1, .int x1), (3, .int x3), (4, .int x4), (5, .int y9), (6, .int x6)] [1, 2, 3, 4, 0, 5] rfl ?_
        exact j217 x3 x4 y9 x6 h hO
      have j189 : ∀ (x3 : Int32) (x4 : Int32) (x5 : Int32) (x6 : Int32) (s1 : Int32) (h : Hp), Okk (M_findComes_j189 x1 x3 x4 x5 x6 s1 h) (Sum.elim H146 P) → G 189 [(0, .ref 251), (1, .int x1), (3, .int x3), (4, .int x4), (5, .int x5), (6, .int x6)] [.int s1, .ref 251] h := by
        intro x3 x4 x5 x6 s1 h hO
        unfold M_findComes_j189 at hO
        refine rbx hG 4 189 192 [.putfield 1246] [] [] (wr h 251 46 s1) (fun h10 => [(0, .ref 251), (1, .int x1), (3, .int x3), (4, .int x4), (5, .int x5), (6, .int x6)]) (fun h10 => []) (fun h10 => h10) [kd 251 = 12] (by decide +kernel) rfl kd_251 hO (fun h10 hO => ?_)
        refine rbx hG 6 192 198 [.aload 0, .iload 6, .putfield 1247] [] [] (wr h10 251 47 x6) (fun h11 => [(0, .ref 251), (1, .int x1), (3, .int x3), (4, .int x4), (5, .int x5), (6, .int x6)]) (fun h11 => []) (fun h11 => h11) [kd 251 = 12] (by decide +kernel) rfl kd_251 hO (fun h11 hO => ?_)
        refine rbx hG 9 198 208 [.aload 0, .dup, .getfield 1248, .ldc_w 0, .iadd, .putfield 1248] [1] [] (wr h11 251 48 ((h11.1 251 48) + (1 : Int32))) (fun h12 => [(0, .ref 251), (1, .int x1), (3, .int x3), (4, .int x4), (5, .int x5), (6, .int x6)]) (fun h12 => []) (fun h12 => h12) [kd 251 = 12, kd 251 = 12] (by decide +kernel) rfl ⟨kd_251, kd_251⟩ hO (fun h12 hO => ?_)
        exact j208 x3 x4 x5 x6 h12 hO
      unfold M_findComes_b146 at hO
      refine rb hG 5 146 150 [.iload 6, .ldc_w 0] [64] [] [(0, .ref 251), (1, .int x1), (3, .int x3), (4, .int x4), (5, .int x5), (6, .int x6)] [.int (64 : Int32), .int x6] h [] (by decide +kernel) rfl trivial ?_
      refine rj hG .gt (104) 254 150 (by decide +kernel) (by decide) (fun c13 => ?_) (fun c13 => ?_)
      · have hO := ok_pos c13 hO
        refine rs hG [] [] rfl ?_
        exact j254 h (ok_inr hO)
      · have hO := ok_neg c13 hO
        refine rb hG 4 153 154 [.iload 3] [] [] [(0, .ref 251), (1, .int x1), (3, .int x3), (4, .int x4), (5, .int x5), (6, .int x6)] [.int x3] h [] (by decide +kernel) rfl trivial ?_
        refine ri hG .eq (100) 254 154 (by decide +kernel) (by decide) (fun c14 => ?_) (fun c14 => ?_)
        · have hO := ok_pos c14 hO
          refine rs hG [] [] rfl ?_
          exact j254 h (ok_inr hO)
        · have hO := ok_neg c14 hO
          refine rb hG 4 157 159 [.iload 4] [] [] [(0, .ref 251), (1, .int x1), (3, .int x3), (4, .int x4), (5, .int x5), (6, .int x6)] [.int x4] h [] (by decide +kernel) rfl trivial ?_
          refine ri hG .le (58) 217 159 (by decide +kernel) (by decide) (fun c15 => ?_) (fun c15 => ?_)
          · have hO := ok_pos c15 hO
            exact j217 x3 x4 x5 x6 h hO
          · have hO := ok_neg c15 hO
            refine rb hG 5 162 165 [.iload 3, .iload 5] [] [] [(0, .ref 251), (1, .int x1), (3, .int x3), (4, .int x4), (5, .int x5), (6, .int x6)] [.int x5, .int x3] h [] (by decide +kernel) rfl trivial ?_
            refine rt hG z_M_has 103 2 165 [.int x3, .int x5] [] (by decide +kernel) mk_M_has lk_12_103 rfl ⟨rfl, Nat.le_of_ble_eq_true rfl⟩ (c_M_has (d := d + 1) h x3 x5 (ok_bind hO)) ?_
            rintro _ _ ⟨r16, rfl, rfl, hO⟩
            refine ri hG .eq (40) 208 168 (by decide +kernel) (by decide) (fun c17 => ?_) (fun c17 => ?_)
            · have hO := ok_pos c17 hO
              exact j208 x3 x4 x5 x6 h hO
            · have hO := ok_neg c17 hO
              refine rb hG 7 171 177 [.aload 0, .aload 0, .getfield 1246, .ldc_w 0] [-1] [] [(0, .ref 251), (1, .int x1), (3, .int x3), (4, .int x4), (5, .int x5), (6, .int x6)] [.int (-1 : Int32), .int (h.1 251 46), .ref 251] h [kd 251 = 12] (by decide +kernel) rfl kd_251 ?_
              refine rjN hG (8) 185 177 (by decide +kernel) (by decide) (fun c18 => ?_) (fun c18 => ?_)
              · have hO := ok_pos c18 hO
                refine rb hG 5 180 189 [.iload 6] [] [] [(0, .ref 251), (1, .int x1), (3, .int x3), (4, .int x4), (5, .int x5), (6, .int x6)] [.int x6, .ref 251] h [] (by decide +kernel) rfl trivial ?_
                exact j189 x3 x4 x5 x6 x6 h hO
              · have hO := ok_neg c18 hO
                refine rb hG 5 185 189 [.aload 0, .getfield 1246] [] [] [(0, .ref 251), (1, .int x1), (3, .int x3), (4, .int x4), (5, .int x5), (6, .int x6)] [.int (h.1 251 46), .ref 251] h [kd 251 = 12] (by decide +kernel) rfl kd_251 ?_
                exact j189 x3 x4 x5 x6 (h.1 251 46) h hO
    rw [eH146] at w9
    exact w9
  have j143 : ∀ (x3 : Int32) (x4 : Int32) (x5 : Int32) (h : Hp), Okk (M_findComes_j143 x1 x3 x4 x5 h) P → G 143 [(0, .ref 251), (1, .int x1), (3, .int x3), (4, .int x4), (5, .int x5)] [] h := by
    intro x3 x4 x5 h hO
    unfold M_findComes_j143 at hO
    refine rb hG 5 143 146 [.ldc_w 0, .istore 6] [1] [] [(6, .int (1 : Int32)), (0, .ref 251), (1, .int x1), (3, .int x3), (4, .int x4), (5, .int x5)] [] h [] (by decide +kernel) rfl trivial ?_
    refine rs hG [(0, .ref 251), (1, .int x1), (3, .int x3), (4, .int x4), (5, .int x5), (6, .int (1 : Int32))] [1, 2, 3, 4, 5, 0] rfl ?_
    exact l146 x3 x4 x5 (1 : Int32) h hO
  have j110 : ∀ (x4 : Int32) (x5 : Int32) (s0 : Int32) (s1 : Int32) (h : Hp), Okk (M_findComes_j110 x1 x4 x5 s0 s1 h) P → G 110 [(0, .ref 251), (1, .int x1), (4, .int x4), (5, .int x5)] [.int s1, .int s0] h := by
    intro x4 x5 s0 s1 h hO
    unfold M_findComes_j110 at hO
    refine rbx hG 5 110 112 [.ior, .istore 3] [] [] ((s0 ||| s1)) (fun y19 => [(3, .int y19), (0, .ref 251), (1, .int x1), (4, .int x4), (5, .int x5)]) (fun y19 => []) (fun y19 => h) [] (by decide +kernel) rfl trivial hO (fun y19 hO => ?_)
    refine rbx hG 4 112 115 [.iinc 4 0] [1] [] ((x4 + (1 : Int32))) (fun y20 => [(4, .int y20), (3, .int y19), (0, .ref 251), (1, .int x1), (5, .int x5)]) (fun y20 => []) (fun y20 => h) [] (by decide +kernel) rfl trivial hO (fun y20 hO => ?_)
    refine rb hG 7 115 120 [.iload 4, .aload 0, .iload 1, .ldc_w 0] [1] [] [(4, .int y20), (3, .int y19), (0, .ref 251), (1, .int x1), (5, .int x5)] [.int (1 : Int32), .int x1, .ref 251, .int y20] h [] (by decide +kernel) rfl trivial ?_
    refine rv hG z_M_ofTable 283 2 120 251 [.int x1, .int (1 : Int32)] [.int y20] (by decide +kernel) mk_M_ofTable lk_12_283 rcv_251 rfl ⟨rfl, Nat.le_of_ble_eq_true rfl⟩ (c_M_ofTable (d := d) h x1 (1 : Int32) (ok_bind hO)) ?_
    rintro _ _ ⟨r21, rfl, rfl, hO⟩
    refine rj hG .le (20) 143 123 (by decide +kernel) (by decide) (fun c22 => ?_) (fun c22 => ?_)
    · have hO := ok_pos c22 hO
      refine rs hG [(0, .ref 251), (1, .int x1), (3, .int y19), (4, .int y20), (5, .int x5)] [2, 3, 1, 0, 4] rfl ?_
      exact j143 y19 y20 x5 h hO
    · have hO := ok_neg c22 hO
      refine rbx hG 4 126 129 [.iinc 4 0] [-1] [] ((y20 + (-1 : Int32))) (fun y23 => [(4, .int y23), (3, .int y19), (0, .ref 251), (1, .int x1), (5, .int x5)]) (fun y23 => []) (fun y23 => h) [] (by decide +kernel) rfl trivial hO (fun y23 hO => ?_)
      refine rbx hG 7 129 133 [.iload 3, .ldc_w 0, .ishr, .istore 3] [1] [] ((sr y19 (1 : Int32))) (fun y24 => [(3, .int y24), (4, .int y23), (0, .ref 251), (1, .int x1), (5, .int x5)]) (fun y24 => []) (fun y24 => h) [] (by decide +kernel) rfl trivial hO (fun y24 hO => ?_)
      refine rb hG 7 133 138 [.ldc_w 0, .iload 5, .ldc_w 1, .isub] [0, 1] [] [(3, .int y24), (4, .int y23), (0, .ref 251), (1, .int x1), (5, .int x5)] [.int (x5 - (1 : Int32)), .int (0 : Int32)] h [] (by decide +kernel) rfl trivial ?_
      refine rt hG z_M_greater 176 2 138 [.int (0 : Int32), .int (x5 - (1 : Int32))] [] (by decide +kernel) mk_M_greater lk_12_176 rfl ⟨rfl, Nat.le_of_ble_eq_true rfl⟩ (c_M_greater (d := d + 1) h (0 : Int32) (x5 - (1 : Int32)) (ok_bind hO)) ?_
      rintro _ _ ⟨r25, rfl, rfl, hO⟩
      refine rb hG 4 141 143 [.istore 5] [] [] [(5, .int r25), (3, .int y24), (4, .int y23), (0, .ref 251), (1, .int x1)] [] h [] (by decide +kernel) rfl trivial ?_
      refine rs hG [(0, .ref 251), (1, .int x1), (3, .int y24), (4, .int y23), (5, .int r25)] [3, 4, 1, 2, 0] rfl ?_
      exact j143 y24 y23 r25 h hO
  have j79 : ∀ (x3 : Int32) (x4 : Int32) (x5 : Int32) (h : Hp), Okk (M_findComes_j79 x1 x2 x3 x4 x5 h) P → G 79 [(0, .ref 251), (1, .int x1), (2, .int x2), (3, .int x3), (4, .int x4), (5, .int x5)] [] h := by
    intro x3 x4 x5 h hO
    unfold M_findComes_j79 at hO
    obtain ⟨g26, hO⟩ := ok_if hO
    refine rb hG 7 79 85 [.aload 0, .invokeinterface 1232 17, .iload 1, .iaload] [] [] [(0, .ref 251), (1, .int x1), (2, .int x2), (3, .int x3), (4, .int x4), (5, .int x5)] [.int (h.1 268 (Int32.toNatClampNeg x1))] h [kd 251 = 12, kd 268 = 20 ∧ inb x1 (ln 268)] (by decide +kernel) rfl ⟨kd_251, ⟨kd_268, g26⟩⟩ ?_
    refine ri hG .eq (58) 143 85 (by decide +kernel) (by decide) (fun c27 => ?_) (fun c27 => ?_)
    · have hO := ok_pos c27 hO
      refine rs hG [(0, .ref 251), (1, .int x1), (3, .int x3), (4, .int x4), (5, .int x5)] [0, 1, 3, 4, 5] rfl ?_
      exact j143 x3 x4 x5 h hO
    · have hO := ok_neg c27 hO
      obtain ⟨g28, hO⟩ := ok_if hO
      refine rb hG 9 88 96 [.iload 3, .aload 0, .invokeinterface 1233 18, .iload 1, .iaload, .iload 2] [] [] [(0, .ref 251), (1, .int x1), (2, .int x2), (3, .int x3), (4, .int x4), (5, .int x5)] [.int x2, .int (h.1 269 (Int32.toNatClampNeg x1)), .int x3] h [kd 251 = 12, kd 269 = 20 ∧ inb x1 (ln 269)] (by decide +kernel) rfl ⟨kd_251, ⟨kd_269, g28⟩⟩ ?_
      refine rt hG z_M_has 103 2 96 [.int (h.1 269 (Int32.toNatClampNeg x1)), .int x2] [.int x3] (by decide +kernel) mk_M_has lk_12_103 rfl ⟨rfl, Nat.le_of_ble_eq_true rfl⟩ (c_M_has (d := d + 1) h (h.1 269 (Int32.toNatClampNeg x1)) x2 (ok_bind hO)) ?_
      rintro _ _ ⟨r29, rfl, rfl, hO⟩
      refine ri hG .eq (10) 109 99 (by decide +kernel) (by decide) (fun c30 => ?_) (fun c30 => ?_)
      · have hO := ok_pos c30 hO
        refine rb hG 4 109 110 [.ldc_w 0] [0] [] [(0, .ref 251), (1, .int x1), (2, .int x2), (3, .int x3), (4, .int x4), (5, .int x5)] [.int (0 : Int32), .int x3] h [] (by decide +kernel) rfl trivial ?_
        refine rs hG [(0, .ref 251), (1, .int x1), (4, .int x4), (5, .int x5)] [0, 1, 4, 5] rfl ?_
        exact j110 x4 x5 x3 (0 : Int32) h hO
      · have hO := ok_neg c30 hO
        refine rb hG 7 102 110 [.ldc_w 0, .iload 4, .ishl] [1] [] [(0, .ref 251), (1, .int x1), (2, .int x2), (3, .int x3), (4, .int x4), (5, .int x5)] [.int (sh (1 : Int32) x4), .int x3] h [] (by decide +kernel) rfl trivial ?_
        refine rs hG [(0, .ref 251), (1, .int x1), (4, .int x4), (5, .int x5)] [0, 1, 4, 5] rfl ?_
        exact j110 x4 x5 x3 (sh (1 : Int32) x4) h hO
  have l36 : ∀ (x3 : Int32) (x4 : Int32) (x5 : Int32) (x6 : Int32) (h : Hp), Okk (M_findComes_l36 x1 x2 x3 x4 x5 x6 h) P → G 36 [(0, .ref 251), (1, .int x1), (2, .int x2), (3, .int x3), (4, .int x4), (5, .int x5), (6, .int x6)] [] h := by
    intro x3 x4 x5 x6 h hO
    obtain ⟨H36, eH36⟩ : ∃ q : (Int32 × Int32) → Prop, q = fun s => G 36 [(0, .ref 251), (1, .int x1), (2, .int x2), (3, .int (s.1)), (4, .int x4), (5, .int x5), (6, .int (s.2))] [] (h) := ⟨_, rfl⟩
    have w9 : H36 (x3, x6) := by
      refine lp_wp (f := fun s : (Int32 × Int32) => M_findComes_b36 x1 x2 s.1 x4 x5 s.2 h) (H := H36) (Q := P) ?_ (x3, x6) hO
      rintro ⟨x3, x6⟩ hO
      rw [eH36]
      show G 36 [(0, .ref 251), (1, .int x1), (2, .int x2), (3, .int x3), (4, .int x4), (5, .int x5), (6, .int x6)] [] h
      have k36 : ∀ s : (Int32 × Int32), H36 s → G 36 [(0, .ref 251), (1, .int x1), (2, .int x2), (3, .int (s.1)), (4, .int x4), (5, .int x5), (6, .int (s.2))] [] (h) := fun s q => by rw [eH36] at q; exact q
      replace hO : Okk (M_findComes_b36 x1 x2 x3 x4 x5 x6 h) (Sum.elim H36 P) := hO
      clear eH36
      have j71 : ∀ (x6 : Int32) (s0 : Int32) (s1 : Int32), Okk (M_findComes_j71 x1 x2 x4 x5 x6 s0 s1 h) (Sum.elim H36 P) → G 71 [(0, .ref 251), (1, .int x1), (2, .int x2), (4, .int x4), (5, .int x5), (6, .int x6)] [.int s1, .int s0] h := by
        intro x6 s0 s1 hO
        unfold M_findComes_j71 at hO
        refine rbx hG 5 71 73 [.ior, .istore 3] [] [] ((s0 ||| s1)) (fun y31 => [(3, .int y31), (0, .ref 251), (1, .int x1), (2, .int x2), (4, .int x4), (5, .int x5), (6, .int x6)]) (fun y31 => []) (fun y31 => h) [] (by decide +kernel) rfl trivial hO (fun y31 hO => ?_)
        refine rbx hG 4 73 76 [.iinc 6 0] [1] [] ((x6 + (1 : Int32))) (fun y32 => [(6, .int y32), (3, .int y31), (0, .ref 251), (1, .int x1), (2, .int x2), (4, .int x4), (5, .int x5)]) (fun y32 => []) (fun y32 => h) [] (by decide +kernel) rfl trivial hO (fun y32 hO => ?_)
        refine rb hG 4 76 36 [] [] [] [(6, .int y32), (3, .int y31), (0, .ref 251), (1, .int x1), (2, .int x2), (4, .int x4), (5, .int x5)] [] h [] (by decide +kernel) rfl trivial ?_
        refine rs hG [(0, .ref 251), (1, .int x1), (2, .int x2), (3, .int y31), (4, .int x4), (5, .int x5), (6, .int y32)] [2, 3, 4, 1, 5, 6, 0] rfl ?_
        exact k36 (y31, y32) (ok_some (Q := (Sum.elim H36 P)) hO)
      unfold M_findComes_b36 at hO
      refine rb hG 5 36 40 [.iload 6, .iload 4] [] [] [(0, .ref 251), (1, .int x1), (2, .int x2), (3, .int x3), (4, .int x4), (5, .int x5), (6, .int x6)] [.int x4, .int x6] h [] (by decide +kernel) rfl trivial ?_
      refine rj hG .ge (39) 79 40 (by decide +kernel) (by decide) (fun c33 => ?_) (fun c33 => ?_)
      · have hO := ok_pos c33 hO
        refine rs hG [(0, .ref 251), (1, .int x1), (2, .int x2), (3, .int x3), (4, .int x4), (5, .int x5)] [0, 1, 2, 3, 4, 5] rfl ?_
        exact j79 x3 x4 x5 h (ok_inr hO)
      · have hO := ok_neg c33 hO
        obtain ⟨g34, hO⟩ := ok_if hO
        refine rb hG 13 43 57 [.iload 3, .aload 0, .invokeinterface 1228 13, .ldc_w 0, .iload 1, .imul, .iload 6, .iadd, .iaload, .iload 2] [16] [] [(0, .ref 251), (1, .int x1), (2, .int x2), (3, .int x3), (4, .int x4), (5, .int x5), (6, .int x6)] [.int x2, .int (h.1 264 (Int32.toNatClampNeg (((16 : Int32) * x1) + x6))), .int x3] h [kd 251 = 12, kd 264 = 20 ∧ inb (((16 : Int32) * x1) + x6) (ln 264)] (by decide +kernel) rfl ⟨kd_251, ⟨kd_264, g34⟩⟩ ?_
        refine rt hG z_M_has 103 2 57 [.int (h.1 264 (Int32.toNatClampNeg (((16 : Int32) * x1) + x6))), .int x2] [.int x3] (by decide +kernel) mk_M_has lk_12_103 rfl ⟨rfl, Nat.le_of_ble_eq_true rfl⟩ (c_M_has (d := d + 1) h (h.1 264 (Int32.toNatClampNeg (((16 : Int32) * x1) + x6))) x2 (ok_bind hO)) ?_
        rintro _ _ ⟨r35, rfl, rfl, hO⟩
        refine ri hG .eq (10) 70 60 (by decide +kernel) (by decide) (fun c36 => ?_) (fun c36 => ?_)
        · have hO := ok_pos c36 hO
          refine rb hG 4 70 71 [.ldc_w 0] [0] [] [(0, .ref 251), (1, .int x1), (2, .int x2), (3, .int x3), (4, .int x4), (5, .int x5), (6, .int x6)] [.int (0 : Int32), .int x3] h [] (by decide +kernel) rfl trivial ?_
          refine rs hG [(0, .ref 251), (1, .int x1), (2, .int x2), (4, .int x4), (5, .int x5), (6, .int x6)] [0, 1, 2, 4, 5, 6] rfl ?_
          exact j71 x6 x3 (0 : Int32) hO
        · have hO := ok_neg c36 hO
          refine rb hG 7 63 71 [.ldc_w 0, .iload 6, .ishl] [1] [] [(0, .ref 251), (1, .int x1), (2, .int x2), (3, .int x3), (4, .int x4), (5, .int x5), (6, .int x6)] [.int (sh (1 : Int32) x6), .int x3] h [] (by decide +kernel) rfl trivial ?_
          refine rs hG [(0, .ref 251), (1, .int x1), (2, .int x2), (4, .int x4), (5, .int x5), (6, .int x6)] [0, 1, 2, 4, 5, 6] rfl ?_
          exact j71 x6 x3 (sh (1 : Int32) x6) hO
    rw [eH36] at w9
    exact w9
  refine rbx hG 6 0 5 [.aload 0, .ldc_w 0, .putfield 1246] [-1] [] (wr h 251 46 (-1 : Int32)) (fun h37 => [(0, .ref 251), (1, .int x1), (2, .int x2)]) (fun h37 => []) (fun h37 => h37) [kd 251 = 12] (by decide +kernel) rfl kd_251 hO (fun h37 hO => ?_)
  refine rbx hG 6 5 10 [.aload 0, .ldc_w 0, .putfield 1247] [-1] [] (wr h37 251 47 (-1 : Int32)) (fun h38 => [(0, .ref 251), (1, .int x1), (2, .int x2)]) (fun h38 => []) (fun h38 => h38) [kd 251 = 12] (by decide +kernel) rfl kd_251 hO (fun h38 hO => ?_)
  refine rbx hG 6 10 15 [.aload 0, .ldc_w 0, .putfield 1248] [0] [] (wr h38 251 48 (0 : Int32)) (fun h39 => [(0, .ref 251), (1, .int x1), (2, .int x2)]) (fun h39 => []) (fun h39 => h39) [kd 251 = 12] (by decide +kernel) rfl kd_251 hO (fun h39 hO => ?_)
  obtain ⟨g40, hO⟩ := ok_if hO
  refine rbx hG 10 15 25 [.ldc_w 0, .istore 3, .aload 0, .invokeinterface 1230 15, .iload 1, .iaload, .istore 4] [0] [] ((h39.1 266 (Int32.toNatClampNeg x1))) (fun y41 => [(4, .int y41), (3, .int (0 : Int32)), (0, .ref 251), (1, .int x1), (2, .int x2)]) (fun y41 => []) (fun y41 => h39) [kd 251 = 12, kd 266 = 20 ∧ inb x1 (ln 266)] (by decide +kernel) rfl ⟨kd_251, ⟨kd_266, g40⟩⟩ hO (fun y41 hO => ?_)
  obtain ⟨g42, hO⟩ := ok_if hO
  refine rbx hG 8 25 33 [.aload 0, .invokeinterface 1231 16, .iload 1, .iaload, .istore 5] [] [] ((h39.1 267 (Int32.toNatClampNeg x1))) (fun y43 => [(5, .int y43), (4, .int y41), (3, .int (0 : Int32)), (0, .ref 251), (1, .int x1), (2, .int x2)]) (fun y43 => []) (fun y43 => h39) [kd 251 = 12, kd 267 = 20 ∧ inb x1 (ln 267)] (by decide +kernel) rfl ⟨kd_251, ⟨kd_267, g42⟩⟩ hO (fun y43 hO => ?_)
  refine rb hG 5 33 36 [.ldc_w 0, .istore 6] [0] [] [(6, .int (0 : Int32)), (5, .int y43), (4, .int y41), (3, .int (0 : Int32)), (0, .ref 251), (1, .int x1), (2, .int x2)] [] h39 [] (by decide +kernel) rfl trivial ?_
  refine rs hG [(0, .ref 251), (1, .int x1), (2, .int x2), (3, .int (0 : Int32)), (4, .int y41), (5, .int y43), (6, .int (0 : Int32))] [4, 5, 6, 3, 2, 1, 0] rfl ?_
  exact l36 (0 : Int32) y41 y43 (0 : Int32) h39 hO
/-! GrainInnModel.comes(IIIIII)I -/
noncomputable def M_comes_j45 (h : Hp) : Option (Int32 × Hp) := some ((-1 : Int32), h)
noncomputable def M_comes_j84 (s0 : Int32) (h : Hp) : Option (Int32 × Hp) := some (s0, h)
noncomputable def M_comes (h : Hp) (x1 : Int32) (x2 : Int32) (x3 : Int32) (x4 : Int32) (x5 : Int32) (x6 : Int32) : Option (Int32 × Hp) := bnd (wr h 251 0 (0 : Int32)) fun h1 => (M_in x5 (0 : Int32) (9 : Int32)).bind fun r2 => if r2 = 0 then ((M_comes_j45 h1)) else ((M_in x6 (0 : Int32) (2 : Int32)).bind fun r4 => if r4 = 0 then ((M_comes_j45 h1)) else ((M_layState h1 x1 x2 x3).bind fun (r6, h7) => if r6 = 0 then ((M_comes_j45 h7)) else ((M_isTable h7 x4).bind fun r9 => if r9 = 0 then ((M_comes_j45 h7)) else ((M_findComes h7 x4 x5).bind fun h11 => if x6 = 0 then ((M_comes_j84 (h11.1 251 46) h11)) else (if x6 = (1 : Int32) then ((M_comes_j84 (h11.1 251 47) h11)) else ((M_comes_j84 (h11.1 251 48) h11)))))))
set_option maxRecDepth 100000 in
set_option maxHeartbeats 4000000 in
theorem c_M_comes {E : En} {d : Nat} (h : Hp) (x1 : Int32) (x2 : Int32) (x3 : Int32) (x4 : Int32) (x5 : Int32) (x6 : Int32) {P : (Int32 × Hp) → Prop} (hO : Okk (M_comes h x1 x2 x3 x4 x5 x6) P) : Cn E (d + 9) z_M_comes [.ref 251, .int x1, .int x2, .int x3, .int x4, .int x5, .int x6] h (RI P) := by
  refine cn_of (on := 12) (d := d + 8) ⟨rfl, by decide +kernel, Nat.le_of_ble_eq_true rfl⟩ (fun G hG => ?_)
  unfold M_comes at hO
  show G 0 [(0, .ref 251), (1, .int x1), (2, .int x2), (3, .int x3), (4, .int x4), (5, .int x5), (6, .int x6)] [] h
  have j45 : ∀ (h : Hp), Okk (M_comes_j45 h) P → G 45 [] [] h := by
    intro h hO
    unfold M_comes_j45 at hO
    refine rb hG 4 45 46 [.ldc_w 0] [-1] [] [] [.int (-1 : Int32)] h [] (by decide +kernel) rfl trivial ?_
    exact eI hG 46 (by decide +kernel) rfl ⟨(-1 : Int32), rfl, ok_some (Q := P) hO⟩
  have j84 : ∀ (s0 : Int32) (h : Hp), Okk (M_comes_j84 s0 h) P → G 84 [] [.int s0] h := by
    intro s0 h hO
    unfold M_comes_j84 at hO
    exact eI hG 84 (by decide +kernel) rfl ⟨s0, rfl, ok_some (Q := P) hO⟩
  refine rbx hG 6 0 5 [.aload 0, .ldc_w 0, .putfield 1200] [0] [] (wr h 251 0 (0 : Int32)) (fun h1 => [(0, .ref 251), (1, .int x1), (2, .int x2), (3, .int x3), (4, .int x4), (5, .int x5), (6, .int x6)]) (fun h1 => []) (fun h1 => h1) [kd 251 = 12] (by decide +kernel) rfl kd_251 hO (fun h1 hO => ?_)
  refine rb hG 6 5 10 [.iload 5, .ldc_w 0, .ldc_w 1] [0, 9] [] [(0, .ref 251), (1, .int x1), (2, .int x2), (3, .int x3), (4, .int x4), (5, .int x5), (6, .int x6)] [.int (9 : Int32), .int (0 : Int32), .int x5] h1 [] (by decide +kernel) rfl trivial ?_
  refine rt hG z_M_in 111 3 10 [.int x5, .int (0 : Int32), .int (9 : Int32)] [] (by decide +kernel) mk_M_in lk_12_111 rfl ⟨rfl, Nat.le_of_ble_eq_true rfl⟩ (c_M_in (d := d + 7) h1 x5 (0 : Int32) (9 : Int32) (ok_bind hO)) ?_
  rintro _ _ ⟨r2, rfl, rfl, hO⟩
  refine ri hG .eq (32) 45 13 (by decide +kernel) (by decide) (fun c3 => ?_) (fun c3 => ?_)
  · have hO := ok_pos c3 hO
    refine rs hG [] [] rfl ?_
    exact j45 h1 hO
  · have hO := ok_neg c3 hO
    refine rb hG 6 16 20 [.iload 6, .ldc_w 0, .ldc_w 1] [0, 2] [] [(0, .ref 251), (1, .int x1), (2, .int x2), (3, .int x3), (4, .int x4), (5, .int x5), (6, .int x6)] [.int (2 : Int32), .int (0 : Int32), .int x6] h1 [] (by decide +kernel) rfl trivial ?_
    refine rt hG z_M_in 111 3 20 [.int x6, .int (0 : Int32), .int (2 : Int32)] [] (by decide +kernel) mk_M_in lk_12_111 rfl ⟨rfl, Nat.le_of_ble_eq_true rfl⟩ (c_M_in (d := d + 7) h1 x6 (0 : Int32) (2 : Int32) (ok_bind hO)) ?_
    rintro _ _ ⟨r4, rfl, rfl, hO⟩
    refine ri hG .eq (22) 45 23 (by decide +kernel) (by decide) (fun c5 => ?_) (fun c5 => ?_)
    · have hO := ok_pos c5 hO
      refine rs hG [] [] rfl ?_
      exact j45 h1 hO
    · have hO := ok_neg c5 hO
      refine rb hG 7 26 30 [.aload 0, .iload 1, .iload 2, .iload 3] [] [] [(0, .ref 251), (1, .int x1), (2, .int x2), (3, .int x3), (4, .int x4), (5, .int x5), (6, .int x6)] [.int x3, .int x2, .int x1, .ref 251] h1 [] (by decide +kernel) rfl trivial ?_
      refine rv hG z_M_layState 380 3 30 251 [.int x1, .int x2, .int x3] [] (by decide +kernel) mk_M_layState lk_12_380 rcv_251 rfl ⟨rfl, Nat.le_of_ble_eq_true rfl⟩ (c_M_layState (d := d) h1 x1 x2 x3 (ok_bind hO)) ?_
      rintro _ h7 ⟨r6, rfl, hO⟩
      refine ri hG .eq (12) 45 33 (by decide +kernel) (by decide) (fun c8 => ?_) (fun c8 => ?_)
      · have hO := ok_pos c8 hO
        refine rs hG [] [] rfl ?_
        exact j45 h7 hO
      · have hO := ok_neg c8 hO
        refine rb hG 5 36 39 [.aload 0, .iload 4] [] [] [(0, .ref 251), (1, .int x1), (2, .int x2), (3, .int x3), (4, .int x4), (5, .int x5), (6, .int x6)] [.int x4, .ref 251] h7 [] (by decide +kernel) rfl trivial ?_
        refine rv hG z_M_isTable 338 1 39 251 [.int x4] [] (by decide +kernel) mk_M_isTable lk_12_338 rcv_251 rfl ⟨rfl, Nat.le_of_ble_eq_true rfl⟩ (c_M_isTable (d := d + 6) h7 x4 (ok_bind hO)) ?_
        rintro _ _ ⟨r9, rfl, rfl, hO⟩
        refine riN hG (5) 47 42 (by decide +kernel) (by decide) (fun c10 => ?_) (fun c10 => ?_)
        · have hO := ok_pos c10 hO
          refine rs hG [] [] rfl ?_
          exact j45 h7 hO
        · have hO := ok_neg c10 hO
          refine rb hG 6 47 52 [.aload 0, .iload 4, .iload 5] [] [] [(0, .ref 251), (1, .int x1), (2, .int x2), (3, .int x3), (4, .int x4), (5, .int x5), (6, .int x6)] [.int x5, .int x4, .ref 251] h7 [] (by decide +kernel) rfl trivial ?_
          refine rv hG z_M_findComes 442 2 52 251 [.int x4, .int x5] [] (by decide +kernel) mk_M_findComes lk_12_442 rcv_251 rfl ⟨rfl, Nat.le_of_ble_eq_true rfl⟩ (c_M_findComes (d := d + 5) h7 x4 x5 (ok_bind hO)) ?_
          rintro _ h11 ⟨rfl, hO⟩
          refine rb hG 4 55 57 [.iload 6] [] [] [(0, .ref 251), (1, .int x1), (2, .int x2), (3, .int x3), (4, .int x4), (5, .int x5), (6, .int x6)] [.int x6] h11 [] (by decide +kernel) rfl trivial ?_
          refine riN hG (10) 67 57 (by decide +kernel) (by decide) (fun c12 => ?_) (fun c12 => ?_)
          · have hO := ok_pos c12 hO
            refine rb hG 6 60 84 [.aload 0, .getfield 1246] [] [] [(0, .ref 251), (1, .int x1), (2, .int x2), (3, .int x3), (4, .int x4), (5, .int x5), (6, .int x6)] [.int (h11.1 251 46)] h11 [kd 251 = 12] (by decide +kernel) rfl kd_251 ?_
            refine rs hG [] [] rfl ?_
            exact j84 (h11.1 251 46) h11 hO
          · have hO := ok_neg c12 hO
            refine rb hG 5 67 70 [.iload 6, .ldc_w 0] [1] [] [(0, .ref 251), (1, .int x1), (2, .int x2), (3, .int x3), (4, .int x4), (5, .int x5), (6, .int x6)] [.int (1 : Int32), .int x6] h11 [] (by decide +kernel) rfl trivial ?_
            refine rjN hG (10) 80 70 (by decide +kernel) (by decide) (fun c13 => ?_) (fun c13 => ?_)
            · have hO := ok_pos c13 hO
              refine rb hG 6 73 84 [.aload 0, .getfield 1247] [] [] [(0, .ref 251), (1, .int x1), (2, .int x2), (3, .int x3), (4, .int x4), (5, .int x5), (6, .int x6)] [.int (h11.1 251 47)] h11 [kd 251 = 12] (by decide +kernel) rfl kd_251 ?_
              refine rs hG [] [] rfl ?_
              exact j84 (h11.1 251 47) h11 hO
            · have hO := ok_neg c13 hO
              refine rb hG 5 80 84 [.aload 0, .getfield 1248] [] [] [(0, .ref 251), (1, .int x1), (2, .int x2), (3, .int x3), (4, .int x4), (5, .int x5), (6, .int x6)] [.int (h11.1 251 48)] h11 [kd 251 = 12] (by decide +kernel) rfl kd_251 ?_
              refine rs hG [] [] rfl ?_
              exact j84 (h11.1 251 48) h11 hO
/-! GrainInn.House.isPeaceful(I)Z -/
noncomputable def H_isPeaceful_j14 (x0 : Nat) (s0 : Int32) (h : Hp) : Option Int32 := if s0 = 0 ∨ s0 = 1 then (some s0) else none
noncomputable def H_isPeaceful (h : Hp) (x0 : Nat) (x1 : Int32) : Option Int32 := if kd x0 = 1 then ((H_strifeOf h x0 x1 x1).bind fun r2 => if r2 = 0 then ((H_isPeaceful_j14 x0 (1 : Int32) h)) else ((H_isPeaceful_j14 x0 (0 : Int32) h))) else none
set_option maxRecDepth 100000 in
set_option maxHeartbeats 4000000 in
theorem c_H_isPeaceful {E : En} {d : Nat} (h : Hp) (x0 : Nat) (x1 : Int32) {P : Int32 → Prop} (hO : Okk (H_isPeaceful h x0 x1) P) : Cn E (d + 4) z_H_isPeaceful [.ref x0, .int x1] h (RIp h P) := by
  refine cn_of (on := 1) (d := d + 3) ⟨rfl, by decide +kernel, Nat.le_of_ble_eq_true rfl⟩ (fun G hG => ?_)
  unfold H_isPeaceful at hO
  show G 0 [(0, .ref x0), (1, .int x1)] [] h
  obtain ⟨g0, hO⟩ := ok_if hO
  have j14 : ∀ (s0 : Int32), Okk (H_isPeaceful_j14 x0 s0 h) P → G 14 [] [.int s0] h := by
    intro s0 hO
    unfold H_isPeaceful_j14 at hO
    obtain ⟨g1, hO⟩ := ok_if hO
    exact eZ hG 14 (by decide +kernel) rfl g1 ⟨s0, rfl, rfl, ok_some (Q := P) hO⟩
  refine rb hG 6 0 3 [.aload 0, .iload 1, .iload 1] [] [] [(0, .ref x0), (1, .int x1)] [.int x1, .int x1, .ref x0] h [] (by decide +kernel) rfl trivial ?_
  refine rv hG z_H_strifeOf 67 2 3 x0 [.int x1, .int x1] [] (by decide +kernel) mk_H_strifeOf lk_1_67 (rcv_H g0) rfl ⟨rfl, Nat.le_of_ble_eq_true rfl⟩ (c_H_strifeOf (d := d) h x0 x1 x1 (ok_bind hO)) ?_
  rintro _ _ ⟨r2, rfl, rfl, hO⟩
  refine riN hG (7) 13 6 (by decide +kernel) (by decide) (fun c3 => ?_) (fun c3 => ?_)
  · have hO := ok_pos c3 hO
    refine rb hG 5 9 14 [.ldc_w 0] [1] [] [(0, .ref x0), (1, .int x1)] [.int (1 : Int32)] h [] (by decide +kernel) rfl trivial ?_
    refine rs hG [] [] rfl ?_
    exact j14 (1 : Int32) hO
  · have hO := ok_neg c3 hO
    refine rb hG 4 13 14 [.ldc_w 0] [0] [] [(0, .ref x0), (1, .int x1)] [.int (0 : Int32)] h [] (by decide +kernel) rfl trivial ?_
    refine rs hG [] [] rfl ?_
    exact j14 (0 : Int32) hO
/-! GrainInn.Parting.fewestCuts(LGrainInn$House;LGrainInn$Bench;)I -/
noncomputable def P_fewestCuts_j71 (x1 : Nat) (x2 : Nat) (x3 : Int32) (h : Hp) : Option Int32 := some x3
noncomputable def P_fewestCuts_j65 (x1 : Nat) (x2 : Nat) (x3 : Int32) (x4 : Int32) (x5 : Int32) (h : Hp) : Option ((Int32 × Int32 × Int32) ⊕ Int32) := bnd ((x5 + (1 : Int32))) fun y1 => some (.inl (x3, x4, y1))
noncomputable def P_fewestCuts_j34 (x1 : Nat) (x2 : Nat) (h : Hp) : Option Int32 := some (-1 : Int32)
noncomputable def P_fewestCuts_b8 (x1 : Nat) (x2 : Nat) (x3 : Int32) (x4 : Int32) (x5 : Int32) (h : Hp) : Option ((Int32 × Int32 × Int32) ⊕ Int32) := if kd x2 = 0 then (if (h.1 x2 3) ≤ x5 then (((P_fewestCuts_j71 x1 x2 x3 h).map Sum.inr)) else ((B_guestsOf h x2 x5).bind fun r4 => if kd x1 = 1 then ((H_isPeaceful h x1 r4).bind fun r6 => if r6 = 0 then (((P_fewestCuts_j34 x1 x2 h).map Sum.inr)) else ((H_isPeaceful h x1 (x4 ||| r4)).bind fun r8 => if r8 = 0 then (bnd ((x3 + (1 : Int32))) fun y10 => (P_fewestCuts_j65 x1 x2 y10 r4 x5 h)) else (bnd ((x4 ||| r4)) fun y11 => (P_fewestCuts_j65 x1 x2 x3 y11 x5 h)))) else none)) else none
noncomputable def P_fewestCuts_l8 (x1 : Nat) (x2 : Nat) (x3 : Int32) (x4 : Int32) (x5 : Int32) (h : Hp) : Option Int32 := lp (fun s : (Int32 × Int32 × Int32) => P_fewestCuts_b8 x1 x2 s.1 s.2.1 s.2.2 h) (x3, x4, x5)
theorem P_fewestCuts_l8_eq (x1 : Nat) (x2 : Nat) (x3 : Int32) (x4 : Int32) (x5 : Int32) (h : Hp) : P_fewestCuts_l8 x1 x2 x3 x4 x5 h = (P_fewestCuts_b8 x1 x2 x3 x4 x5 h).bind (Sum.elim (fun q : (Int32 × Int32 × Int32) => P_fewestCuts_l8 x1 x2 q.1 q.2.1 q.2.2 h) some) := lp_eq _ _
noncomputable def P_fewestCuts (h : Hp) (x1 : Nat) (x2 : Nat) : Option Int32 := (P_fewestCuts_l8 x1 x2 (0 : Int32) (0 : Int32) (0 : Int32) h)
set_option maxRecDepth 100000 in
set_option maxHeartbeats 4000000 in
theorem c_P_fewestCuts {E : En} {d : Nat} (h : Hp) (x1 : Nat) (x2 : Nat) {P : Int32 → Prop} (hO : Okk (P_fewestCuts h x1 x2) P) : Cn E (d + 5) z_P_fewestCuts [.ref 123, .ref x1, .ref x2] h (RIp h P) := by
  refine cn_of (on := 3) (d := d + 4) ⟨rfl, by decide +kernel, Nat.le_of_ble_eq_true rfl⟩ (fun G hG => ?_)
  unfold P_fewestCuts at hO
  show G 0 [(0, .ref 123), (1, .ref x1), (2, .ref x2)] [] h
  have j71 : ∀ (x3 : Int32), Okk (P_fewestCuts_j71 x1 x2 x3 h) P → G 71 [(3, .int x3)] [] h := by
    intro x3 hO
    unfold P_fewestCuts_j71 at hO
    refine rb hG 4 71 72 [.iload 3] [] [] [(3, .int x3)] [.int x3] h [] (by decide +kernel) rfl trivial ?_
    exact eI hG 72 (by decide +kernel) rfl ⟨x3, rfl, rfl, ok_some (Q := P) hO⟩
  have j34 : Okk (P_fewestCuts_j34 x1 x2 h) P → G 34 [] [] h := by
    intro hO
    unfold P_fewestCuts_j34 at hO
    refine rb hG 4 34 35 [.ldc_w 0] [-1] [] [] [.int (-1 : Int32)] h [] (by decide +kernel) rfl trivial ?_
    exact eI hG 35 (by decide +kernel) rfl ⟨(-1 : Int32), rfl, rfl, ok_some (Q := P) hO⟩
  have l8 : ∀ (x3 : Int32) (x4 : Int32) (x5 : Int32), Okk (P_fewestCuts_l8 x1 x2 x3 x4 x5 h) P → G 8 [(1, .ref x1), (2, .ref x2), (3, .int x3), (4, .int x4), (5, .int x5)] [] h := by
    intro x3 x4 x5 hO
    obtain ⟨H8, eH8⟩ : ∃ q : (Int32 × Int32 × Int32) → Prop, q = fun s => G 8 [(1, .ref x1), (2, .ref x2), (3, .int (s.1)), (4, .int (s.2.1)), (5, .int (s.2.2))] [] (h) := ⟨_, rfl⟩
    have w9 : H8 (x3, x4, x5) := by
      refine lp_wp (f := fun s : (Int32 × Int32 × Int32) => P_fewestCuts_b8 x1 x2 s.1 s.2.1 s.2.2 h) (H := H8) (Q := P) ?_ (x3, x4, x5) hO
      rintro ⟨x3, x4, x5⟩ hO
      rw [eH8]
      show G 8 [(1, .ref x1), (2, .ref x2), (3, .int x3), (4, .int x4), (5, .int x5)] [] h
      have k8 : ∀ s : (Int32 × Int32 × Int32), H8 s → G 8 [(1, .ref x1), (2, .ref x2), (3, .int (s.1)), (4, .int (s.2.1)), (5, .int (s.2.2))] [] (h) := fun s q => by rw [eH8] at q; exact q
      replace hO : Okk (P_fewestCuts_b8 x1 x2 x3 x4 x5 h) (Sum.elim H8 P) := hO
      clear eH8
      have j65 : ∀ (x3 : Int32) (x4 : Int32) (x5 : Int32), Okk (P_fewestCuts_j65 x1 x2 x3 x4 x5 h) (Sum.elim H8 P) → G 65 [(1, .ref x1), (2, .ref x2), (3, .int x3), (4, .int x4), (5, .int x5)] [] h := by
        intro x3 x4 x5 hO
        unfold P_fewestCuts_j65 at hO
        refine rbx hG 4 65 68 [.iinc 5 0] [1] [] ((x5 + (1 : Int32))) (fun y1 => [(5, .int y1), (1, .ref x1), (2, .ref x2), (3, .int x3), (4, .int x4)]) (fun y1 => []) (fun y1 => h) [] (by decide +kernel) rfl trivial hO (fun y1 hO => ?_)
        refine rb hG 4 68 8 [] [] [] [(5, .int y1), (1, .ref x1), (2, .ref x2), (3, .int x3), (4, .int x4)] [] h [] (by decide +kernel) rfl trivial ?_
        refine rs hG [(1, .ref x1), (2, .ref x2), (3, .int x3), (4, .int x4), (5, .int y1)] [1, 2, 3, 4, 0] rfl ?_
        exact k8 (x3, x4, y1) (ok_some (Q := (Sum.elim H8 P)) hO)
      unfold P_fewestCuts_b8 at hO
      obtain ⟨g2, hO⟩ := ok_if hO
      refine rb hG 6 8 14 [.iload 5, .aload 2, .getfield 3] [] [] [(1, .ref x1), (2, .ref x2), (3, .int x3), (4, .int x4), (5, .int x5)] [.int (h.1 x2 3), .int x5] h [kd x2 = 0] (by decide +kernel) rfl g2 ?_
      refine rj hG .ge (57) 71 14 (by decide +kernel) (by decide) (fun c3 => ?_) (fun c3 => ?_)
      · have hO := ok_pos c3 hO
        refine rs hG [(3, .int x3)] [2] rfl ?_
        exact j71 x3 (ok_inr hO)
      · have hO := ok_neg c3 hO
        refine rb hG 5 17 20 [.aload 2, .iload 5] [] [] [(1, .ref x1), (2, .ref x2), (3, .int x3), (4, .int x4), (5, .int x5)] [.int x5, .ref x2] h [] (by decide +kernel) rfl trivial ?_
        refine rv hG z_B_guestsOf 21 1 20 x2 [.int x5] [] (by decide +kernel) mk_B_guestsOf lk_3_21 (rcv_B g2) rfl ⟨rfl, Nat.le_of_ble_eq_true rfl⟩ (c_B_guestsOf (d := d + 3) h x2 x5 (ok_bind hO)) ?_
        rintro _ _ ⟨r4, rfl, rfl, hO⟩
        obtain ⟨g5, hO⟩ := ok_if hO
        refine rb hG 6 23 28 [.istore 6, .aload 1, .iload 6] [] [] [(6, .int r4), (1, .ref x1), (2, .ref x2), (3, .int x3), (4, .int x4), (5, .int x5)] [.int r4, .ref x1] h [] (by decide +kernel) rfl trivial ?_
        refine rv hG z_H_isPeaceful 25 1 28 x1 [.int r4] [] (by decide +kernel) mk_H_isPeaceful lk_3_25 (rcv_H g5) rfl ⟨rfl, Nat.le_of_ble_eq_true rfl⟩ (c_H_isPeaceful (d := d) h x1 r4 (ok_bind hO)) ?_
        rintro _ _ ⟨r6, rfl, rfl, hO⟩
        refine riN hG (5) 36 31 (by decide +kernel) (by decide) (fun c7 => ?_) (fun c7 => ?_)
        · have hO := ok_pos c7 hO
          refine rs hG [] [] rfl ?_
          exact j34 (ok_inr hO)
        · have hO := ok_neg c7 hO
          refine rb hG 7 36 42 [.aload 1, .iload 4, .iload 6, .ior] [] [] [(6, .int r4), (1, .ref x1), (2, .ref x2), (3, .int x3), (4, .int x4), (5, .int x5)] [.int (x4 ||| r4), .ref x1] h [] (by decide +kernel) rfl trivial ?_
          refine rv hG z_H_isPeaceful 25 1 42 x1 [.int (x4 ||| r4)] [] (by decide +kernel) mk_H_isPeaceful lk_3_25 (rcv_H g5) rfl ⟨rfl, Nat.le_of_ble_eq_true rfl⟩ (c_H_isPeaceful (d := d) h x1 (x4 ||| r4) (ok_bind hO)) ?_
          rintro _ _ ⟨r8, rfl, rfl, hO⟩
          refine ri hG .eq (13) 58 45 (by decide +kernel) (by decide) (fun c9 => ?_) (fun c9 => ?_)
          · have hO := ok_pos c9 hO
            refine rbx hG 4 58 61 [.iinc 3 0] [1] [] ((x3 + (1 : Int32))) (fun y10 => [(3, .int y10), (6, .int r4), (1, .ref x1), (2, .ref x2), (4, .int x4), (5, .int x5)]) (fun y10 => []) (fun y10 => h) [] (by decide +kernel) rfl trivial hO (fun y10 hO => ?_)
            refine rb hG 5 61 65 [.iload 6, .istore 4] [] [] [(4, .int r4), (3, .int y10), (6, .int r4), (1, .ref x1), (2, .ref x2), (5, .int x5)] [] h [] (by decide +kernel) rfl trivial ?_
            refine rs hG [(1, .ref x1), (2, .ref x2), (3, .int y10), (4, .int r4), (5, .int x5)] [3, 4, 1, 0, 5] rfl ?_
            exact j65 y10 r4 x5 hO
          · have hO := ok_neg c9 hO
            refine rbx hG 7 48 55 [.iload 4, .iload 6, .ior, .istore 4] [] [] ((x4 ||| r4)) (fun y11 => [(4, .int y11), (6, .int r4), (1, .ref x1), (2, .ref x2), (3, .int x3), (5, .int x5)]) (fun y11 => []) (fun y11 => h) [] (by decide +kernel) rfl trivial hO (fun y11 hO => ?_)
            refine rb hG 4 55 65 [] [] [] [(4, .int y11), (6, .int r4), (1, .ref x1), (2, .ref x2), (3, .int x3), (5, .int x5)] [] h [] (by decide +kernel) rfl trivial ?_
            refine rs hG [(1, .ref x1), (2, .ref x2), (3, .int x3), (4, .int y11), (5, .int x5)] [2, 3, 4, 0, 5] rfl ?_
            exact j65 x3 y11 x5 hO
    rw [eH8] at w9
    exact w9
  refine rb hG 9 0 8 [.ldc_w 0, .istore 3, .ldc_w 0, .istore 4, .ldc_w 0, .istore 5] [0] [] [(5, .int (0 : Int32)), (4, .int (0 : Int32)), (3, .int (0 : Int32)), (0, .ref 123), (1, .ref x1), (2, .ref x2)] [] h [] (by decide +kernel) rfl trivial ?_
  refine rs hG [(1, .ref x1), (2, .ref x2), (3, .int (0 : Int32)), (4, .int (0 : Int32)), (5, .int (0 : Int32))] [4, 5, 2, 1, 0] rfl ?_
  exact l8 (0 : Int32) (0 : Int32) (0 : Int32) hO
/-! GrainInn.Parting.leastForgotten(LGrainInn$House;LGrainInn$Bench;)I -/
noncomputable def P_leastForgotten_j101 (x1 : Nat) (x2 : Nat) (x4 : Int32) (h : Hp) : Option Int32 := some x4
noncomputable def P_leastForgotten_j95 (x1 : Nat) (x2 : Nat) (x3 : Int32) (x4 : Int32) (x5 : Int32) (h : Hp) : Option ((Int32 × Int32) ⊕ Int32) := bnd ((x5 + (-1 : Int32))) fun y1 => some (.inl (x4, y1))
noncomputable def P_leastForgotten_j69 (x1 : Nat) (x2 : Nat) (x3 : Int32) (x4 : Int32) (x5 : Int32) (x6 : Int32) (h : Hp) : Option ((Int32 × Int32) ⊕ Int32) := (J_bitCount x5).bind fun r2 => (J_bitCount x4).bind fun r3 => if r3 < r2 then ((P_leastForgotten_j95 x1 x2 x3 x4 x5 h)) else (if kd x1 = 1 then ((H_isPeaceful h x1 x6).bind fun r6 => if r6 = 0 then ((P_leastForgotten_j95 x1 x2 x3 x4 x5 h)) else ((P_leastForgotten_j95 x1 x2 x3 x5 x5 h))) else none)
noncomputable def P_leastForgotten_j60 (x1 : Nat) (x2 : Nat) (x3 : Int32) (x4 : Int32) (x5 : Int32) (x7 : Int32) (s0 : Int32) (s1 : Int32) (h : Hp) : Option ((Int32 × Int32) ⊕ ((Int32 × Int32) ⊕ Int32)) := bnd ((s0 ||| s1)) fun y8 => bnd ((x7 + (1 : Int32))) fun y9 => some (.inl (y8, y9))
noncomputable def P_leastForgotten_b32 (x1 : Nat) (x2 : Nat) (x3 : Int32) (x4 : Int32) (x5 : Int32) (x6 : Int32) (x7 : Int32) (h : Hp) : Option ((Int32 × Int32) ⊕ ((Int32 × Int32) ⊕ Int32)) := if x3 ≤ x7 then (((P_leastForgotten_j69 x1 x2 x3 x4 x5 x6 h).map Sum.inr)) else ((K_isIn x5 x7).bind fun r11 => if r11 = 0 then (if kd x2 = 0 then ((B_guestsOf h x2 x7).bind fun r14 => (P_leastForgotten_j60 x1 x2 x3 x4 x5 x7 x6 r14 h)) else none) else ((P_leastForgotten_j60 x1 x2 x3 x4 x5 x7 x6 (0 : Int32) h)))
noncomputable def P_leastForgotten_l32 (x1 : Nat) (x2 : Nat) (x3 : Int32) (x4 : Int32) (x5 : Int32) (x6 : Int32) (x7 : Int32) (h : Hp) : Option ((Int32 × Int32) ⊕ Int32) := lp (fun s : (Int32 × Int32) => P_leastForgotten_b32 x1 x2 x3 x4 x5 s.1 s.2 h) (x6, x7)
theorem P_leastForgotten_l32_eq (x1 : Nat) (x2 : Nat) (x3 : Int32) (x4 : Int32) (x5 : Int32) (x6 : Int32) (x7 : Int32) (h : Hp) : P_leastForgotten_l32 x1 x2 x3 x4 x5 x6 x7 h = (P_leastForgotten_b32 x1 x2 x3 x4 x5 x6 x7 h).bind (Sum.elim (fun q : (Int32 × Int32) => P_leastForgotten_l32 x1 x2 x3 x4 x5 q.1 q.2 h) some) := lp_eq _ _
noncomputable def P_leastForgotten_b21 (x1 : Nat) (x2 : Nat) (x3 : Int32) (x4 : Int32) (x5 : Int32) (h : Hp) : Option ((Int32 × Int32) ⊕ Int32) := if x5 < 0 then (((P_leastForgotten_j101 x1 x2 x4 h).map Sum.inr)) else ((P_leastForgotten_l32 x1 x2 x3 x4 x5 (0 : Int32) (0 : Int32) h))
noncomputable def P_leastForgotten_l21 (x1 : Nat) (x2 : Nat) (x3 : Int32) (x4 : Int32) (x5 : Int32) (h : Hp) : Option Int32 := lp (fun s : (Int32 × Int32) => P_leastForgotten_b21 x1 x2 x3 s.1 s.2 h) (x4, x5)
theorem P_leastForgotten_l21_eq (x1 : Nat) (x2 : Nat) (x3 : Int32) (x4 : Int32) (x5 : Int32) (h : Hp) : P_leastForgotten_l21 x1 x2 x3 x4 x5 h = (P_leastForgotten_b21 x1 x2 x3 x4 x5 h).bind (Sum.elim (fun q : (Int32 × Int32) => P_leastForgotten_l21 x1 x2 x3 q.1 q.2 h) some) := lp_eq _ _
noncomputable def P_leastForgotten (h : Hp) (x1 : Nat) (x2 : Nat) : Option Int32 := if kd x2 = 0 then (bnd ((mn (h.1 x2 3) (6 : Int32))) fun y17 => bnd (((sh (1 : Int32) y17) - (1 : Int32))) fun y18 => (P_leastForgotten_l21 x1 x2 y17 y18 y18 h)) else none
set_option maxRecDepth 100000 in
set_option maxHeartbeats 4000000 in
theorem c_P_leastForgotten {E : En} {d : Nat} (h : Hp) (x1 : Nat) (x2 : Nat) {P : Int32 → Prop} (hO : Okk (P_leastForgotten h x1 x2) P) : Cn E (d + 5) z_P_leastForgotten [.ref 123, .ref x1, .ref x2] h (RIp h P) := by
  refine cn_of (on := 3) (d := d + 4) ⟨rfl, by decide +kernel, Nat.le_of_ble_eq_true rfl⟩ (fun G hG => ?_)
  unfold P_leastForgotten at hO
  show G 0 [(0, .ref 123), (1, .ref x1), (2, .ref x2)] [] h
  have j101 : ∀ (x4 : Int32), Okk (P_leastForgotten_j101 x1 x2 x4 h) P → G 101 [(4, .int x4)] [] h := by
    intro x4 hO
    unfold P_leastForgotten_j101 at hO
    refine rb hG 4 101 103 [.iload 4] [] [] [(4, .int x4)] [.int x4] h [] (by decide +kernel) rfl trivial ?_
    exact eI hG 103 (by decide +kernel) rfl ⟨x4, rfl, rfl, ok_some (Q := P) hO⟩
  have l21 : ∀ (x3 : Int32) (x4 : Int32) (x5 : Int32), Okk (P_leastForgotten_l21 x1 x2 x3 x4 x5 h) P → G 21 [(1, .ref x1), (2, .ref x2), (3, .int x3), (4, .int x4), (5, .int x5)] [] h := by
    intro x3 x4 x5 hO
    obtain ⟨H21, eH21⟩ : ∃ q : (Int32 × Int32) → Prop, q = fun s => G 21 [(1, .ref x1), (2, .ref x2), (3, .int x3), (4, .int (s.1)), (5, .int (s.2))] [] (h) := ⟨_, rfl⟩
    have w9 : H21 (x4, x5) := by
      refine lp_wp (f := fun s : (Int32 × Int32) => P_leastForgotten_b21 x1 x2 x3 s.1 s.2 h) (H := H21) (Q := P) ?_ (x4, x5) hO
      rintro ⟨x4, x5⟩ hO
      rw [eH21]
      show G 21 [(1, .ref x1), (2, .ref x2), (3, .int x3), (4, .int x4), (5, .int x5)] [] h
      have k21 : ∀ s : (Int32 × Int32), H21 s → G 21 [(1, .ref x1), (2, .ref x2), (3, .int x3), (4, .int (s.1)), (5, .int (s.2))] [] (h) := fun s q => by rw [eH21] at q; exact q
      replace hO : Okk (P_leastForgotten_b21 x1 x2 x3 x4 x5 h) (Sum.elim H21 P) := hO
      clear eH21
      have j95 : ∀ (x4 : Int32) (x5 : Int32), Okk (P_leastForgotten_j95 x1 x2 x3 x4 x5 h) (Sum.elim H21 P) → G 95 [(1, .ref x1), (2, .ref x2), (3, .int x3), (4, .int x4), (5, .int x5)] [] h := by
        intro x4 x5 hO
        unfold P_leastForgotten_j95 at hO
        refine rbx hG 4 95 98 [.iinc 5 0] [-1] [] ((x5 + (-1 : Int32))) (fun y1 => [(5, .int y1), (1, .ref x1), (2, .ref x2), (3, .int x3), (4, .int x4)]) (fun y1 => []) (fun y1 => h) [] (by decide +kernel) rfl trivial hO (fun y1 hO => ?_)
        refine rb hG 4 98 21 [] [] [] [(5, .int y1), (1, .ref x1), (2, .ref x2), (3, .int x3), (4, .int x4)] [] h [] (by decide +kernel) rfl trivial ?_
        refine rs hG [(1, .ref x1), (2, .ref x2), (3, .int x3), (4, .int x4), (5, .int y1)] [1, 2, 3, 4, 0] rfl ?_
        exact k21 (x4, y1) (ok_some (Q := (Sum.elim H21 P)) hO)
      have j69 : ∀ (x4 : Int32) (x5 : Int32) (x6 : Int32), Okk (P_leastForgotten_j69 x1 x2 x3 x4 x5 x6 h) (Sum.elim H21 P) → G 69 [(1, .ref x1), (2, .ref x2), (3, .int x3), (4, .int x4), (5, .int x5), (6, .int x6)] [] h := by
        intro x4 x5 x6 hO
        unfold P_leastForgotten_j69 at hO
        refine rb hG 4 69 71 [.iload 5] [] [] [(1, .ref x1), (2, .ref x2), (3, .int x3), (4, .int x4), (5, .int x5), (6, .int x6)] [.int x5] h [] (by decide +kernel) rfl trivial ?_
        refine rt hG z_J_bitCount 41 1 71 [.int x5] [] (by decide +kernel) mk_J_bitCount lk_3_41 rfl ⟨rfl, Nat.le_of_ble_eq_true rfl⟩ (c_J_bitCount (d := d + 3) h x5 (ok_bind hO)) ?_
        rintro _ _ ⟨r2, rfl, rfl, hO⟩
        refine rb hG 4 74 76 [.iload 4] [] [] [(1, .ref x1), (2, .ref x2), (3, .int x3), (4, .int x4), (5, .int x5), (6, .int x6)] [.int x4, .int r2] h [] (by decide +kernel) rfl trivial ?_
        refine rt hG z_J_bitCount 41 1 76 [.int x4] [.int r2] (by decide +kernel) mk_J_bitCount lk_3_41 rfl ⟨rfl, Nat.le_of_ble_eq_true rfl⟩ (c_J_bitCount (d := d + 3) h x4 (ok_bind hO)) ?_
        rintro _ _ ⟨r3, rfl, rfl, hO⟩
        refine rj hG .gt (16) 95 79 (by decide +kernel) (by decide) (fun c4 => ?_) (fun c4 => ?_)
        · have hO := ok_pos c4 hO
          refine rs hG [(1, .ref x1), (2, .ref x2), (3, .int x3), (4, .int x4), (5, .int x5)] [0, 1, 2, 3, 4] rfl ?_
          exact j95 x4 x5 hO
        · have hO := ok_neg c4 hO
          obtain ⟨g5, hO⟩ := ok_if hO
          refine rb hG 5 82 85 [.aload 1, .iload 6] [] [] [(1, .ref x1), (2, .ref x2), (3, .int x3), (4, .int x4), (5, .int x5), (6, .int x6)] [.int x6, .ref x1] h [] (by decide +kernel) rfl trivial ?_
          refine rv hG z_H_isPeaceful 25 1 85 x1 [.int x6] [] (by decide +kernel) mk_H_isPeaceful lk_3_25 (rcv_H g5) rfl ⟨rfl, Nat.le_of_ble_eq_true rfl⟩ (c_H_isPeaceful (d := d) h x1 x6 (ok_bind hO)) ?_
          rintro _ _ ⟨r6, rfl, rfl, hO⟩
          refine ri hG .eq (7) 95 88 (by decide +kernel) (by decide) (fun c7 => ?_) (fun c7 => ?_)
          · have hO := ok_pos c7 hO
            refine rs hG [(1, .ref x1), (2, .ref x2), (3, .int x3), (4, .int x4), (5, .int x5)] [0, 1, 2, 3, 4] rfl ?_
            exact j95 x4 x5 hO
          · have hO := ok_neg c7 hO
            refine rb hG 5 91 95 [.iload 5, .istore 4] [] [] [(4, .int x5), (1, .ref x1), (2, .ref x2), (3, .int x3), (5, .int x5), (6, .int x6)] [] h [] (by decide +kernel) rfl trivial ?_
            refine rs hG [(1, .ref x1), (2, .ref x2), (3, .int x3), (4, .int x5), (5, .int x5)] [1, 2, 3, 0, 4] rfl ?_
            exact j95 x5 x5 hO
      have l32 : ∀ (x4 : Int32) (x5 : Int32) (x6 : Int32) (x7 : Int32), Okk (P_leastForgotten_l32 x1 x2 x3 x4 x5 x6 x7 h) (Sum.elim H21 P) → G 32 [(1, .ref x1), (2, .ref x2), (3, .int x3), (4, .int x4), (5, .int x5), (6, .int x6), (7, .int x7)] [] h := by
        intro x4 x5 x6 x7 hO
        obtain ⟨H32, eH32⟩ : ∃ q : (Int32 × Int32) → Prop, q = fun s => G 32 [(1, .ref x1), (2, .ref x2), (3, .int x3), (4, .int x4), (5, .int x5), (6, .int (s.1)), (7, .int (s.2))] [] (h) := ⟨_, rfl⟩
        have w9 : H32 (x6, x7) := by
          refine lp_wp (f := fun s : (Int32 × Int32) => P_leastForgotten_b32 x1 x2 x3 x4 x5 s.1 s.2 h) (H := H32) (Q := (Sum.elim H21 P)) ?_ (x6, x7) hO
          rintro ⟨x6, x7⟩ hO
          rw [eH32]
          show G 32 [(1, .ref x1), (2, .ref x2), (3, .int x3), (4, .int x4), (5, .int x5), (6, .int x6), (7, .int x7)] [] h
          have k32 : ∀ s : (Int32 × Int32), H32 s → G 32 [(1, .ref x1), (2, .ref x2), (3, .int x3), (4, .int x4), (5, .int x5), (6, .int (s.1)), (7, .int (s.2))] [] (h) := fun s q => by rw [eH32] at q; exact q
          replace hO : Okk (P_leastForgotten_b32 x1 x2 x3 x4 x5 x6 x7 h) (Sum.elim H32 (Sum.elim H21 P)) := hO
          clear eH32
          have j60 : ∀ (x7 : Int32) (s0 : Int32) (s1 : Int32), Okk (P_leastForgotten_j60 x1 x2 x3 x4 x5 x7 s0 s1 h) (Sum.elim H32 (Sum.elim H21 P)) → G 60 [(1, .ref x1), (2, .ref x2), (3, .int x3), (4, .int x4), (5, .int x5), (7, .int x7)] [.int s1, .int s0] h := by
            intro x7 s0 s1 hO
            unfold P_leastForgotten_j60 at hO
            refine rbx hG 5 60 63 [.ior, .istore 6] [] [] ((s0 ||| s1)) (fun y8 => [(6, .int y8), (1, .ref x1), (2, .ref x2), (3, .int x3), (4, .int x4), (5, .int x5), (7, .int x7)]) (fun y8 => []) (fun y8 => h) [] (by decide +kernel) rfl trivial hO (fun y8 hO => ?_)
            refine rbx hG 4 63 66 [.iinc 7 0] [1] [] ((x7 + (1 : Int32))) (fun y9 => [(7, .int y9), (6, .int y8), (1, .ref x1), (2, .ref x2), (3, .int x3), (4, .int x4), (5, .int x5)]) (fun y9 => []) (fun y9 => h) [] (by decide +kernel) rfl trivial hO (fun y9 hO => ?_)
            refine rb hG 4 66 32 [] [] [] [(7, .int y9), (6, .int y8), (1, .ref x1), (2, .ref x2), (3, .int x3), (4, .int x4), (5, .int x5)] [] h [] (by decide +kernel) rfl trivial ?_
            refine rs hG [(1, .ref x1), (2, .ref x2), (3, .int x3), (4, .int x4), (5, .int x5), (6, .int y8), (7, .int y9)] [2, 3, 4, 5, 6, 1, 0] rfl ?_
            exact k32 (y8, y9) (ok_some (Q := (Sum.elim H32 (Sum.elim H21 P))) hO)
          unfold P_leastForgotten_b32 at hO
          refine rb hG 5 32 35 [.iload 7, .iload 3] [] [] [(1, .ref x1), (2, .ref x2), (3, .int x3), (4, .int x4), (5, .int x5), (6, .int x6), (7, .int x7)] [.int x3, .int x7] h [] (by decide +kernel) rfl trivial ?_
          refine rj hG .ge (34) 69 35 (by decide +kernel) (by decide) (fun c10 => ?_) (fun c10 => ?_)
          · have hO := ok_pos c10 hO
            refine rs hG [(1, .ref x1), (2, .ref x2), (3, .int x3), (4, .int x4), (5, .int x5), (6, .int x6)] [0, 1, 2, 3, 4, 5] rfl ?_
            exact j69 x4 x5 x6 (ok_inr hO)
          · have hO := ok_neg c10 hO
            refine rb hG 6 38 44 [.iload 6, .iload 5, .iload 7] [] [] [(1, .ref x1), (2, .ref x2), (3, .int x3), (4, .int x4), (5, .int x5), (6, .int x6), (7, .int x7)] [.int x7, .int x5, .int x6] h [] (by decide +kernel) rfl trivial ?_
            refine rt hG z_K_isIn 37 2 44 [.int x5, .int x7] [.int x6] (by decide +kernel) mk_K_isIn lk_3_37 rfl ⟨rfl, Nat.le_of_ble_eq_true rfl⟩ (c_K_isIn (d := d + 3) h x5 x7 (ok_bind hO)) ?_
            rintro _ _ ⟨r11, rfl, rfl, hO⟩
            refine ri hG .eq (7) 54 47 (by decide +kernel) (by decide) (fun c12 => ?_) (fun c12 => ?_)
            · have hO := ok_pos c12 hO
              obtain ⟨g13, hO⟩ := ok_if hO
              refine rb hG 5 54 57 [.aload 2, .iload 7] [] [] [(1, .ref x1), (2, .ref x2), (3, .int x3), (4, .int x4), (5, .int x5), (6, .int x6), (7, .int x7)] [.int x7, .ref x2, .int x6] h [] (by decide +kernel) rfl trivial ?_
              refine rv hG z_B_guestsOf 21 1 57 x2 [.int x7] [.int x6] (by decide +kernel) mk_B_guestsOf lk_3_21 (rcv_B g13) rfl ⟨rfl, Nat.le_of_ble_eq_true rfl⟩ (c_B_guestsOf (d := d + 3) h x2 x7 (ok_bind hO)) ?_
              rintro _ _ ⟨r14, rfl, rfl, hO⟩
              refine rs hG [(1, .ref x1), (2, .ref x2), (3, .int x3), (4, .int x4), (5, .int x5), (7, .int x7)] [0, 1, 2, 3, 4, 6] rfl ?_
              exact j60 x7 x6 r14 hO
            · have hO := ok_neg c12 hO
              refine rb hG 5 50 60 [.ldc_w 0] [0] [] [(1, .ref x1), (2, .ref x2), (3, .int x3), (4, .int x4), (5, .int x5), (6, .int x6), (7, .int x7)] [.int (0 : Int32), .int x6] h [] (by decide +kernel) rfl trivial ?_
              refine rs hG [(1, .ref x1), (2, .ref x2), (3, .int x3), (4, .int x4), (5, .int x5), (7, .int x7)] [0, 1, 2, 3, 4, 6] rfl ?_
              exact j60 x7 x6 (0 : Int32) hO
        rw [eH32] at w9
        exact w9
      unfold P_leastForgotten_b21 at hO
      refine rb hG 4 21 23 [.iload 5] [] [] [(1, .ref x1), (2, .ref x2), (3, .int x3), (4, .int x4), (5, .int x5)] [.int x5] h [] (by decide +kernel) rfl trivial ?_
      refine ri hG .lt (78) 101 23 (by decide +kernel) (by decide) (fun c15 => ?_) (fun c15 => ?_)
      · have hO := ok_pos c15 hO
        refine rs hG [(4, .int x4)] [3] rfl ?_
        exact j101 x4 (ok_inr hO)
      · have hO := ok_neg c15 hO
        refine rb hG 7 26 32 [.ldc_w 0, .istore 6, .ldc_w 0, .istore 7] [0] [] [(7, .int (0 : Int32)), (6, .int (0 : Int32)), (1, .ref x1), (2, .ref x2), (3, .int x3), (4, .int x4), (5, .int x5)] [] h [] (by decide +kernel) rfl trivial ?_
        refine rs hG [(1, .ref x1), (2, .ref x2), (3, .int x3), (4, .int x4), (5, .int x5), (6, .int (0 : Int32)), (7, .int (0 : Int32))] [2, 3, 4, 5, 6, 1, 0] rfl ?_
        exact l32 x4 x5 (0 : Int32) (0 : Int32) hO
    rw [eH21] at w9
    exact w9
  obtain ⟨g16, hO⟩ := ok_if hO
  refine rbx hG 8 0 10 [.aload 2, .getfield 3, .ldc_w 0, .invokestatic 2, .istore 3] [6] [] ((mn (h.1 x2 3) (6 : Int32))) (fun y17 => [(3, .int y17), (0, .ref 123), (1, .ref x1), (2, .ref x2)]) (fun y17 => []) (fun y17 => h) [kd x2 = 0, sm [] ≤ 8] (by decide +kernel) rfl ⟨g16, Nat.le_of_ble_eq_true rfl⟩ hO (fun y17 hO => ?_)
  refine rbx hG 9 10 17 [.ldc_w 0, .iload 3, .ishl, .ldc_w 0, .isub, .istore 4] [1] [] (((sh (1 : Int32) y17) - (1 : Int32))) (fun y18 => [(4, .int y18), (3, .int y17), (0, .ref 123), (1, .ref x1), (2, .ref x2)]) (fun y18 => []) (fun y18 => h) [] (by decide +kernel) rfl trivial hO (fun y18 hO => ?_)
  refine rb hG 5 17 21 [.iload 4, .istore 5] [] [] [(5, .int y18), (4, .int y18), (3, .int y17), (0, .ref 123), (1, .ref x1), (2, .ref x2)] [] h [] (by decide +kernel) rfl trivial ?_
  refine rs hG [(1, .ref x1), (2, .ref x2), (3, .int y17), (4, .int y18), (5, .int y18)] [4, 5, 2, 1, 0] rfl ?_
  exact l21 y17 y18 y18 hO
/-! GrainInn.cuts(IIIII)I -/
noncomputable def K_cuts_j25 (x5 : Int32) (x6 : Nat) (s0 : Nat) (h : Hp) : Option (Int32 × Hp) := if s0 = 0 then (some ((-1 : Int32), h)) else (if x5 = (0 : Int32) then (if x6 = 57 then ((P_fewestCuts h (Int32.toNatClampNeg (h.1 57 6)) s0).bind fun r4 => some (r4, h)) else none) else (if x5 = (1 : Int32) then (if x6 = 57 then ((P_leastForgotten h (Int32.toNatClampNeg (h.1 57 6)) s0).bind fun r7 => (J_bitCount r7).bind fun r8 => some (r8, h)) else none) else (if x5 = (2 : Int32) then (if x6 = 57 then ((P_leastForgotten h (Int32.toNatClampNeg (h.1 57 6)) s0).bind fun r11 => some (r11, h)) else none) else (some ((-1 : Int32), h)))))
noncomputable def K_cuts (h : Hp) (x1 : Int32) (x2 : Int32) (x3 : Int32) (x4 : Int32) (x5 : Int32) : Option (Int32 × Hp) := (K_reach h x1 x2 x3).bind fun (r12, h13) => if r12 = 0 then ((K_cuts_j25 x5 r12 0 h13)) else (if r12 = 57 then ((S_benchAt h13 x4).bind fun r16 => (K_cuts_j25 x5 57 r16 h13)) else none)
set_option maxRecDepth 100000 in
set_option maxHeartbeats 4000000 in
theorem c_K_cuts {E : En} {d : Nat} (h : Hp) (x1 : Int32) (x2 : Int32) (x3 : Int32) (x4 : Int32) (x5 : Int32) {P : (Int32 × Hp) → Prop} (hO : Okk (K_cuts h x1 x2 x3 x4 x5) P) : Cn E (d + 8) z_K_cuts [.ref 1, .int x1, .int x2, .int x3, .int x4, .int x5] h (RI P) := by
  refine cn_of (on := 11) (d := d + 7) ⟨rfl, by decide +kernel, Nat.le_of_ble_eq_true rfl⟩ (fun G hG => ?_)
  unfold K_cuts at hO
  show G 0 [(0, .ref 1), (1, .int x1), (2, .int x2), (3, .int x3), (4, .int x4), (5, .int x5)] [] h
  have j25 : ∀ (x6 : Nat) (s0 : Nat) (h : Hp), Okk (K_cuts_j25 x5 x6 s0 h) P → G 25 [(0, .ref 1), (5, .int x5), (6, .ref x6)] [.ref s0] h := by
    intro x6 s0 h hO
    unfold K_cuts_j25 at hO
    refine rb hG 5 25 29 [.astore 7, .aload 7] [] [] [(7, .ref s0), (0, .ref 1), (5, .int x5), (6, .ref x6)] [.ref s0] h [] (by decide +kernel) rfl trivial ?_
    refine rnn hG (5) 34 29 (by decide +kernel) (by decide) (fun c1 => ?_) (fun c1 => ?_)
    · have hO := ok_pos c1 hO
      refine rb hG 4 32 33 [.ldc_w 0] [-1] [] [(7, .ref s0), (0, .ref 1), (5, .int x5), (6, .ref x6)] [.int (-1 : Int32)] h [] (by decide +kernel) rfl trivial ?_
      exact eI hG 33 (by decide +kernel) rfl ⟨(-1 : Int32), rfl, ok_some (Q := P) hO⟩
    · have hO := ok_neg c1 hO
      refine rb hG 4 34 36 [.iload 5] [] [] [(7, .ref s0), (0, .ref 1), (5, .int x5), (6, .ref x6)] [.int x5] h [] (by decide +kernel) rfl trivial ?_
      refine rw9 hG (76) (0) (2) #[(28), (43), (61)] 28 36 [64, 79, 97] 112 (by decide +kernel) (by decide +kernel) ?_
      refine sw_c (0 : Int32) (by decide) (fun c2 => ?_) (fun c2 => ?_)
      · have hO := ok_pos c2 hO
        obtain ⟨g3, hOg3⟩ := ok_if hO
        subst g3
        have hO := hOg3
        refine rb hG 8 64 75 [.aload 0, .invokeinterface 1108 122, .aload 6, .instanceof 706, .aload 7] [] [] [(7, .ref s0), (0, .ref 1), (5, .int x5), (6, .ref 57)] [.ref s0, .ref (Int32.toNatClampNeg (h.1 57 6)), .ref 123] h [kd 1 = 11, kd 57 = 7] (by decide +kernel) rfl ⟨kd_1, kd_57⟩ ?_
        refine rv hG z_P_fewestCuts 261 2 75 123 [.ref (Int32.toNatClampNeg (h.1 57 6)), .ref s0] [] (by decide +kernel) mk_P_fewestCuts lk_11_261 rcv_123 rfl ⟨rfl, Nat.le_of_ble_eq_true rfl⟩ (c_P_fewestCuts (d := d + 2) h (Int32.toNatClampNeg (h.1 57 6)) s0 (ok_bind hO)) ?_
        rintro _ _ ⟨r4, rfl, rfl, hO⟩
        exact eI hG 78 (by decide +kernel) rfl ⟨r4, rfl, ok_some (Q := P) hO⟩
      have hO := ok_neg c2 hO
      refine sw_c (1 : Int32) (by decide) (fun c5 => ?_) (fun c5 => ?_)
      · have hO := ok_pos c5 hO
        obtain ⟨g6, hOg6⟩ := ok_if hO
        subst g6
        have hO := hOg6
        refine rb hG 8 79 90 [.aload 0, .invokeinterface 1108 122, .aload 6, .instanceof 706, .aload 7] [] [] [(7, .ref s0), (0, .ref 1), (5, .int x5), (6, .ref 57)] [.ref s0, .ref (Int32.toNatClampNeg (h.1 57 6)), .ref 123] h [kd 1 = 11, kd 57 = 7] (by decide +kernel) rfl ⟨kd_1, kd_57⟩ ?_
        refine rv hG z_P_leastForgotten 265 2 90 123 [.ref (Int32.toNatClampNeg (h.1 57 6)), .ref s0] [] (by decide +kernel) mk_P_leastForgotten lk_11_265 rcv_123 rfl ⟨rfl, Nat.le_of_ble_eq_true rfl⟩ (c_P_leastForgotten (d := d + 2) h (Int32.toNatClampNeg (h.1 57 6)) s0 (ok_bind hO)) ?_
        rintro _ _ ⟨r7, rfl, rfl, hO⟩
        refine rt hG z_J_bitCount 268 1 93 [.int r7] [] (by decide +kernel) mk_J_bitCount lk_11_268 rfl ⟨rfl, Nat.le_of_ble_eq_true rfl⟩ (c_J_bitCount (d := d + 6) h r7 (ok_bind hO)) ?_
        rintro _ _ ⟨r8, rfl, rfl, hO⟩
        exact eI hG 96 (by decide +kernel) rfl ⟨r8, rfl, ok_some (Q := P) hO⟩
      have hO := ok_neg c5 hO
      refine sw_c (2 : Int32) (by decide) (fun c9 => ?_) (fun c9 => ?_)
      · have hO := ok_pos c9 hO
        obtain ⟨g10, hOg10⟩ := ok_if hO
        subst g10
        have hO := hOg10
        refine rb hG 8 97 108 [.aload 0, .invokeinterface 1108 122, .aload 6, .instanceof 706, .aload 7] [] [] [(7, .ref s0), (0, .ref 1), (5, .int x5), (6, .ref 57)] [.ref s0, .ref (Int32.toNatClampNeg (h.1 57 6)), .ref 123] h [kd 1 = 11, kd 57 = 7] (by decide +kernel) rfl ⟨kd_1, kd_57⟩ ?_
        refine rv hG z_P_leastForgotten 265 2 108 123 [.ref (Int32.toNatClampNeg (h.1 57 6)), .ref s0] [] (by decide +kernel) mk_P_leastForgotten lk_11_265 rcv_123 rfl ⟨rfl, Nat.le_of_ble_eq_true rfl⟩ (c_P_leastForgotten (d := d + 2) h (Int32.toNatClampNeg (h.1 57 6)) s0 (ok_bind hO)) ?_
        rintro _ _ ⟨r11, rfl, rfl, hO⟩
        exact eI hG 111 (by decide +kernel) rfl ⟨r11, rfl, ok_some (Q := P) hO⟩
      have hO := ok_neg c9 hO
      show G 112 _ _ _
      refine rb hG 4 112 113 [.ldc_w 0] [-1] [] [(7, .ref s0), (0, .ref 1), (5, .int x5), (6, .ref x6)] [.int (-1 : Int32)] h [] (by decide +kernel) rfl trivial ?_
      exact eI hG 113 (by decide +kernel) rfl ⟨(-1 : Int32), rfl, ok_some (Q := P) hO⟩
  refine rb hG 7 0 4 [.aload 0, .iload 1, .iload 2, .iload 3] [] [] [(0, .ref 1), (1, .int x1), (2, .int x2), (3, .int x3), (4, .int x4), (5, .int x5)] [.int x3, .int x2, .int x1, .ref 1] h [] (by decide +kernel) rfl trivial ?_
  refine rv hG z_K_reach 155 3 4 1 [.int x1, .int x2, .int x3] [] (by decide +kernel) mk_K_reach lk_11_155 rcv_1 rfl ⟨rfl, Nat.le_of_ble_eq_true rfl⟩ (c_K_reach (d := d) h x1 x2 x3 (ok_bind hO)) ?_
  rintro _ h13 ⟨r12, rfl, hO⟩
  refine rb hG 5 7 11 [.astore 6, .aload 6] [] [] [(6, .ref r12), (0, .ref 1), (1, .int x1), (2, .int x2), (3, .int x3), (4, .int x4), (5, .int x5)] [.ref r12] h13 [] (by decide +kernel) rfl trivial ?_
  refine rnn hG (7) 18 11 (by decide +kernel) (by decide) (fun c14 => ?_) (fun c14 => ?_)
  · have hO := ok_pos c14 hO
    refine rb hG 5 14 25 [.aconst_null] [] [] [(6, .ref r12), (0, .ref 1), (1, .int x1), (2, .int x2), (3, .int x3), (4, .int x4), (5, .int x5)] [.ref 0] h13 [] (by decide +kernel) rfl trivial ?_
    refine rs hG [(0, .ref 1), (5, .int x5), (6, .ref r12)] [1, 6, 0] rfl ?_
    exact j25 r12 0 h13 hO
  · have hO := ok_neg c14 hO
    obtain ⟨g15, hOg15⟩ := ok_if hO
    subst g15
    have hO := hOg15
    refine rb hG 5 18 22 [.aload 6, .iload 4] [] [] [(6, .ref 57), (0, .ref 1), (1, .int x1), (2, .int x2), (3, .int x3), (4, .int x4), (5, .int x5)] [.int x4, .ref 57] h13 [] (by decide +kernel) rfl trivial ?_
    refine rv hG z_S_benchAt 213 1 22 57 [.int x4] [] (by decide +kernel) mk_S_benchAt lk_11_213 rcv_57 rfl ⟨rfl, Nat.le_of_ble_eq_true rfl⟩ (c_S_benchAt (d := d + 5) h13 x4 (ok_bind hO)) ?_
    rintro _ _ ⟨r16, rfl, rfl, hO⟩
    refine rs hG [(0, .ref 1), (5, .int x5), (6, .ref 57)] [1, 6, 0] rfl ?_
    exact j25 57 r16 h13 hO
/-! GrainInnModel.isQuiet(I)Z -/
noncomputable def M_isQuiet_j16 (s0 : Int32) (h : Hp) : Option Int32 := if s0 = 0 ∨ s0 = 1 then (some s0) else none
noncomputable def M_isQuiet (h : Hp) (x1 : Int32) : Option Int32 := (M_couples h x1 x1 (17 : Int32)).bind fun r2 => if r2 = 0 then ((M_isQuiet_j16 (1 : Int32) h)) else ((M_isQuiet_j16 (0 : Int32) h))
set_option maxRecDepth 100000 in
set_option maxHeartbeats 4000000 in
theorem c_M_isQuiet {E : En} {d : Nat} (h : Hp) (x1 : Int32) {P : Int32 → Prop} (hO : Okk (M_isQuiet h x1) P) : Cn E (d + 3) z_M_isQuiet [.ref 251, .int x1] h (RIp h P) := by
  refine cn_of (on := 12) (d := d + 2) ⟨rfl, by decide +kernel, Nat.le_of_ble_eq_true rfl⟩ (fun G hG => ?_)
  unfold M_isQuiet at hO
  show G 0 [(0, .ref 251), (1, .int x1)] [] h
  have j16 : ∀ (s0 : Int32), Okk (M_isQuiet_j16 s0 h) P → G 16 [] [.int s0] h := by
    intro s0 hO
    unfold M_isQuiet_j16 at hO
    obtain ⟨g1, hO⟩ := ok_if hO
    exact eZ hG 16 (by decide +kernel) rfl g1 ⟨s0, rfl, rfl, ok_some (Q := P) hO⟩
  refine rb hG 7 0 5 [.aload 0, .iload 1, .iload 1, .ldc_w 0] [17] [] [(0, .ref 251), (1, .int x1)] [.int (17 : Int32), .int x1, .int x1, .ref 251] h [] (by decide +kernel) rfl trivial ?_
  refine rv hG z_M_couples 313 3 5 251 [.int x1, .int x1, .int (17 : Int32)] [] (by decide +kernel) mk_M_couples lk_12_313 rcv_251 rfl ⟨rfl, Nat.le_of_ble_eq_true rfl⟩ (c_M_couples (d := d) h x1 x1 (17 : Int32) (ok_bind hO)) ?_
  rintro _ _ ⟨r2, rfl, rfl, hO⟩
  refine riN hG (7) 15 8 (by decide +kernel) (by decide) (fun c3 => ?_) (fun c3 => ?_)
  · have hO := ok_pos c3 hO
    refine rb hG 5 11 16 [.ldc_w 0] [1] [] [(0, .ref 251), (1, .int x1)] [.int (1 : Int32)] h [] (by decide +kernel) rfl trivial ?_
    refine rs hG [] [] rfl ?_
    exact j16 (1 : Int32) hO
  · have hO := ok_neg c3 hO
    refine rb hG 4 15 16 [.ldc_w 0] [0] [] [(0, .ref 251), (1, .int x1)] [.int (0 : Int32)] h [] (by decide +kernel) rfl trivial ?_
    refine rs hG [] [] rfl ?_
    exact j16 (0 : Int32) hO
/-! GrainInnModel.cutsOf(I)I -/
noncomputable def M_cutsOf_j87 (x2 : Int32) (h : Hp) : Option Int32 := some x2
noncomputable def M_cutsOf_j80 (x1 : Int32) (x2 : Int32) (x4 : Int32) (s0 : Int32) (h : Hp) : Option ((Int32 × Int32 × Int32) ⊕ Int32) := bnd ((x4 + (1 : Int32))) fun y1 => some (.inl (x2, s0, y1))
noncomputable def M_cutsOf_j64 (x1 : Int32) (x3 : Int32) (x4 : Int32) (x5 : Int32) (x6 : Int32) (s0 : Int32) (s1 : Int32) (h : Hp) : Option ((Int32 × Int32 × Int32) ⊕ Int32) := bnd ((s0 + s1)) fun y2 => if x6 = 0 then ((M_cutsOf_j80 x1 y2 x4 x5 h)) else ((M_cutsOf_j80 x1 y2 x4 (x3 ||| x5) h))
noncomputable def M_cutsOf_j41 (h : Hp) : Option Int32 := some (-1 : Int32)
noncomputable def M_cutsOf_b7 (x1 : Int32) (x2 : Int32) (x3 : Int32) (x4 : Int32) (h : Hp) : Option ((Int32 × Int32 × Int32) ⊕ Int32) := if inb x1 (ln 266) then (if (h.1 266 (Int32.toNatClampNeg x1)) ≤ x4 then (((M_cutsOf_j87 x2 h).map Sum.inr)) else (if inb (((16 : Int32) * x1) + x4) (ln 263) then (bnd ((h.1 263 (Int32.toNatClampNeg (((16 : Int32) * x1) + x4)))) fun y7 => (M_isQuiet h y7).bind fun r8 => if r8 = 0 then (((M_cutsOf_j41 h).map Sum.inr)) else ((M_isQuiet h (x3 ||| y7)).bind fun r10 => if r10 = 0 then ((M_cutsOf_j64 x1 x3 x4 y7 r10 x2 (1 : Int32) h)) else ((M_cutsOf_j64 x1 x3 x4 y7 r10 x2 (0 : Int32) h)))) else none)) else none
noncomputable def M_cutsOf_l7 (x1 : Int32) (x2 : Int32) (x3 : Int32) (x4 : Int32) (h : Hp) : Option Int32 := lp (fun s : (Int32 × Int32 × Int32) => M_cutsOf_b7 x1 s.1 s.2.1 s.2.2 h) (x2, x3, x4)
theorem M_cutsOf_l7_eq (x1 : Int32) (x2 : Int32) (x3 : Int32) (x4 : Int32) (h : Hp) : M_cutsOf_l7 x1 x2 x3 x4 h = (M_cutsOf_b7 x1 x2 x3 x4 h).bind (Sum.elim (fun q : (Int32 × Int32 × Int32) => M_cutsOf_l7 x1 q.1 q.2.1 q.2.2 h) some) := lp_eq _ _
noncomputable def M_cutsOf (h : Hp) (x1 : Int32) : Option Int32 := (M_cutsOf_l7 x1 (0 : Int32) (0 : Int32) (0 : Int32) h)
set_option maxRecDepth 100000 in
set_option maxHeartbeats 4000000 in
theorem c_M_cutsOf {E : En} {d : Nat} (h : Hp) (x1 : Int32) {P : Int32 → Prop} (hO : Okk (M_cutsOf h x1) P) : Cn E (d + 4) z_M_cutsOf [.ref 251, .int x1] h (RIp h P) := by
  refine cn_of (on := 12) (d := d + 3) ⟨rfl, by decide +kernel, Nat.le_of_ble_eq_true rfl⟩ (fun G hG => ?_)
  unfold M_cutsOf at hO
  show G 0 [(0, .ref 251), (1, .int x1)] [] h
  have j87 : ∀ (x2 : Int32), Okk (M_cutsOf_j87 x2 h) P → G 87 [(2, .int x2)] [] h := by
    intro x2 hO
    unfold M_cutsOf_j87 at hO
    refine rb hG 4 87 88 [.iload 2] [] [] [(2, .int x2)] [.int x2] h [] (by decide +kernel) rfl trivial ?_
    exact eI hG 88 (by decide +kernel) rfl ⟨x2, rfl, rfl, ok_some (Q := P) hO⟩
  have j41 : Okk (M_cutsOf_j41 h) P → G 41 [] [] h := by
    intro hO
    unfold M_cutsOf_j41 at hO
    refine rb hG 4 41 42 [.ldc_w 0] [-1] [] [] [.int (-1 : Int32)] h [] (by decide +kernel) rfl trivial ?_
    exact eI hG 42 (by decide +kernel) rfl ⟨(-1 : Int32), rfl, rfl, ok_some (Q := P) hO⟩
  have l7 : ∀ (x2 : Int32) (x3 : Int32) (x4 : Int32), Okk (M_cutsOf_l7 x1 x2 x3 x4 h) P → G 7 [(0, .ref 251), (1, .int x1), (2, .int x2), (3, .int x3), (4, .int x4)] [] h := by
    intro x2 x3 x4 hO
    obtain ⟨H7, eH7⟩ : ∃ q : (Int32 × Int32 × Int32) → Prop, q = fun s => G 7 [(0, .ref 251), (1, .int x1), (2, .int (s.1)), (3, .int (s.2.1)), (4, .int (s.2.2))] [] (h) := ⟨_, rfl⟩
    have w9 : H7 (x2, x3, x4) := by
      refine lp_wp (f := fun s : (Int32 × Int32 × Int32) => M_cutsOf_b7 x1 s.1 s.2.1 s.2.2 h) (H := H7) (Q := P) ?_ (x2, x3, x4) hO
      rintro ⟨x2, x3, x4⟩ hO
      rw [eH7]
      show G 7 [(0, .ref 251), (1, .int x1), (2, .int x2), (3, .int x3), (4, .int x4)] [] h
      have k7 : ∀ s : (Int32 × Int32 × Int32), H7 s → G 7 [(0, .ref 251), (1, .int x1), (2, .int (s.1)), (3, .int (s.2.1)), (4, .int (s.2.2))] [] (h) := fun s q => by rw [eH7] at q; exact q
      replace hO : Okk (M_cutsOf_b7 x1 x2 x3 x4 h) (Sum.elim H7 P) := hO
      clear eH7
      have j80 : ∀ (x2 : Int32) (x4 : Int32) (s0 : Int32), Okk (M_cutsOf_j80 x1 x2 x4 s0 h) (Sum.elim H7 P) → G 80 [(0, .ref 251), (1, .int x1), (2, .int x2), (4, .int x4)] [.int s0] h := by
        intro x2 x4 s0 hO
        unfold M_cutsOf_j80 at hO
        refine rbx hG 5 80 84 [.istore 3, .iinc 4 0] [1] [] ((x4 + (1 : Int32))) (fun y1 => [(4, .int y1), (3, .int s0), (0, .ref 251), (1, .int x1), (2, .int x2)]) (fun y1 => []) (fun y1 => h) [] (by decide +kernel) rfl trivial hO (fun y1 hO => ?_)
        refine rb hG 4 84 7 [] [] [] [(4, .int y1), (3, .int s0), (0, .ref 251), (1, .int x1), (2, .int x2)] [] h [] (by decide +kernel) rfl trivial ?_
        refine rs hG [(0, .ref 251), (1, .int x1), (2, .int x2), (3, .int s0), (4, .int y1)] [2, 3, 4, 1, 0] rfl ?_
        exact k7 (x2, s0, y1) (ok_some (Q := (Sum.elim H7 P)) hO)
      have j64 : ∀ (x3 : Int32) (x4 : Int32) (x5 : Int32) (x6 : Int32) (s0 : Int32) (s1 : Int32), Okk (M_cutsOf_j64 x1 x3 x4 x5 x6 s0 s1 h) (Sum.elim H7 P) → G 64 [(0, .ref 251), (1, .int x1), (3, .int x3), (4, .int x4), (5, .int x5), (6, .int x6)] [.int s1, .int s0] h := by
        intro x3 x4 x5 x6 s0 s1 hO
        unfold M_cutsOf_j64 at hO
        refine rbx hG 5 64 66 [.iadd, .istore 2] [] [] ((s0 + s1)) (fun y2 => [(2, .int y2), (0, .ref 251), (1, .int x1), (3, .int x3), (4, .int x4), (5, .int x5), (6, .int x6)]) (fun y2 => []) (fun y2 => h) [] (by decide +kernel) rfl trivial hO (fun y2 hO => ?_)
        refine rb hG 4 66 68 [.iload 6] [] [] [(2, .int y2), (0, .ref 251), (1, .int x1), (3, .int x3), (4, .int x4), (5, .int x5), (6, .int x6)] [.int x6] h [] (by decide +kernel) rfl trivial ?_
        refine ri hG .eq (10) 78 68 (by decide +kernel) (by decide) (fun c3 => ?_) (fun c3 => ?_)
        · have hO := ok_pos c3 hO
          refine rb hG 4 78 80 [.iload 5] [] [] [(2, .int y2), (0, .ref 251), (1, .int x1), (3, .int x3), (4, .int x4), (5, .int x5), (6, .int x6)] [.int x5] h [] (by decide +kernel) rfl trivial ?_
          refine rs hG [(0, .ref 251), (1, .int x1), (2, .int y2), (4, .int x4)] [1, 2, 0, 4] rfl ?_
          exact j80 y2 x4 x5 hO
        · have hO := ok_neg c3 hO
          refine rb hG 7 71 80 [.iload 3, .iload 5, .ior] [] [] [(2, .int y2), (0, .ref 251), (1, .int x1), (3, .int x3), (4, .int x4), (5, .int x5), (6, .int x6)] [.int (x3 ||| x5)] h [] (by decide +kernel) rfl trivial ?_
          refine rs hG [(0, .ref 251), (1, .int x1), (2, .int y2), (4, .int x4)] [1, 2, 0, 4] rfl ?_
          exact j80 y2 x4 (x3 ||| x5) hO
      unfold M_cutsOf_b7 at hO
      obtain ⟨g4, hO⟩ := ok_if hO
      refine rb hG 8 7 15 [.iload 4, .aload 0, .invokeinterface 1230 15, .iload 1, .iaload] [] [] [(0, .ref 251), (1, .int x1), (2, .int x2), (3, .int x3), (4, .int x4)] [.int (h.1 266 (Int32.toNatClampNeg x1)), .int x4] h [kd 251 = 12, kd 266 = 20 ∧ inb x1 (ln 266)] (by decide +kernel) rfl ⟨kd_251, ⟨kd_266, g4⟩⟩ ?_
      refine rj hG .ge (72) 87 15 (by decide +kernel) (by decide) (fun c5 => ?_) (fun c5 => ?_)
      · have hO := ok_pos c5 hO
        refine rs hG [(2, .int x2)] [2] rfl ?_
        exact j87 x2 (ok_inr hO)
      · have hO := ok_neg c5 hO
        obtain ⟨g6, hO⟩ := ok_if hO
        refine rbx hG 12 18 32 [.aload 0, .invokeinterface 1227 12, .ldc_w 0, .iload 1, .imul, .iload 4, .iadd, .iaload, .istore 5] [16] [] ((h.1 263 (Int32.toNatClampNeg (((16 : Int32) * x1) + x4)))) (fun y7 => [(5, .int y7), (0, .ref 251), (1, .int x1), (2, .int x2), (3, .int x3), (4, .int x4)]) (fun y7 => []) (fun y7 => h) [kd 251 = 12, kd 263 = 20 ∧ inb (((16 : Int32) * x1) + x4) (ln 263)] (by decide +kernel) rfl ⟨kd_251, ⟨kd_263, g6⟩⟩ hO (fun y7 hO => ?_)
        refine rb hG 5 32 35 [.aload 0, .iload 5] [] [] [(5, .int y7), (0, .ref 251), (1, .int x1), (2, .int x2), (3, .int x3), (4, .int x4)] [.int y7, .ref 251] h [] (by decide +kernel) rfl trivial ?_
        refine rv hG z_M_isQuiet 445 1 35 251 [.int y7] [] (by decide +kernel) mk_M_isQuiet lk_12_445 rcv_251 rfl ⟨rfl, Nat.le_of_ble_eq_true rfl⟩ (c_M_isQuiet (d := d) h y7 (ok_bind hO)) ?_
        rintro _ _ ⟨r8, rfl, rfl, hO⟩
        refine riN hG (5) 43 38 (by decide +kernel) (by decide) (fun c9 => ?_) (fun c9 => ?_)
        · have hO := ok_pos c9 hO
          refine rs hG [] [] rfl ?_
          exact j41 (ok_inr hO)
        · have hO := ok_neg c9 hO
          refine rb hG 7 43 48 [.aload 0, .iload 3, .iload 5, .ior] [] [] [(5, .int y7), (0, .ref 251), (1, .int x1), (2, .int x2), (3, .int x3), (4, .int x4)] [.int (x3 ||| y7), .ref 251] h [] (by decide +kernel) rfl trivial ?_
          refine rv hG z_M_isQuiet 445 1 48 251 [.int (x3 ||| y7)] [] (by decide +kernel) mk_M_isQuiet lk_12_445 rcv_251 rfl ⟨rfl, Nat.le_of_ble_eq_true rfl⟩ (c_M_isQuiet (d := d) h (x3 ||| y7) (ok_bind hO)) ?_
          rintro _ _ ⟨r10, rfl, rfl, hO⟩
          refine rb hG 6 51 56 [.istore 6, .iload 2, .iload 6] [] [] [(6, .int r10), (5, .int y7), (0, .ref 251), (1, .int x1), (2, .int x2), (3, .int x3), (4, .int x4)] [.int r10, .int x2] h [] (by decide +kernel) rfl trivial ?_
          refine ri hG .eq (7) 63 56 (by decide +kernel) (by decide) (fun c11 => ?_) (fun c11 => ?_)
          · have hO := ok_pos c11 hO
            refine rb hG 4 63 64 [.ldc_w 0] [1] [] [(6, .int r10), (5, .int y7), (0, .ref 251), (1, .int x1), (2, .int x2), (3, .int x3), (4, .int x4)] [.int (1 : Int32), .int x2] h [] (by decide +kernel) rfl trivial ?_
            refine rs hG [(0, .ref 251), (1, .int x1), (3, .int x3), (4, .int x4), (5, .int y7), (6, .int r10)] [2, 3, 5, 6, 1, 0] rfl ?_
            exact j64 x3 x4 y7 r10 x2 (1 : Int32) hO
          · have hO := ok_neg c11 hO
            refine rb hG 5 59 64 [.ldc_w 0] [0] [] [(6, .int r10), (5, .int y7), (0, .ref 251), (1, .int x1), (2, .int x2), (3, .int x3), (4, .int x4)] [.int (0 : Int32), .int x2] h [] (by decide +kernel) rfl trivial ?_
            refine rs hG [(0, .ref 251), (1, .int x1), (3, .int x3), (4, .int x4), (5, .int y7), (6, .int r10)] [2, 3, 5, 6, 1, 0] rfl ?_
            exact j64 x3 x4 y7 r10 x2 (0 : Int32) hO
    rw [eH7] at w9
    exact w9
  refine rb hG 9 0 7 [.ldc_w 0, .istore 2, .ldc_w 0, .istore 3, .ldc_w 0, .istore 4] [0] [] [(4, .int (0 : Int32)), (3, .int (0 : Int32)), (2, .int (0 : Int32)), (0, .ref 251), (1, .int x1)] [] h [] (by decide +kernel) rfl trivial ?_
  refine rs hG [(0, .ref 251), (1, .int x1), (2, .int (0 : Int32)), (3, .int (0 : Int32)), (4, .int (0 : Int32))] [3, 4, 2, 1, 0] rfl ?_
  exact l7 (0 : Int32) (0 : Int32) (0 : Int32) hO
/-! GrainInnModel.leastGone(I)I -/
noncomputable def M_leastGone_j106 (x2 : Int32) (h : Hp) : Option Int32 := some x2
noncomputable def M_leastGone_j99 (x1 : Int32) (x3 : Int32) (s0 : Int32) (h : Hp) : Option ((Int32 × Int32) ⊕ Int32) := bnd ((x3 + (1 : Int32))) fun y1 => some (.inl (s0, y1))
noncomputable def M_leastGone_j98 (x1 : Int32) (x2 : Int32) (x3 : Int32) (h : Hp) : Option ((Int32 × Int32) ⊕ Int32) := (M_leastGone_j99 x1 x3 x2 h)
noncomputable def M_leastGone_j94 (x1 : Int32) (x3 : Int32) (h : Hp) : Option ((Int32 × Int32) ⊕ Int32) := (M_leastGone_j99 x1 x3 x3 h)
noncomputable def M_leastGone_j69 (x1 : Int32) (x2 : Int32) (x3 : Int32) (x4 : Int32) (h : Hp) : Option ((Int32 × Int32) ⊕ Int32) := (M_isQuiet h x4).bind fun r2 => if r2 = 0 then ((M_leastGone_j98 x1 x2 x3 h)) else (if x2 = (-1 : Int32) then ((M_leastGone_j94 x1 x3 h)) else ((M_ones x3).bind fun r5 => (M_ones x2).bind fun r6 => if r6 ≤ r5 then ((M_leastGone_j98 x1 x2 x3 h)) else ((M_leastGone_j94 x1 x3 h))))
noncomputable def M_leastGone_j60 (x1 : Int32) (x2 : Int32) (x3 : Int32) (x5 : Int32) (s0 : Int32) (s1 : Int32) (h : Hp) : Option ((Int32 × Int32) ⊕ ((Int32 × Int32) ⊕ Int32)) := bnd ((s0 ||| s1)) fun y8 => bnd ((x5 + (1 : Int32))) fun y9 => some (.inl (y8, y9))
noncomputable def M_leastGone_b22 (x1 : Int32) (x2 : Int32) (x3 : Int32) (x4 : Int32) (x5 : Int32) (h : Hp) : Option ((Int32 × Int32) ⊕ ((Int32 × Int32) ⊕ Int32)) := if inb x1 (ln 266) then (if (h.1 266 (Int32.toNatClampNeg x1)) ≤ x5 then (((M_leastGone_j69 x1 x2 x3 x4 h).map Sum.inr)) else ((M_has x3 x5).bind fun r12 => if r12 = 0 then (if inb (((16 : Int32) * x1) + x5) (ln 263) then ((M_leastGone_j60 x1 x2 x3 x5 x4 (h.1 263 (Int32.toNatClampNeg (((16 : Int32) * x1) + x5))) h)) else none) else ((M_leastGone_j60 x1 x2 x3 x5 x4 (0 : Int32) h)))) else none
noncomputable def M_leastGone_l22 (x1 : Int32) (x2 : Int32) (x3 : Int32) (x4 : Int32) (x5 : Int32) (h : Hp) : Option ((Int32 × Int32) ⊕ Int32) := lp (fun s : (Int32 × Int32) => M_leastGone_b22 x1 x2 x3 s.1 s.2 h) (x4, x5)
theorem M_leastGone_l22_eq (x1 : Int32) (x2 : Int32) (x3 : Int32) (x4 : Int32) (x5 : Int32) (h : Hp) : M_leastGone_l22 x1 x2 x3 x4 x5 h = (M_leastGone_b22 x1 x2 x3 x4 x5 h).bind (Sum.elim (fun q : (Int32 × Int32) => M_leastGone_l22 x1 x2 x3 q.1 q.2 h) some) := lp_eq _ _
noncomputable def M_leastGone_b4 (x1 : Int32) (x2 : Int32) (x3 : Int32) (h : Hp) : Option ((Int32 × Int32) ⊕ Int32) := if inb x1 (ln 266) then (if (sh (1 : Int32) (h.1 266 (Int32.toNatClampNeg x1))) ≤ x3 then (((M_leastGone_j106 x2 h).map Sum.inr)) else ((M_leastGone_l22 x1 x2 x3 (0 : Int32) (0 : Int32) h))) else none
noncomputable def M_leastGone_l4 (x1 : Int32) (x2 : Int32) (x3 : Int32) (h : Hp) : Option Int32 := lp (fun s : (Int32 × Int32) => M_leastGone_b4 x1 s.1 s.2 h) (x2, x3)
theorem M_leastGone_l4_eq (x1 : Int32) (x2 : Int32) (x3 : Int32) (h : Hp) : M_leastGone_l4 x1 x2 x3 h = (M_leastGone_b4 x1 x2 x3 h).bind (Sum.elim (fun q : (Int32 × Int32) => M_leastGone_l4 x1 q.1 q.2 h) some) := lp_eq _ _
noncomputable def M_leastGone (h : Hp) (x1 : Int32) : Option Int32 := (M_leastGone_l4 x1 (-1 : Int32) (0 : Int32) h)
set_option maxRecDepth 100000 in
set_option maxHeartbeats 4000000 in
theorem c_M_leastGone {E : En} {d : Nat} (h : Hp) (x1 : Int32) {P : Int32 → Prop} (hO : Okk (M_leastGone h x1) P) : Cn E (d + 4) z_M_leastGone [.ref 251, .int x1] h (RIp h P) := by
  refine cn_of (on := 12) (d := d + 3) ⟨rfl, by decide +kernel, Nat.le_of_ble_eq_true rfl⟩ (fun G hG => ?_)
  unfold M_leastGone at hO
  show G 0 [(0, .ref 251), (1, .int x1)] [] h
  have j106 : ∀ (x2 : Int32), Okk (M_leastGone_j106 x2 h) P → G 106 [(2, .int x2)] [] h := by
    intro x2 hO
    unfold M_leastGone_j106 at hO
    refine rb hG 4 106 107 [.iload 2] [] [] [(2, .int x2)] [.int x2] h [] (by decide +kernel) rfl trivial ?_
    exact eI hG 107 (by decide +kernel) rfl ⟨x2, rfl, rfl, ok_some (Q := P) hO⟩
  have l4 : ∀ (x2 : Int32) (x3 : Int32), Okk (M_leastGone_l4 x1 x2 x3 h) P → G 4 [(0, .ref 251), (1, .int x1), (2, .int x2), (3, .int x3)] [] h := by
    intro x2 x3 hO
    obtain ⟨H4, eH4⟩ : ∃ q : (Int32 × Int32) → Prop, q = fun s => G 4 [(0, .ref 251), (1, .int x1), (2, .int (s.1)), (3, .int (s.2))] [] (h) := ⟨_, rfl⟩
    have w9 : H4 (x2, x3) := by
      refine lp_wp (f := fun s : (Int32 × Int32) => M_leastGone_b4 x1 s.1 s.2 h) (H := H4) (Q := P) ?_ (x2, x3) hO
      rintro ⟨x2, x3⟩ hO
      rw [eH4]
      show G 4 [(0, .ref 251), (1, .int x1), (2, .int x2), (3, .int x3)] [] h
      have k4 : ∀ s : (Int32 × Int32), H4 s → G 4 [(0, .ref 251), (1, .int x1), (2, .int (s.1)), (3, .int (s.2))] [] (h) := fun s q => by rw [eH4] at q; exact q
      replace hO : Okk (M_leastGone_b4 x1 x2 x3 h) (Sum.elim H4 P) := hO
      clear eH4
      have j99 : ∀ (x3 : Int32) (s0 : Int32), Okk (M_leastGone_j99 x1 x3 s0 h) (Sum.elim H4 P) → G 99 [(0, .ref 251), (1, .int x1), (3, .int x3)] [.int s0] h := by
        intro x3 s0 hO
        unfold M_leastGone_j99 at hO
        refine rbx hG 5 99 103 [.istore 2, .iinc 3 0] [1] [] ((x3 + (1 : Int32))) (fun y1 => [(3, .int y1), (2, .int s0), (0, .ref 251), (1, .int x1)]) (fun y1 => []) (fun y1 => h) [] (by decide +kernel) rfl trivial hO (fun y1 hO => ?_)
        refine rb hG 4 103 4 [] [] [] [(3, .int y1), (2, .int s0), (0, .ref 251), (1, .int x1)] [] h [] (by decide +kernel) rfl trivial ?_
        refine rs hG [(0, .ref 251), (1, .int x1), (2, .int s0), (3, .int y1)] [2, 3, 1, 0] rfl ?_
        exact k4 (s0, y1) (ok_some (Q := (Sum.elim H4 P)) hO)
      have j98 : ∀ (x2 : Int32) (x3 : Int32), Okk (M_leastGone_j98 x1 x2 x3 h) (Sum.elim H4 P) → G 98 [(0, .ref 251), (1, .int x1), (2, .int x2), (3, .int x3)] [] h := by
        intro x2 x3 hO
        unfold M_leastGone_j98 at hO
        refine rb hG 4 98 99 [.iload 2] [] [] [(0, .ref 251), (1, .int x1), (2, .int x2), (3, .int x3)] [.int x2] h [] (by decide +kernel) rfl trivial ?_
        refine rs hG [(0, .ref 251), (1, .int x1), (3, .int x3)] [0, 1, 3] rfl ?_
        exact j99 x3 x2 hO
      have j94 : ∀ (x3 : Int32), Okk (M_leastGone_j94 x1 x3 h) (Sum.elim H4 P) → G 94 [(0, .ref 251), (1, .int x1), (3, .int x3)] [] h := by
        intro x3 hO
        unfold M_leastGone_j94 at hO
        refine rb hG 5 94 99 [.iload 3] [] [] [(0, .ref 251), (1, .int x1), (3, .int x3)] [.int x3] h [] (by decide +kernel) rfl trivial ?_
        exact j99 x3 x3 hO
      have j69 : ∀ (x2 : Int32) (x3 : Int32) (x4 : Int32), Okk (M_leastGone_j69 x1 x2 x3 x4 h) (Sum.elim H4 P) → G 69 [(0, .ref 251), (1, .int x1), (2, .int x2), (3, .int x3), (4, .int x4)] [] h := by
        intro x2 x3 x4 hO
        unfold M_leastGone_j69 at hO
        refine rb hG 5 69 72 [.aload 0, .iload 4] [] [] [(0, .ref 251), (1, .int x1), (2, .int x2), (3, .int x3), (4, .int x4)] [.int x4, .ref 251] h [] (by decide +kernel) rfl trivial ?_
        refine rv hG z_M_isQuiet 445 1 72 251 [.int x4] [] (by decide +kernel) mk_M_isQuiet lk_12_445 rcv_251 rfl ⟨rfl, Nat.le_of_ble_eq_true rfl⟩ (c_M_isQuiet (d := d) h x4 (ok_bind hO)) ?_
        rintro _ _ ⟨r2, rfl, rfl, hO⟩
        refine ri hG .eq (23) 98 75 (by decide +kernel) (by decide) (fun c3 => ?_) (fun c3 => ?_)
        · have hO := ok_pos c3 hO
          refine rs hG [(0, .ref 251), (1, .int x1), (2, .int x2), (3, .int x3)] [0, 1, 2, 3] rfl ?_
          exact j98 x2 x3 hO
        · have hO := ok_neg c3 hO
          refine rb hG 5 78 80 [.iload 2, .ldc_w 0] [-1] [] [(0, .ref 251), (1, .int x1), (2, .int x2), (3, .int x3), (4, .int x4)] [.int (-1 : Int32), .int x2] h [] (by decide +kernel) rfl trivial ?_
          refine rj hG .eq (14) 94 80 (by decide +kernel) (by decide) (fun c4 => ?_) (fun c4 => ?_)
          · have hO := ok_pos c4 hO
            refine rs hG [(0, .ref 251), (1, .int x1), (3, .int x3)] [0, 1, 3] rfl ?_
            exact j94 x3 hO
          · have hO := ok_neg c4 hO
            refine rb hG 4 83 84 [.iload 3] [] [] [(0, .ref 251), (1, .int x1), (2, .int x2), (3, .int x3), (4, .int x4)] [.int x3] h [] (by decide +kernel) rfl trivial ?_
            refine rt hG z_M_ones 347 1 84 [.int x3] [] (by decide +kernel) mk_M_ones lk_12_347 rfl ⟨rfl, Nat.le_of_ble_eq_true rfl⟩ (c_M_ones (d := d + 1) h x3 (ok_bind hO)) ?_
            rintro _ _ ⟨r5, rfl, rfl, hO⟩
            refine rb hG 4 87 88 [.iload 2] [] [] [(0, .ref 251), (1, .int x1), (2, .int x2), (3, .int x3), (4, .int x4)] [.int x2, .int r5] h [] (by decide +kernel) rfl trivial ?_
            refine rt hG z_M_ones 347 1 88 [.int x2] [.int r5] (by decide +kernel) mk_M_ones lk_12_347 rfl ⟨rfl, Nat.le_of_ble_eq_true rfl⟩ (c_M_ones (d := d + 1) h x2 (ok_bind hO)) ?_
            rintro _ _ ⟨r6, rfl, rfl, hO⟩
            refine rj hG .ge (7) 98 91 (by decide +kernel) (by decide) (fun c7 => ?_) (fun c7 => ?_)
            · have hO := ok_pos c7 hO
              refine rs hG [(0, .ref 251), (1, .int x1), (2, .int x2), (3, .int x3)] [0, 1, 2, 3] rfl ?_
              exact j98 x2 x3 hO
            · have hO := ok_neg c7 hO
              refine rs hG [(0, .ref 251), (1, .int x1), (3, .int x3)] [0, 1, 3] rfl ?_
              exact j94 x3 hO
      have l22 : ∀ (x2 : Int32) (x3 : Int32) (x4 : Int32) (x5 : Int32), Okk (M_leastGone_l22 x1 x2 x3 x4 x5 h) (Sum.elim H4 P) → G 22 [(0, .ref 251), (1, .int x1), (2, .int x2), (3, .int x3), (4, .int x4), (5, .int x5)] [] h := by
        intro x2 x3 x4 x5 hO
        obtain ⟨H22, eH22⟩ : ∃ q : (Int32 × Int32) → Prop, q = fun s => G 22 [(0, .ref 251), (1, .int x1), (2, .int x2), (3, .int x3), (4, .int (s.1)), (5, .int (s.2))] [] (h) := ⟨_, rfl⟩
        have w9 : H22 (x4, x5) := by
          refine lp_wp (f := fun s : (Int32 × Int32) => M_leastGone_b22 x1 x2 x3 s.1 s.2 h) (H := H22) (Q := (Sum.elim H4 P)) ?_ (x4, x5) hO
          rintro ⟨x4, x5⟩ hO
          rw [eH22]
          show G 22 [(0, .ref 251), (1, .int x1), (2, .int x2), (3, .int x3), (4, .int x4), (5, .int x5)] [] h
          have k22 : ∀ s : (Int32 × Int32), H22 s → G 22 [(0, .ref 251), (1, .int x1), (2, .int x2), (3, .int x3), (4, .int (s.1)), (5, .int (s.2))] [] (h) := fun s q => by rw [eH22] at q; exact q
          replace hO : Okk (M_leastGone_b22 x1 x2 x3 x4 x5 h) (Sum.elim H22 (Sum.elim H4 P)) := hO
          clear eH22
          have j60 : ∀ (x5 : Int32) (s0 : Int32) (s1 : Int32), Okk (M_leastGone_j60 x1 x2 x3 x5 s0 s1 h) (Sum.elim H22 (Sum.elim H4 P)) → G 60 [(0, .ref 251), (1, .int x1), (2, .int x2), (3, .int x3), (5, .int x5)] [.int s1, .int s0] h := by
            intro x5 s0 s1 hO
            unfold M_leastGone_j60 at hO
            refine rbx hG 5 60 63 [.ior, .istore 4] [] [] ((s0 ||| s1)) (fun y8 => [(4, .int y8), (0, .ref 251), (1, .int x1), (2, .int x2), (3, .int x3), (5, .int x5)]) (fun y8 => []) (fun y8 => h) [] (by decide +kernel) rfl trivial hO (fun y8 hO => ?_)
            refine rbx hG 4 63 66 [.iinc 5 0] [1] [] ((x5 + (1 : Int32))) (fun y9 => [(5, .int y9), (4, .int y8), (0, .ref 251), (1, .int x1), (2, .int x2), (3, .int x3)]) (fun y9 => []) (fun y9 => h) [] (by decide +kernel) rfl trivial hO (fun y9 hO => ?_)
            refine rb hG 4 66 22 [] [] [] [(5, .int y9), (4, .int y8), (0, .ref 251), (1, .int x1), (2, .int x2), (3, .int x3)] [] h [] (by decide +kernel) rfl trivial ?_
            refine rs hG [(0, .ref 251), (1, .int x1), (2, .int x2), (3, .int x3), (4, .int y8), (5, .int y9)] [2, 3, 4, 5, 1, 0] rfl ?_
            exact k22 (y8, y9) (ok_some (Q := (Sum.elim H22 (Sum.elim H4 P))) hO)
          unfold M_leastGone_b22 at hO
          obtain ⟨g10, hO⟩ := ok_if hO
          refine rb hG 8 22 30 [.iload 5, .aload 0, .invokeinterface 1230 15, .iload 1, .iaload] [] [] [(0, .ref 251), (1, .int x1), (2, .int x2), (3, .int x3), (4, .int x4), (5, .int x5)] [.int (h.1 266 (Int32.toNatClampNeg x1)), .int x5] h [kd 251 = 12, kd 266 = 20 ∧ inb x1 (ln 266)] (by decide +kernel) rfl ⟨kd_251, ⟨kd_266, g10⟩⟩ ?_
          refine rj hG .ge (39) 69 30 (by decide +kernel) (by decide) (fun c11 => ?_) (fun c11 => ?_)
          · have hO := ok_pos c11 hO
            refine rs hG [(0, .ref 251), (1, .int x1), (2, .int x2), (3, .int x3), (4, .int x4)] [0, 1, 2, 3, 4] rfl ?_
            exact j69 x2 x3 x4 (ok_inr hO)
          · have hO := ok_neg c11 hO
            refine rb hG 6 33 38 [.iload 4, .iload 3, .iload 5] [] [] [(0, .ref 251), (1, .int x1), (2, .int x2), (3, .int x3), (4, .int x4), (5, .int x5)] [.int x5, .int x3, .int x4] h [] (by decide +kernel) rfl trivial ?_
            refine rt hG z_M_has 103 2 38 [.int x3, .int x5] [.int x4] (by decide +kernel) mk_M_has lk_12_103 rfl ⟨rfl, Nat.le_of_ble_eq_true rfl⟩ (c_M_has (d := d + 2) h x3 x5 (ok_bind hO)) ?_
            rintro _ _ ⟨r12, rfl, rfl, hO⟩
            refine ri hG .eq (7) 48 41 (by decide +kernel) (by decide) (fun c13 => ?_) (fun c13 => ?_)
            · have hO := ok_pos c13 hO
              obtain ⟨g14, hO⟩ := ok_if hO
              refine rb hG 11 48 60 [.aload 0, .invokeinterface 1227 12, .ldc_w 0, .iload 1, .imul, .iload 5, .iadd, .iaload] [16] [] [(0, .ref 251), (1, .int x1), (2, .int x2), (3, .int x3), (4, .int x4), (5, .int x5)] [.int (h.1 263 (Int32.toNatClampNeg (((16 : Int32) * x1) + x5))), .int x4] h [kd 251 = 12, kd 263 = 20 ∧ inb (((16 : Int32) * x1) + x5) (ln 263)] (by decide +kernel) rfl ⟨kd_251, ⟨kd_263, g14⟩⟩ ?_
              refine rs hG [(0, .ref 251), (1, .int x1), (2, .int x2), (3, .int x3), (5, .int x5)] [0, 1, 2, 3, 5] rfl ?_
              exact j60 x5 x4 (h.1 263 (Int32.toNatClampNeg (((16 : Int32) * x1) + x5))) hO
            · have hO := ok_neg c13 hO
              refine rb hG 5 44 60 [.ldc_w 0] [0] [] [(0, .ref 251), (1, .int x1), (2, .int x2), (3, .int x3), (4, .int x4), (5, .int x5)] [.int (0 : Int32), .int x4] h [] (by decide +kernel) rfl trivial ?_
              refine rs hG [(0, .ref 251), (1, .int x1), (2, .int x2), (3, .int x3), (5, .int x5)] [0, 1, 2, 3, 5] rfl ?_
              exact j60 x5 x4 (0 : Int32) hO
        rw [eH22] at w9
        exact w9
      unfold M_leastGone_b4 at hO
      obtain ⟨g15, hO⟩ := ok_if hO
      refine rb hG 10 4 13 [.iload 3, .ldc_w 0, .aload 0, .invokeinterface 1230 15, .iload 1, .iaload, .ishl] [1] [] [(0, .ref 251), (1, .int x1), (2, .int x2), (3, .int x3)] [.int (sh (1 : Int32) (h.1 266 (Int32.toNatClampNeg x1))), .int x3] h [kd 251 = 12, kd 266 = 20 ∧ inb x1 (ln 266)] (by decide +kernel) rfl ⟨kd_251, ⟨kd_266, g15⟩⟩ ?_
      refine rj hG .ge (93) 106 13 (by decide +kernel) (by decide) (fun c16 => ?_) (fun c16 => ?_)
      · have hO := ok_pos c16 hO
        refine rs hG [(2, .int x2)] [2] rfl ?_
        exact j106 x2 (ok_inr hO)
      · have hO := ok_neg c16 hO
        refine rb hG 7 16 22 [.ldc_w 0, .istore 4, .ldc_w 0, .istore 5] [0] [] [(5, .int (0 : Int32)), (4, .int (0 : Int32)), (0, .ref 251), (1, .int x1), (2, .int x2), (3, .int x3)] [] h [] (by decide +kernel) rfl trivial ?_
        refine rs hG [(0, .ref 251), (1, .int x1), (2, .int x2), (3, .int x3), (4, .int (0 : Int32)), (5, .int (0 : Int32))] [2, 3, 4, 5, 1, 0] rfl ?_
        exact l22 x2 x3 (0 : Int32) (0 : Int32) hO
    rw [eH4] at w9
    exact w9
  refine rb hG 7 0 4 [.ldc_w 0, .istore 2, .ldc_w 1, .istore 3] [-1, 0] [] [(3, .int (0 : Int32)), (2, .int (-1 : Int32)), (0, .ref 251), (1, .int x1)] [] h [] (by decide +kernel) rfl trivial ?_
  refine rs hG [(0, .ref 251), (1, .int x1), (2, .int (-1 : Int32)), (3, .int (0 : Int32))] [2, 3, 1, 0] rfl ?_
  exact l4 (-1 : Int32) (0 : Int32) hO
/-! GrainInnModel.cuts(IIIII)I -/
noncomputable def M_cuts_j34 (h : Hp) : Option (Int32 × Hp) := some ((-1 : Int32), h)
noncomputable def M_cuts_j74 (s0 : Int32) (h : Hp) : Option (Int32 × Hp) := some (s0, h)
noncomputable def M_cuts (h : Hp) (x1 : Int32) (x2 : Int32) (x3 : Int32) (x4 : Int32) (x5 : Int32) : Option (Int32 × Hp) := bnd (wr h 251 0 (0 : Int32)) fun h1 => (M_in x5 (0 : Int32) (2 : Int32)).bind fun r2 => if r2 = 0 then ((M_cuts_j34 h1)) else ((M_layState h1 x1 x2 x3).bind fun (r4, h5) => if r4 = 0 then ((M_cuts_j34 h5)) else ((M_isTable h5 x4).bind fun r7 => if r7 = 0 then ((M_cuts_j34 h5)) else (if x5 = 0 then ((M_cutsOf h5 x4).bind fun r10 => (M_cuts_j74 r10 h5)) else (if x5 = (1 : Int32) then ((M_leastGone h5 x4).bind fun r12 => (M_ones r12).bind fun r13 => (M_cuts_j74 r13 h5)) else ((M_leastGone h5 x4).bind fun r14 => (M_cuts_j74 r14 h5))))))
set_option maxRecDepth 100000 in
set_option maxHeartbeats 4000000 in
theorem c_M_cuts {E : En} {d : Nat} (h : Hp) (x1 : Int32) (x2 : Int32) (x3 : Int32) (x4 : Int32) (x5 : Int32) {P : (Int32 × Hp) → Prop} (hO : Okk (M_cuts h x1 x2 x3 x4 x5) P) : Cn E (d + 9) z_M_cuts [.ref 251, .int x1, .int x2, .int x3, .int x4, .int x5] h (RI P) := by
  refine cn_of (on := 12) (d := d + 8) ⟨rfl, by decide +kernel, Nat.le_of_ble_eq_true rfl⟩ (fun G hG => ?_)
  unfold M_cuts at hO
  show G 0 [(0, .ref 251), (1, .int x1), (2, .int x2), (3, .int x3), (4, .int x4), (5, .int x5)] [] h
  have j34 : ∀ (h : Hp), Okk (M_cuts_j34 h) P → G 34 [] [] h := by
    intro h hO
    unfold M_cuts_j34 at hO
    refine rb hG 4 34 35 [.ldc_w 0] [-1] [] [] [.int (-1 : Int32)] h [] (by decide +kernel) rfl trivial ?_
    exact eI hG 35 (by decide +kernel) rfl ⟨(-1 : Int32), rfl, ok_some (Q := P) hO⟩
  have j74 : ∀ (s0 : Int32) (h : Hp), Okk (M_cuts_j74 s0 h) P → G 74 [] [.int s0] h := by
    intro s0 h hO
    unfold M_cuts_j74 at hO
    exact eI hG 74 (by decide +kernel) rfl ⟨s0, rfl, ok_some (Q := P) hO⟩
  refine rbx hG 6 0 5 [.aload 0, .ldc_w 0, .putfield 1200] [0] [] (wr h 251 0 (0 : Int32)) (fun h1 => [(0, .ref 251), (1, .int x1), (2, .int x2), (3, .int x3), (4, .int x4), (5, .int x5)]) (fun h1 => []) (fun h1 => h1) [kd 251 = 12] (by decide +kernel) rfl kd_251 hO (fun h1 hO => ?_)
  refine rb hG 6 5 9 [.iload 5, .ldc_w 0, .ldc_w 1] [0, 2] [] [(0, .ref 251), (1, .int x1), (2, .int x2), (3, .int x3), (4, .int x4), (5, .int x5)] [.int (2 : Int32), .int (0 : Int32), .int x5] h1 [] (by decide +kernel) rfl trivial ?_
  refine rt hG z_M_in 111 3 9 [.int x5, .int (0 : Int32), .int (2 : Int32)] [] (by decide +kernel) mk_M_in lk_12_111 rfl ⟨rfl, Nat.le_of_ble_eq_true rfl⟩ (c_M_in (d := d + 7) h1 x5 (0 : Int32) (2 : Int32) (ok_bind hO)) ?_
  rintro _ _ ⟨r2, rfl, rfl, hO⟩
  refine ri hG .eq (22) 34 12 (by decide +kernel) (by decide) (fun c3 => ?_) (fun c3 => ?_)
  · have hO := ok_pos c3 hO
    refine rs hG [] [] rfl ?_
    exact j34 h1 hO
  · have hO := ok_neg c3 hO
    refine rb hG 7 15 19 [.aload 0, .iload 1, .iload 2, .iload 3] [] [] [(0, .ref 251), (1, .int x1), (2, .int x2), (3, .int x3), (4, .int x4), (5, .int x5)] [.int x3, .int x2, .int x1, .ref 251] h1 [] (by decide +kernel) rfl trivial ?_
    refine rv hG z_M_layState 380 3 19 251 [.int x1, .int x2, .int x3] [] (by decide +kernel) mk_M_layState lk_12_380 rcv_251 rfl ⟨rfl, Nat.le_of_ble_eq_true rfl⟩ (c_M_layState (d := d) h1 x1 x2 x3 (ok_bind hO)) ?_
    rintro _ h5 ⟨r4, rfl, hO⟩
    refine ri hG .eq (12) 34 22 (by decide +kernel) (by decide) (fun c6 => ?_) (fun c6 => ?_)
    · have hO := ok_pos c6 hO
      refine rs hG [] [] rfl ?_
      exact j34 h5 hO
    · have hO := ok_neg c6 hO
      refine rb hG 5 25 28 [.aload 0, .iload 4] [] [] [(0, .ref 251), (1, .int x1), (2, .int x2), (3, .int x3), (4, .int x4), (5, .int x5)] [.int x4, .ref 251] h5 [] (by decide +kernel) rfl trivial ?_
      refine rv hG z_M_isTable 338 1 28 251 [.int x4] [] (by decide +kernel) mk_M_isTable lk_12_338 rcv_251 rfl ⟨rfl, Nat.le_of_ble_eq_true rfl⟩ (c_M_isTable (d := d + 6) h5 x4 (ok_bind hO)) ?_
      rintro _ _ ⟨r7, rfl, rfl, hO⟩
      refine riN hG (5) 36 31 (by decide +kernel) (by decide) (fun c8 => ?_) (fun c8 => ?_)
      · have hO := ok_pos c8 hO
        refine rs hG [] [] rfl ?_
        exact j34 h5 hO
      · have hO := ok_neg c8 hO
        refine rb hG 4 36 38 [.iload 5] [] [] [(0, .ref 251), (1, .int x1), (2, .int x2), (3, .int x3), (4, .int x4), (5, .int x5)] [.int x5] h5 [] (by decide +kernel) rfl trivial ?_
        refine riN hG (12) 50 38 (by decide +kernel) (by decide) (fun c9 => ?_) (fun c9 => ?_)
        · have hO := ok_pos c9 hO
          refine rb hG 5 41 44 [.aload 0, .iload 4] [] [] [(0, .ref 251), (1, .int x1), (2, .int x2), (3, .int x3), (4, .int x4), (5, .int x5)] [.int x4, .ref 251] h5 [] (by decide +kernel) rfl trivial ?_
          refine rv hG z_M_cutsOf 448 1 44 251 [.int x4] [] (by decide +kernel) mk_M_cutsOf lk_12_448 rcv_251 rfl ⟨rfl, Nat.le_of_ble_eq_true rfl⟩ (c_M_cutsOf (d := d + 4) h5 x4 (ok_bind hO)) ?_
          rintro _ _ ⟨r10, rfl, rfl, hO⟩
          refine rb hG 4 47 74 [] [] [] [(0, .ref 251), (1, .int x1), (2, .int x2), (3, .int x3), (4, .int x4), (5, .int x5)] [.int r10] h5 [] (by decide +kernel) rfl trivial ?_
          refine rs hG [] [] rfl ?_
          exact j74 r10 h5 hO
        · have hO := ok_neg c9 hO
          refine rb hG 5 50 53 [.iload 5, .ldc_w 0] [1] [] [(0, .ref 251), (1, .int x1), (2, .int x2), (3, .int x3), (4, .int x4), (5, .int x5)] [.int (1 : Int32), .int x5] h5 [] (by decide +kernel) rfl trivial ?_
          refine rjN hG (15) 68 53 (by decide +kernel) (by decide) (fun c11 => ?_) (fun c11 => ?_)
          · have hO := ok_pos c11 hO
            refine rb hG 5 56 59 [.aload 0, .iload 4] [] [] [(0, .ref 251), (1, .int x1), (2, .int x2), (3, .int x3), (4, .int x4), (5, .int x5)] [.int x4, .ref 251] h5 [] (by decide +kernel) rfl trivial ?_
            refine rv hG z_M_leastGone 451 1 59 251 [.int x4] [] (by decide +kernel) mk_M_leastGone lk_12_451 rcv_251 rfl ⟨rfl, Nat.le_of_ble_eq_true rfl⟩ (c_M_leastGone (d := d + 4) h5 x4 (ok_bind hO)) ?_
            rintro _ _ ⟨r12, rfl, rfl, hO⟩
            refine rt hG z_M_ones 347 1 62 [.int r12] [] (by decide +kernel) mk_M_ones lk_12_347 rfl ⟨rfl, Nat.le_of_ble_eq_true rfl⟩ (c_M_ones (d := d + 6) h5 r12 (ok_bind hO)) ?_
            rintro _ _ ⟨r13, rfl, rfl, hO⟩
            refine rb hG 4 65 74 [] [] [] [(0, .ref 251), (1, .int x1), (2, .int x2), (3, .int x3), (4, .int x4), (5, .int x5)] [.int r13] h5 [] (by decide +kernel) rfl trivial ?_
            refine rs hG [] [] rfl ?_
            exact j74 r13 h5 hO
          · have hO := ok_neg c11 hO
            refine rb hG 5 68 71 [.aload 0, .iload 4] [] [] [(0, .ref 251), (1, .int x1), (2, .int x2), (3, .int x3), (4, .int x4), (5, .int x5)] [.int x4, .ref 251] h5 [] (by decide +kernel) rfl trivial ?_
            refine rv hG z_M_leastGone 451 1 71 251 [.int x4] [] (by decide +kernel) mk_M_leastGone lk_12_451 rcv_251 rfl ⟨rfl, Nat.le_of_ble_eq_true rfl⟩ (c_M_leastGone (d := d + 4) h5 x4 (ok_bind hO)) ?_
            rintro _ _ ⟨r14, rfl, rfl, hO⟩
            refine rs hG [] [] rfl ?_
            exact j74 r14 h5 hO
/-! GrainInn.heard(II)I -/
noncomputable def K_heard_j45 (s0 : Int32) (h : Hp) : Option Int32 := some s0
noncomputable def K_heard (h : Hp) (x1 : Int32) (x2 : Int32) : Option Int32 := (D_linesAt h 2 (3 : Int32) x1).bind fun r1 => if r1 = 0 then (some (-2 : Int32)) else (if x2 = (-1 : Int32) then (if kd r1 = 2 then (some (h.1 r1 3)) else none) else (if kd r1 = 2 then ((L_has h r1 x2).bind fun r6 => if r6 = 0 then ((K_heard_j45 (-2 : Int32) h)) else ((L_firstOf h r1 x2).bind fun r8 => (K_heard_j45 r8 h))) else none))
set_option maxRecDepth 100000 in
set_option maxHeartbeats 4000000 in
theorem c_K_heard {E : En} {d : Nat} (h : Hp) (x1 : Int32) (x2 : Int32) {P : Int32 → Prop} (hO : Okk (K_heard h x1 x2) P) : Cn E (d + 5) z_K_heard [.ref 1, .int x1, .int x2] h (RIp h P) := by
  refine cn_of (on := 11) (d := d + 4) ⟨rfl, by decide +kernel, Nat.le_of_ble_eq_true rfl⟩ (fun G hG => ?_)
  unfold K_heard at hO
  show G 0 [(0, .ref 1), (1, .int x1), (2, .int x2)] [] h
  have j45 : ∀ (s0 : Int32), Okk (K_heard_j45 s0 h) P → G 45 [] [.int s0] h := by
    intro s0 hO
    unfold K_heard_j45 at hO
    exact eI hG 45 (by decide +kernel) rfl ⟨s0, rfl, rfl, ok_some (Q := P) hO⟩
  refine rb hG 7 0 6 [.aload 0, .invokeinterface 1100 1, .ldc_w 0, .iload 1] [3] [] [(0, .ref 1), (1, .int x1), (2, .int x2)] [.int x1, .int (3 : Int32), .ref 2] h [kd 1 = 11] (by decide +kernel) rfl kd_1 ?_
  refine rv hG z_D_linesAt 138 2 6 2 [.int (3 : Int32), .int x1] [] (by decide +kernel) mk_D_linesAt lk_11_138 rcv_2 rfl ⟨rfl, Nat.le_of_ble_eq_true rfl⟩ (c_D_linesAt (d := d) h 2 (3 : Int32) x1 (ok_bind hO)) ?_
  rintro _ _ ⟨r1, rfl, rfl, hO⟩
  refine rb hG 5 9 11 [.astore 3, .aload 3] [] [] [(3, .ref r1), (0, .ref 1), (1, .int x1), (2, .int x2)] [.ref r1] h [] (by decide +kernel) rfl trivial ?_
  refine rnn hG (6) 17 11 (by decide +kernel) (by decide) (fun c2 => ?_) (fun c2 => ?_)
  · have hO := ok_pos c2 hO
    refine rb hG 4 14 16 [.ldc_w 0] [-2] [] [(3, .ref r1), (0, .ref 1), (1, .int x1), (2, .int x2)] [.int (-2 : Int32)] h [] (by decide +kernel) rfl trivial ?_
    exact eI hG 16 (by decide +kernel) rfl ⟨(-2 : Int32), rfl, rfl, ok_some (Q := P) hO⟩
  · have hO := ok_neg c2 hO
    refine rb hG 5 17 19 [.iload 2, .ldc_w 0] [-1] [] [(3, .ref r1), (0, .ref 1), (1, .int x1), (2, .int x2)] [.int (-1 : Int32), .int x2] h [] (by decide +kernel) rfl trivial ?_
    refine rjN hG (8) 27 19 (by decide +kernel) (by decide) (fun c3 => ?_) (fun c3 => ?_)
    · have hO := ok_pos c3 hO
      obtain ⟨g4, hO⟩ := ok_if hO
      refine rb hG 5 22 26 [.aload 3, .getfield 203] [] [] [(3, .ref r1), (0, .ref 1), (1, .int x1), (2, .int x2)] [.int (h.1 r1 3)] h [kd r1 = 2] (by decide +kernel) rfl g4 ?_
      exact eI hG 26 (by decide +kernel) rfl ⟨(h.1 r1 3), rfl, rfl, ok_some (Q := P) hO⟩
    · have hO := ok_neg c3 hO
      obtain ⟨g5, hO⟩ := ok_if hO
      refine rb hG 5 27 29 [.aload 3, .iload 2] [] [] [(3, .ref r1), (0, .ref 1), (1, .int x1), (2, .int x2)] [.int x2, .ref r1] h [] (by decide +kernel) rfl trivial ?_
      refine rv hG z_L_has 273 1 29 r1 [.int x2] [] (by decide +kernel) mk_L_has lk_11_273 (rcv_L g5) rfl ⟨rfl, Nat.le_of_ble_eq_true rfl⟩ (c_L_has (d := d + 3) h r1 x2 (ok_bind hO)) ?_
      rintro _ _ ⟨r6, rfl, rfl, hO⟩
      refine ri hG .eq (11) 43 32 (by decide +kernel) (by decide) (fun c7 => ?_) (fun c7 => ?_)
      · have hO := ok_pos c7 hO
        refine rb hG 4 43 45 [.ldc_w 0] [-2] [] [(3, .ref r1), (0, .ref 1), (1, .int x1), (2, .int x2)] [.int (-2 : Int32)] h [] (by decide +kernel) rfl trivial ?_
        refine rs hG [] [] rfl ?_
        exact j45 (-2 : Int32) hO
      · have hO := ok_neg c7 hO
        refine rb hG 5 35 37 [.aload 3, .iload 2] [] [] [(3, .ref r1), (0, .ref 1), (1, .int x1), (2, .int x2)] [.int x2, .ref r1] h [] (by decide +kernel) rfl trivial ?_
        refine rv hG z_L_firstOf 276 1 37 r1 [.int x2] [] (by decide +kernel) mk_L_firstOf lk_11_276 (rcv_L g5) rfl ⟨rfl, Nat.le_of_ble_eq_true rfl⟩ (c_L_firstOf (d := d + 2) h r1 x2 (ok_bind hO)) ?_
        rintro _ _ ⟨r8, rfl, rfl, hO⟩
        refine rb hG 4 40 45 [] [] [] [(3, .ref r1), (0, .ref 1), (1, .int x1), (2, .int x2)] [.int r8] h [] (by decide +kernel) rfl trivial ?_
        refine rs hG [] [] rfl ?_
        exact j45 r8 hO
/-! GrainInnModel.hasHearing(I)Z -/
noncomputable def M_hasHearing (h : Hp) (x1 : Int32) : Option (Int32 × Hp) := bnd (wr h 251 49 x1) fun h1 => (M_is h1 (3 : Int32) x1).bind fun r2 => if r2 = 0 ∨ r2 = 1 then (some (r2, h1)) else none
set_option maxRecDepth 100000 in
set_option maxHeartbeats 4000000 in
theorem c_M_hasHearing {E : En} {d : Nat} (h : Hp) (x1 : Int32) {P : (Int32 × Hp) → Prop} (hO : Okk (M_hasHearing h x1) P) : Cn E (d + 3) z_M_hasHearing [.ref 251, .int x1] h (RI P) := by
  refine cn_of (on := 12) (d := d + 2) ⟨rfl, by decide +kernel, Nat.le_of_ble_eq_true rfl⟩ (fun G hG => ?_)
  unfold M_hasHearing at hO
  show G 0 [(0, .ref 251), (1, .int x1)] [] h
  refine rbx hG 6 0 5 [.aload 0, .iload 1, .putfield 1249] [] [] (wr h 251 49 x1) (fun h1 => [(0, .ref 251), (1, .int x1)]) (fun h1 => []) (fun h1 => h1) [kd 251 = 12] (by decide +kernel) rfl kd_251 hO (fun h1 hO => ?_)
  refine rb hG 6 5 8 [.aload 0, .ldc_w 0, .iload 1] [3] [] [(0, .ref 251), (1, .int x1)] [.int x1, .int (3 : Int32), .ref 251] h1 [] (by decide +kernel) rfl trivial ?_
  refine rv hG z_M_is 258 2 8 251 [.int (3 : Int32), .int x1] [] (by decide +kernel) mk_M_is lk_12_258 rcv_251 rfl ⟨rfl, Nat.le_of_ble_eq_true rfl⟩ (c_M_is (d := d) h1 (3 : Int32) x1 (ok_bind hO)) ?_
  rintro _ _ ⟨r2, rfl, rfl, hO⟩
  obtain ⟨g3, hO⟩ := ok_if hO
  exact eZ hG 11 (by decide +kernel) rfl g3 ⟨r2, rfl, ok_some (Q := P) hO⟩
/-! GrainInnModel.rowsHeard()I -/
noncomputable def M_rowsHeard (h : Hp) : Option Int32 := if inb ((8 : Int32) * (h.1 251 49)) (ln 260) then (some (h.1 260 (Int32.toNatClampNeg ((8 : Int32) * (h.1 251 49))))) else none
set_option maxRecDepth 100000 in
set_option maxHeartbeats 4000000 in
theorem c_M_rowsHeard {E : En} {d : Nat} (h : Hp) {P : Int32 → Prop} (hO : Okk (M_rowsHeard h) P) : Cn E (d + 1) z_M_rowsHeard [.ref 251] h (RIp h P) := by
  refine cn_of (on := 12) (d := d + 0) ⟨rfl, by decide +kernel, Nat.le_of_ble_eq_true rfl⟩ (fun G hG => ?_)
  unfold M_rowsHeard at hO
  show G 0 [(0, .ref 251)] [] h
  obtain ⟨g1, hO⟩ := ok_if hO
  refine rb hG 10 0 12 [.aload 0, .invokeinterface 1209 9, .ldc_w 0, .aload 0, .getfield 1249, .imul, .iaload] [8] [] [(0, .ref 251)] [.int (h.1 260 (Int32.toNatClampNeg ((8 : Int32) * (h.1 251 49))))] h [kd 251 = 12, kd 251 = 12, kd 260 = 20 ∧ inb ((8 : Int32) * (h.1 251 49)) (ln 260)] (by decide +kernel) rfl ⟨kd_251, kd_251, ⟨kd_260, g1⟩⟩ ?_
  exact eI hG 12 (by decide +kernel) rfl ⟨(h.1 260 (Int32.toNatClampNeg ((8 : Int32) * (h.1 251 49)))), rfl, rfl, ok_some (Q := P) hO⟩
/-! GrainInnModel.heardIn(I)I -/
noncomputable def M_heardIn (h : Hp) (x1 : Int32) : Option Int32 := if inb ((((8 : Int32) * (h.1 251 49)) + (1 : Int32)) + x1) (ln 260) then (some (h.1 260 (Int32.toNatClampNeg ((((8 : Int32) * (h.1 251 49)) + (1 : Int32)) + x1)))) else none
set_option maxRecDepth 100000 in
set_option maxHeartbeats 4000000 in
theorem c_M_heardIn {E : En} {d : Nat} (h : Hp) (x1 : Int32) {P : Int32 → Prop} (hO : Okk (M_heardIn h x1) P) : Cn E (d + 1) z_M_heardIn [.ref 251, .int x1] h (RIp h P) := by
  refine cn_of (on := 12) (d := d + 0) ⟨rfl, by decide +kernel, Nat.le_of_ble_eq_true rfl⟩ (fun G hG => ?_)
  unfold M_heardIn at hO
  show G 0 [(0, .ref 251), (1, .int x1)] [] h
  obtain ⟨g1, hO⟩ := ok_if hO
  refine rb hG 14 0 16 [.aload 0, .invokeinterface 1209 9, .ldc_w 0, .aload 0, .getfield 1249, .imul, .ldc_w 1, .iadd, .iload 1, .iadd, .iaload] [8, 1] [] [(0, .ref 251), (1, .int x1)] [.int (h.1 260 (Int32.toNatClampNeg ((((8 : Int32) * (h.1 251 49)) + (1 : Int32)) + x1)))] h [kd 251 = 12, kd 251 = 12, kd 260 = 20 ∧ inb ((((8 : Int32) * (h.1 251 49)) + (1 : Int32)) + x1) (ln 260)] (by decide +kernel) rfl ⟨kd_251, kd_251, ⟨kd_260, g1⟩⟩ ?_
  exact eI hG 16 (by decide +kernel) rfl ⟨(h.1 260 (Int32.toNatClampNeg ((((8 : Int32) * (h.1 251 49)) + (1 : Int32)) + x1))), rfl, rfl, ok_some (Q := P) hO⟩
/-! GrainInnModel.heard(II)I -/
noncomputable def M_heard_j52 (s0 : Int32) (h : Hp) : Option (Int32 × Hp) := some (s0, h)
noncomputable def M_heard (h : Hp) (x1 : Int32) (x2 : Int32) : Option (Int32 × Hp) := bnd (wr h 251 0 (0 : Int32)) fun h1 => (M_hasHearing h1 x1).bind fun (r2, h3) => if r2 = 0 then (some ((-2 : Int32), h3)) else (if x2 = (-1 : Int32) then ((M_rowsHeard h3).bind fun r6 => (M_heard_j52 r6 h3)) else ((M_rowsHeard h3).bind fun r7 => (M_in x2 (0 : Int32) (r7 - (1 : Int32))).bind fun r8 => if r8 = 0 then ((M_heard_j52 (-2 : Int32) h3)) else ((M_heardIn h3 x2).bind fun r10 => (M_heard_j52 r10 h3))))
set_option maxRecDepth 100000 in
set_option maxHeartbeats 4000000 in
theorem c_M_heard {E : En} {d : Nat} (h : Hp) (x1 : Int32) (x2 : Int32) {P : (Int32 × Hp) → Prop} (hO : Okk (M_heard h x1 x2) P) : Cn E (d + 4) z_M_heard [.ref 251, .int x1, .int x2] h (RI P) := by
  refine cn_of (on := 12) (d := d + 3) ⟨rfl, by decide +kernel, Nat.le_of_ble_eq_true rfl⟩ (fun G hG => ?_)
  unfold M_heard at hO
  show G 0 [(0, .ref 251), (1, .int x1), (2, .int x2)] [] h
  have j52 : ∀ (s0 : Int32) (h : Hp), Okk (M_heard_j52 s0 h) P → G 52 [] [.int s0] h := by
    intro s0 h hO
    unfold M_heard_j52 at hO
    exact eI hG 52 (by decide +kernel) rfl ⟨s0, rfl, ok_some (Q := P) hO⟩
  refine rbx hG 6 0 5 [.aload 0, .ldc_w 0, .putfield 1200] [0] [] (wr h 251 0 (0 : Int32)) (fun h1 => [(0, .ref 251), (1, .int x1), (2, .int x2)]) (fun h1 => []) (fun h1 => h1) [kd 251 = 12] (by decide +kernel) rfl kd_251 hO (fun h1 hO => ?_)
  refine rb hG 5 5 7 [.aload 0, .iload 1] [] [] [(0, .ref 251), (1, .int x1), (2, .int x2)] [.int x1, .ref 251] h1 [] (by decide +kernel) rfl trivial ?_
  refine rv hG z_M_hasHearing 457 1 7 251 [.int x1] [] (by decide +kernel) mk_M_hasHearing lk_12_457 rcv_251 rfl ⟨rfl, Nat.le_of_ble_eq_true rfl⟩ (c_M_hasHearing (d := d) h1 x1 (ok_bind hO)) ?_
  rintro _ h3 ⟨r2, rfl, hO⟩
  refine riN hG (6) 16 10 (by decide +kernel) (by decide) (fun c4 => ?_) (fun c4 => ?_)
  · have hO := ok_pos c4 hO
    refine rb hG 4 13 15 [.ldc_w 0] [-2] [] [(0, .ref 251), (1, .int x1), (2, .int x2)] [.int (-2 : Int32)] h3 [] (by decide +kernel) rfl trivial ?_
    exact eI hG 15 (by decide +kernel) rfl ⟨(-2 : Int32), rfl, ok_some (Q := P) hO⟩
  · have hO := ok_neg c4 hO
    refine rb hG 5 16 18 [.iload 2, .ldc_w 0] [-1] [] [(0, .ref 251), (1, .int x1), (2, .int x2)] [.int (-1 : Int32), .int x2] h3 [] (by decide +kernel) rfl trivial ?_
    refine rjN hG (10) 28 18 (by decide +kernel) (by decide) (fun c5 => ?_) (fun c5 => ?_)
    · have hO := ok_pos c5 hO
      refine rb hG 4 21 22 [.aload 0] [] [] [(0, .ref 251), (1, .int x1), (2, .int x2)] [.ref 251] h3 [] (by decide +kernel) rfl trivial ?_
      refine rv hG z_M_rowsHeard 460 0 22 251 [] [] (by decide +kernel) mk_M_rowsHeard lk_12_460 rcv_251 rfl ⟨rfl, Nat.le_of_ble_eq_true rfl⟩ (c_M_rowsHeard (d := d + 2) h3 (ok_bind hO)) ?_
      rintro _ _ ⟨r6, rfl, rfl, hO⟩
      refine rb hG 4 25 52 [] [] [] [(0, .ref 251), (1, .int x1), (2, .int x2)] [.int r6] h3 [] (by decide +kernel) rfl trivial ?_
      refine rs hG [] [] rfl ?_
      exact j52 r6 h3 hO
    · have hO := ok_neg c5 hO
      refine rb hG 6 28 31 [.iload 2, .ldc_w 0, .aload 0] [0] [] [(0, .ref 251), (1, .int x1), (2, .int x2)] [.ref 251, .int (0 : Int32), .int x2] h3 [] (by decide +kernel) rfl trivial ?_
      refine rv hG z_M_rowsHeard 460 0 31 251 [] [.int (0 : Int32), .int x2] (by decide +kernel) mk_M_rowsHeard lk_12_460 rcv_251 rfl ⟨rfl, Nat.le_of_ble_eq_true rfl⟩ (c_M_rowsHeard (d := d + 2) h3 (ok_bind hO)) ?_
      rintro _ _ ⟨r7, rfl, rfl, hO⟩
      refine rb hG 5 34 36 [.ldc_w 0, .isub] [1] [] [(0, .ref 251), (1, .int x1), (2, .int x2)] [.int (r7 - (1 : Int32)), .int (0 : Int32), .int x2] h3 [] (by decide +kernel) rfl trivial ?_
      refine rt hG z_M_in 111 3 36 [.int x2, .int (0 : Int32), .int (r7 - (1 : Int32))] [] (by decide +kernel) mk_M_in lk_12_111 rfl ⟨rfl, Nat.le_of_ble_eq_true rfl⟩ (c_M_in (d := d + 2) h3 x2 (0 : Int32) (r7 - (1 : Int32)) (ok_bind hO)) ?_
      rintro _ _ ⟨r8, rfl, rfl, hO⟩
      refine ri hG .eq (11) 50 39 (by decide +kernel) (by decide) (fun c9 => ?_) (fun c9 => ?_)
      · have hO := ok_pos c9 hO
        refine rb hG 4 50 52 [.ldc_w 0] [-2] [] [(0, .ref 251), (1, .int x1), (2, .int x2)] [.int (-2 : Int32)] h3 [] (by decide +kernel) rfl trivial ?_
        refine rs hG [] [] rfl ?_
        exact j52 (-2 : Int32) h3 hO
      · have hO := ok_neg c9 hO
        refine rb hG 5 42 44 [.aload 0, .iload 2] [] [] [(0, .ref 251), (1, .int x1), (2, .int x2)] [.int x2, .ref 251] h3 [] (by decide +kernel) rfl trivial ?_
        refine rv hG z_M_heardIn 463 1 44 251 [.int x2] [] (by decide +kernel) mk_M_heardIn lk_12_463 rcv_251 rfl ⟨rfl, Nat.le_of_ble_eq_true rfl⟩ (c_M_heardIn (d := d + 2) h3 x2 (ok_bind hO)) ?_
        rintro _ _ ⟨r10, rfl, rfl, hO⟩
        refine rb hG 4 47 52 [] [] [] [(0, .ref 251), (1, .int x1), (2, .int x2)] [.int r10] h3 [] (by decide +kernel) rfl trivial ?_
        refine rs hG [] [] rfl ?_
        exact j52 r10 h3 hO
/-! GrainInn.Rounds.listenTo(LGrainInn$House;II)Z -/
noncomputable def N_listenTo_j20 (x1 : Nat) (s0 : Int32) (h : Hp) : Option (Int32 × Hp) := if s0 = 0 ∨ s0 = 1 then (some (s0, h)) else none
noncomputable def N_listenTo_j10 (x1 : Nat) (x2 : Int32) (x3 : Int32) (h : Hp) : Option (Int32 × Hp) := if x3 = x2 then ((N_listenTo_j20 x1 (1 : Int32) h)) else ((N_listenTo_j20 x1 (0 : Int32) h))
noncomputable def N_listenTo_j39 (x1 : Nat) (h : Hp) : Option (Int32 × Hp) := some ((0 : Int32), h)
noncomputable def N_listenTo_j66 (x1 : Nat) (s0 : Int32) (h : Hp) : Option (Int32 × Hp) := if s0 = 0 ∨ s0 = 1 then (some (s0, h)) else none
noncomputable def N_listenTo (h : Hp) (x1 : Nat) (x2 : Int32) (x3 : Int32) : Option (Int32 × Hp) := if x3 = (-1 : Int32) then ((N_listenTo_j10 x1 x2 x3 h)) else (if x2 = (-1 : Int32) then ((N_listenTo_j10 x1 x2 x3 h)) else (if kd x1 = 1 then ((H_hasGuest h x1 x2).bind fun r7 => if r7 = 0 then ((N_listenTo_j39 x1 h)) else ((K_isOf x3 (0 : Int32) (7 : Int32)).bind fun r9 => if r9 = 0 then ((N_listenTo_j39 x1 h)) else (if inb x3 (ln 98) then (if (h.1 98 (Int32.toNatClampNeg x3)) = (-1 : Int32) then (if inb x3 (ln 98) then (bnd (wr h 98 (Int32.toNatClampNeg x3) x2) fun h14 => some ((1 : Int32), h14)) else none) else (if inb x3 (ln 98) then (if (h.1 98 (Int32.toNatClampNeg x3)) = x2 then ((N_listenTo_j66 x1 (1 : Int32) h)) else ((N_listenTo_j66 x1 (0 : Int32) h))) else none)) else none))) else none))
set_option maxRecDepth 100000 in
set_option maxHeartbeats 4000000 in
theorem c_N_listenTo {E : En} {d : Nat} (h : Hp) (x1 : Nat) (x2 : Int32) (x3 : Int32) {P : (Int32 × Hp) → Prop} (hO : Okk (N_listenTo h x1 x2 x3) P) : Cn E (d + 2) z_N_listenTo [.ref 90, .ref x1, .int x2, .int x3] h (RI P) := by
  refine cn_of (on := 5) (d := d + 1) ⟨rfl, by decide +kernel, Nat.le_of_ble_eq_true rfl⟩ (fun G hG => ?_)
  unfold N_listenTo at hO
  show G 0 [(0, .ref 90), (1, .ref x1), (2, .int x2), (3, .int x3)] [] h
  have j20 : ∀ (s0 : Int32) (h : Hp), Okk (N_listenTo_j20 x1 s0 h) P → G 20 [] [.int s0] h := by
    intro s0 h hO
    unfold N_listenTo_j20 at hO
    obtain ⟨g1, hO⟩ := ok_if hO
    exact eZ hG 20 (by decide +kernel) rfl g1 ⟨s0, rfl, ok_some (Q := P) hO⟩
  have j10 : ∀ (h : Hp), Okk (N_listenTo_j10 x1 x2 x3 h) P → G 10 [(2, .int x2), (3, .int x3)] [] h := by
    intro h hO
    unfold N_listenTo_j10 at hO
    refine rb hG 5 10 12 [.iload 3, .iload 2] [] [] [(2, .int x2), (3, .int x3)] [.int x2, .int x3] h [] (by decide +kernel) rfl trivial ?_
    refine rjN hG (7) 19 12 (by decide +kernel) (by decide) (fun c2 => ?_) (fun c2 => ?_)
    · have hO := ok_pos c2 hO
      refine rb hG 5 15 20 [.ldc_w 0] [1] [] [(2, .int x2), (3, .int x3)] [.int (1 : Int32)] h [] (by decide +kernel) rfl trivial ?_
      refine rs hG [] [] rfl ?_
      exact j20 (1 : Int32) h hO
    · have hO := ok_neg c2 hO
      refine rb hG 4 19 20 [.ldc_w 0] [0] [] [(2, .int x2), (3, .int x3)] [.int (0 : Int32)] h [] (by decide +kernel) rfl trivial ?_
      refine rs hG [] [] rfl ?_
      exact j20 (0 : Int32) h hO
  have j39 : ∀ (h : Hp), Okk (N_listenTo_j39 x1 h) P → G 39 [] [] h := by
    intro h hO
    unfold N_listenTo_j39 at hO
    refine rb hG 4 39 40 [.ldc_w 0] [0] [] [] [.int (0 : Int32)] h [] (by decide +kernel) rfl trivial ?_
    exact eZ hG 40 (by decide +kernel) rfl (Or.inl rfl) ⟨(0 : Int32), rfl, ok_some (Q := P) hO⟩
  have j66 : ∀ (s0 : Int32) (h : Hp), Okk (N_listenTo_j66 x1 s0 h) P → G 66 [] [.int s0] h := by
    intro s0 h hO
    unfold N_listenTo_j66 at hO
    obtain ⟨g3, hO⟩ := ok_if hO
    exact eZ hG 66 (by decide +kernel) rfl g3 ⟨s0, rfl, ok_some (Q := P) hO⟩
  refine rb hG 5 0 2 [.iload 3, .ldc_w 0] [-1] [] [(0, .ref 90), (1, .ref x1), (2, .int x2), (3, .int x3)] [.int (-1 : Int32), .int x3] h [] (by decide +kernel) rfl trivial ?_
  refine rj hG .eq (8) 10 2 (by decide +kernel) (by decide) (fun c4 => ?_) (fun c4 => ?_)
  · have hO := ok_pos c4 hO
    refine rs hG [(2, .int x2), (3, .int x3)] [2, 3] rfl ?_
    exact j10 h hO
  · have hO := ok_neg c4 hO
    refine rb hG 5 5 7 [.iload 2, .ldc_w 0] [-1] [] [(0, .ref 90), (1, .ref x1), (2, .int x2), (3, .int x3)] [.int (-1 : Int32), .int x2] h [] (by decide +kernel) rfl trivial ?_
    refine rjN hG (14) 21 7 (by decide +kernel) (by decide) (fun c5 => ?_) (fun c5 => ?_)
    · have hO := ok_pos c5 hO
      refine rs hG [(2, .int x2), (3, .int x3)] [2, 3] rfl ?_
      exact j10 h hO
    · have hO := ok_neg c5 hO
      obtain ⟨g6, hO⟩ := ok_if hO
      refine rb hG 5 21 23 [.aload 1, .iload 2] [] [] [(0, .ref 90), (1, .ref x1), (2, .int x2), (3, .int x3)] [.int x2, .ref x1] h [] (by decide +kernel) rfl trivial ?_
      refine rv hG z_H_hasGuest 137 1 23 x1 [.int x2] [] (by decide +kernel) mk_H_hasGuest lk_5_137 (rcv_H g6) rfl ⟨rfl, Nat.le_of_ble_eq_true rfl⟩ (c_H_hasGuest (d := d) h x1 x2 (ok_bind hO)) ?_
      rintro _ _ ⟨r7, rfl, rfl, hO⟩
      refine ri hG .eq (13) 39 26 (by decide +kernel) (by decide) (fun c8 => ?_) (fun c8 => ?_)
      · have hO := ok_pos c8 hO
        refine rs hG [] [] rfl ?_
        exact j39 h hO
      · have hO := ok_neg c8 hO
        refine rb hG 6 29 33 [.iload 3, .ldc_w 0, .ldc_w 1] [0, 7] [] [(0, .ref 90), (1, .ref x1), (2, .int x2), (3, .int x3)] [.int (7 : Int32), .int (0 : Int32), .int x3] h [] (by decide +kernel) rfl trivial ?_
        refine rt hG z_K_isOf 118 3 33 [.int x3, .int (0 : Int32), .int (7 : Int32)] [] (by decide +kernel) mk_K_isOf lk_5_118 rfl ⟨rfl, Nat.le_of_ble_eq_true rfl⟩ (c_K_isOf (d := d) h x3 (0 : Int32) (7 : Int32) (ok_bind hO)) ?_
        rintro _ _ ⟨r9, rfl, rfl, hO⟩
        refine riN hG (5) 41 36 (by decide +kernel) (by decide) (fun c10 => ?_) (fun c10 => ?_)
        · have hO := ok_pos c10 hO
          refine rs hG [] [] rfl ?_
          exact j39 h hO
        · have hO := ok_neg c10 hO
          obtain ⟨g11, hO⟩ := ok_if hO
          refine rb hG 8 41 48 [.aload 0, .invokeinterface 504 8, .iload 3, .iaload, .ldc_w 0] [-1] [] [(0, .ref 90), (1, .ref x1), (2, .int x2), (3, .int x3)] [.int (-1 : Int32), .int (h.1 98 (Int32.toNatClampNeg x3))] h [kd 90 = 5, kd 98 = 20 ∧ inb x3 (ln 98)] (by decide +kernel) rfl ⟨kd_90, ⟨kd_98, g11⟩⟩ ?_
          refine rj hG .eq (19) 67 48 (by decide +kernel) (by decide) (fun c12 => ?_) (fun c12 => ?_)
          · have hO := ok_pos c12 hO
            obtain ⟨g13, hO⟩ := ok_if hO
            refine rbx hG 8 67 74 [.aload 0, .invokeinterface 504 8, .iload 3, .iload 2, .iastore] [] [] (wr h 98 (Int32.toNatClampNeg x3) x2) (fun h14 => [(0, .ref 90), (1, .ref x1), (2, .int x2), (3, .int x3)]) (fun h14 => []) (fun h14 => h14) [kd 90 = 5, kd 98 = 20 ∧ inb x3 (ln 98)] (by decide +kernel) rfl ⟨kd_90, ⟨kd_98, g13⟩⟩ hO (fun h14 hO => ?_)
            refine rb hG 4 74 75 [.ldc_w 0] [1] [] [(0, .ref 90), (1, .ref x1), (2, .int x2), (3, .int x3)] [.int (1 : Int32)] h14 [] (by decide +kernel) rfl trivial ?_
            exact eZ hG 75 (by decide +kernel) rfl (Or.inr rfl) ⟨(1 : Int32), rfl, ok_some (Q := P) hO⟩
          · have hO := ok_neg c12 hO
            obtain ⟨g15, hO⟩ := ok_if hO
            refine rb hG 8 51 58 [.aload 0, .invokeinterface 504 8, .iload 3, .iaload, .iload 2] [] [] [(0, .ref 90), (1, .ref x1), (2, .int x2), (3, .int x3)] [.int x2, .int (h.1 98 (Int32.toNatClampNeg x3))] h [kd 90 = 5, kd 98 = 20 ∧ inb x3 (ln 98)] (by decide +kernel) rfl ⟨kd_90, ⟨kd_98, g15⟩⟩ ?_
            refine rjN hG (7) 65 58 (by decide +kernel) (by decide) (fun c16 => ?_) (fun c16 => ?_)
            · have hO := ok_pos c16 hO
              refine rb hG 5 61 66 [.ldc_w 0] [1] [] [(0, .ref 90), (1, .ref x1), (2, .int x2), (3, .int x3)] [.int (1 : Int32)] h [] (by decide +kernel) rfl trivial ?_
              refine rs hG [] [] rfl ?_
              exact j66 (1 : Int32) h hO
            · have hO := ok_neg c16 hO
              refine rb hG 4 65 66 [.ldc_w 0] [0] [] [(0, .ref 90), (1, .ref x1), (2, .int x2), (3, .int x3)] [.int (0 : Int32)] h [] (by decide +kernel) rfl trivial ?_
              refine rs hG [] [] rfl ?_
              exact j66 (0 : Int32) h hO
/-! GrainInn.Rounds.listen(LGrainInn$House;LGrainInn$Lines;I)V -/
noncomputable def N_listen_j85 (x1 : Nat) (x2 : Nat) (h : Hp) : Option Hp := (B_nightOf h 91 (h.1 91 4)).bind fun r1 => bnd (wr h 90 9 r1) fun h2 => some h2
noncomputable def N_listen_j65 (x1 : Nat) (x2 : Nat) (x3 : Int32) (x4 : Int32) (h : Hp) : Option ((Int32 × Hp) ⊕ Hp) := if kd x1 = 1 then ((H_keepsOf h x1 x3).bind fun r4 => (B_sitQuietly h 91 x4 r4).bind fun h5 => bnd ((x4 + (1 : Int32))) fun y6 => some (.inl (y6, h5))) else none
noncomputable def N_listen_b23 (x1 : Nat) (x2 : Nat) (x3 : Int32) (x4 : Int32) (h : Hp) : Option ((Int32 × Hp) ⊕ Hp) := if kd x2 = 2 then (if (h.1 x2 3) ≤ x4 then (((N_listen_j85 x1 x2 h).map Sum.inr)) else ((L_firstOf h x2 x4).bind fun r9 => (B_nightOf h 91 (h.1 91 4)).bind fun r10 => (N_listenTo h x1 r9 r10).bind fun (r11, h12) => if r11 = 0 then (bnd (wr h12 90 8 (0 : Int32)) fun h14 => (N_listen_j65 x1 x2 x3 x4 h14)) else ((N_listen_j65 x1 x2 x3 x4 h12)))) else none
noncomputable def N_listen_l23 (x1 : Nat) (x2 : Nat) (x3 : Int32) (x4 : Int32) (h : Hp) : Option Hp := lp (fun s : (Int32 × Hp) => N_listen_b23 x1 x2 x3 s.1 s.2) (x4, h)
theorem N_listen_l23_eq (x1 : Nat) (x2 : Nat) (x3 : Int32) (x4 : Int32) (h : Hp) : N_listen_l23 x1 x2 x3 x4 h = (N_listen_b23 x1 x2 x3 x4 h).bind (Sum.elim (fun q : (Int32 × Hp) => N_listen_l23 x1 x2 x3 q.1 q.2) some) := lp_eq _ _
noncomputable def N_listen (h : Hp) (x1 : Nat) (x2 : Nat) (x3 : Int32) : Option Hp := bnd (wr h 90 8 (1 : Int32)) fun h15 => (J_fill h15 98 (-1 : Int32)).bind fun h16 => (B_clear h16 91).bind fun h17 => (N_listen_l23 x1 x2 x3 (0 : Int32) h17)
set_option maxRecDepth 100000 in
set_option maxHeartbeats 4000000 in
theorem c_N_listen {E : En} {d : Nat} (h : Hp) (x1 : Nat) (x2 : Nat) (x3 : Int32) {P : Hp → Prop} (hO : Okk (N_listen h x1 x2 x3) P) : Cn E (d + 3) z_N_listen [.ref 90, .ref x1, .ref x2, .int x3] h (RV P) := by
  refine cn_of (on := 5) (d := d + 2) ⟨rfl, by decide +kernel, Nat.le_of_ble_eq_true rfl⟩ (fun G hG => ?_)
  unfold N_listen at hO
  show G 0 [(0, .ref 90), (1, .ref x1), (2, .ref x2), (3, .int x3)] [] h
  have j85 : ∀ (h : Hp), Okk (N_listen_j85 x1 x2 h) P → G 85 [(0, .ref 90)] [] h := by
    intro h hO
    unfold N_listen_j85 at hO
    refine rb hG 9 85 97 [.aload 0, .aload 0, .invokeinterface 500 1, .aload 0, .invokeinterface 500 1, .getfield 4] [] [] [(0, .ref 90)] [.int (h.1 91 4), .ref 91, .ref 90] h [kd 90 = 5, kd 90 = 5, kd 91 = 0] (by decide +kernel) rfl ⟨kd_90, kd_90, kd_91⟩ ?_
    refine rv hG z_B_nightOf 130 1 97 91 [.int (h.1 91 4)] [.ref 90] (by decide +kernel) mk_B_nightOf lk_5_130 rcv_91 rfl ⟨rfl, Nat.le_of_ble_eq_true rfl⟩ (c_B_nightOf (d := d + 1) h 91 (h.1 91 4) (ok_bind hO)) ?_
    rintro _ _ ⟨r1, rfl, rfl, hO⟩
    refine rbx hG 4 100 103 [.putfield 509] [] [] (wr h 90 9 r1) (fun h2 => [(0, .ref 90)]) (fun h2 => []) (fun h2 => h2) [kd 90 = 5] (by decide +kernel) rfl kd_90 hO (fun h2 hO => ?_)
    exact eV hG 103 (by decide +kernel) rfl ⟨rfl, ok_some (Q := P) hO⟩
  have l23 : ∀ (x4 : Int32) (h : Hp), Okk (N_listen_l23 x1 x2 x3 x4 h) P → G 23 [(0, .ref 90), (1, .ref x1), (2, .ref x2), (3, .int x3), (4, .int x4)] [] h := by
    intro x4 h hO
    obtain ⟨H23, eH23⟩ : ∃ q : (Int32 × Hp) → Prop, q = fun s => G 23 [(0, .ref 90), (1, .ref x1), (2, .ref x2), (3, .int x3), (4, .int (s.1))] [] (s.2) := ⟨_, rfl⟩
    have w9 : H23 (x4, h) := by
      refine lp_wp (f := fun s : (Int32 × Hp) => N_listen_b23 x1 x2 x3 s.1 s.2) (H := H23) (Q := P) ?_ (x4, h) hO
      rintro ⟨x4, h⟩ hO
      rw [eH23]
      show G 23 [(0, .ref 90), (1, .ref x1), (2, .ref x2), (3, .int x3), (4, .int x4)] [] h
      have k23 : ∀ s : (Int32 × Hp), H23 s → G 23 [(0, .ref 90), (1, .ref x1), (2, .ref x2), (3, .int x3), (4, .int (s.1))] [] (s.2) := fun s q => by rw [eH23] at q; exact q
      replace hO : Okk (N_listen_b23 x1 x2 x3 x4 h) (Sum.elim H23 P) := hO
      clear eH23
      have j65 : ∀ (x4 : Int32) (h : Hp), Okk (N_listen_j65 x1 x2 x3 x4 h) (Sum.elim H23 P) → G 65 [(0, .ref 90), (1, .ref x1), (2, .ref x2), (3, .int x3), (4, .int x4)] [] h := by
        intro x4 h hO
        unfold N_listen_j65 at hO
        obtain ⟨g3, hO⟩ := ok_if hO
        refine rb hG 8 65 73 [.aload 0, .invokeinterface 500 1, .iload 4, .aload 1, .iload 3] [] [] [(0, .ref 90), (1, .ref x1), (2, .ref x2), (3, .int x3), (4, .int x4)] [.int x3, .ref x1, .int x4, .ref 91] h [kd 90 = 5] (by decide +kernel) rfl kd_90 ?_
        refine rv hG z_H_keepsOf 68 1 73 x1 [.int x3] [.int x4, .ref 91] (by decide +kernel) mk_H_keepsOf lk_5_68 (rcv_H g3) rfl ⟨rfl, Nat.le_of_ble_eq_true rfl⟩ (c_H_keepsOf (d := d) h x1 x3 (ok_bind hO)) ?_
        rintro _ _ ⟨r4, rfl, rfl, hO⟩
        refine rv hG z_B_sitQuietly 92 2 76 91 [.int x4, .int r4] [] (by decide +kernel) mk_B_sitQuietly lk_5_92 rcv_91 rfl ⟨rfl, Nat.le_of_ble_eq_true rfl⟩ (c_B_sitQuietly (d := d) h 91 x4 r4 (ok_bind hO)) ?_
        rintro _ h5 ⟨rfl, hO⟩
        refine rbx hG 4 79 82 [.iinc 4 0] [1] [] ((x4 + (1 : Int32))) (fun y6 => [(4, .int y6), (0, .ref 90), (1, .ref x1), (2, .ref x2), (3, .int x3)]) (fun y6 => []) (fun y6 => h5) [] (by decide +kernel) rfl trivial hO (fun y6 hO => ?_)
        refine rb hG 4 82 23 [] [] [] [(4, .int y6), (0, .ref 90), (1, .ref x1), (2, .ref x2), (3, .int x3)] [] h5 [] (by decide +kernel) rfl trivial ?_
        refine rs hG [(0, .ref 90), (1, .ref x1), (2, .ref x2), (3, .int x3), (4, .int y6)] [1, 2, 3, 4, 0] rfl ?_
        exact k23 (y6, h5) (ok_some (Q := (Sum.elim H23 P)) hO)
      unfold N_listen_b23 at hO
      obtain ⟨g7, hO⟩ := ok_if hO
      refine rb hG 6 23 29 [.iload 4, .aload 2, .getfield 203] [] [] [(0, .ref 90), (1, .ref x1), (2, .ref x2), (3, .int x3), (4, .int x4)] [.int (h.1 x2 3), .int x4] h [kd x2 = 2] (by decide +kernel) rfl g7 ?_
      refine rj hG .ge (56) 85 29 (by decide +kernel) (by decide) (fun c8 => ?_) (fun c8 => ?_)
      · have hO := ok_pos c8 hO
        refine rs hG [(0, .ref 90)] [0] rfl ?_
        exact j85 h (ok_inr hO)
      · have hO := ok_neg c8 hO
        refine rb hG 7 32 37 [.aload 0, .aload 1, .aload 2, .iload 4] [] [] [(0, .ref 90), (1, .ref x1), (2, .ref x2), (3, .int x3), (4, .int x4)] [.int x4, .ref x2, .ref x1, .ref 90] h [] (by decide +kernel) rfl trivial ?_
        refine rv hG z_L_firstOf 127 1 37 x2 [.int x4] [.ref x1, .ref 90] (by decide +kernel) mk_L_firstOf lk_5_127 (rcv_L g7) rfl ⟨rfl, Nat.le_of_ble_eq_true rfl⟩ (c_L_firstOf (d := d) h x2 x4 (ok_bind hO)) ?_
        rintro _ _ ⟨r9, rfl, rfl, hO⟩
        refine rb hG 8 40 51 [.aload 0, .invokeinterface 500 1, .aload 0, .invokeinterface 500 1, .getfield 4] [] [] [(0, .ref 90), (1, .ref x1), (2, .ref x2), (3, .int x3), (4, .int x4)] [.int (h.1 91 4), .ref 91, .int r9, .ref x1, .ref 90] h [kd 90 = 5, kd 90 = 5, kd 91 = 0] (by decide +kernel) rfl ⟨kd_90, kd_90, kd_91⟩ ?_
        refine rv hG z_B_nightOf 130 1 51 91 [.int (h.1 91 4)] [.int r9, .ref x1, .ref 90] (by decide +kernel) mk_B_nightOf lk_5_130 rcv_91 rfl ⟨rfl, Nat.le_of_ble_eq_true rfl⟩ (c_B_nightOf (d := d + 1) h 91 (h.1 91 4) (ok_bind hO)) ?_
        rintro _ _ ⟨r10, rfl, rfl, hO⟩
        refine rv hG z_N_listenTo 133 3 54 90 [.ref x1, .int r9, .int r10] [] (by decide +kernel) mk_N_listenTo lk_5_133 rcv_90 rfl ⟨rfl, Nat.le_of_ble_eq_true rfl⟩ (c_N_listenTo (d := d) h x1 r9 r10 (ok_bind hO)) ?_
        rintro _ h12 ⟨r11, rfl, hO⟩
        refine riN hG (8) 65 57 (by decide +kernel) (by decide) (fun c13 => ?_) (fun c13 => ?_)
        · have hO := ok_pos c13 hO
          refine rbx hG 6 60 65 [.aload 0, .ldc_w 0, .checkcast 508] [0] [] (wr h12 90 8 (0 : Int32)) (fun h14 => [(0, .ref 90), (1, .ref x1), (2, .ref x2), (3, .int x3), (4, .int x4)]) (fun h14 => []) (fun h14 => h14) [kd 90 = 5 ∧ ((0 : Int32) = 0 ∨ (0 : Int32) = 1)] (by decide +kernel) rfl ⟨kd_90, Or.inl rfl⟩ hO (fun h14 hO => ?_)
          exact j65 x4 h14 hO
        · have hO := ok_neg c13 hO
          exact j65 x4 h12 hO
    rw [eH23] at w9
    exact w9
  refine rbx hG 6 0 5 [.aload 0, .ldc_w 0, .checkcast 508] [1] [] (wr h 90 8 (1 : Int32)) (fun h15 => [(0, .ref 90), (1, .ref x1), (2, .ref x2), (3, .int x3)]) (fun h15 => []) (fun h15 => h15) [kd 90 = 5 ∧ ((1 : Int32) = 0 ∨ (1 : Int32) = 1)] (by decide +kernel) rfl ⟨kd_90, Or.inr rfl⟩ hO (fun h15 hO => ?_)
  refine rb hG 6 5 10 [.aload 0, .invokeinterface 504 8, .ldc_w 0] [-1] [] [(0, .ref 90), (1, .ref x1), (2, .ref x2), (3, .int x3)] [.int (-1 : Int32), .ref 98] h15 [kd 90 = 5] (by decide +kernel) rfl kd_90 ?_
  refine rt hG z_J_fill 112 2 10 [.ref 98, .int (-1 : Int32)] [] (by decide +kernel) mk_J_fill lk_5_112 rfl ⟨rfl, Nat.le_of_ble_eq_true rfl⟩ (c_J_fill (d := d + 1) h15 98 (-1 : Int32) (ok_bind hO)) ?_
  rintro _ h16 ⟨rfl, hO⟩
  refine rb hG 5 13 17 [.aload 0, .invokeinterface 500 1] [] [] [(0, .ref 90), (1, .ref x1), (2, .ref x2), (3, .int x3)] [.ref 91] h16 [kd 90 = 5] (by decide +kernel) rfl kd_90 ?_
  refine rv hG z_B_clear 54 0 17 91 [] [] (by decide +kernel) mk_B_clear lk_5_54 rcv_91 rfl ⟨rfl, Nat.le_of_ble_eq_true rfl⟩ (c_B_clear (d := d + 1) h16 91 (ok_bind hO)) ?_
  rintro _ h17 ⟨rfl, hO⟩
  refine rb hG 5 20 23 [.ldc_w 0, .istore 4] [0] [] [(4, .int (0 : Int32)), (0, .ref 90), (1, .ref x1), (2, .ref x2), (3, .int x3)] [] h17 [] (by decide +kernel) rfl trivial ?_
  refine rs hG [(0, .ref 90), (1, .ref x1), (2, .ref x2), (3, .int x3), (4, .int (0 : Int32))] [1, 2, 3, 4, 0] rfl ?_
  exact l23 (0 : Int32) h17 hO
/-! GrainInn.Rounds.fittingRows(II)I -/
noncomputable def N_fittingRows_j54 (x3 : Int32) (h : Hp) : Option Int32 := some x3
noncomputable def N_fittingRows_j46 (x1 : Int32) (x2 : Int32) (x4 : Int32) (s0 : Int32) (s1 : Int32) (h : Hp) : Option ((Int32 × Int32) ⊕ Int32) := bnd ((s0 * s1)) fun y1 => bnd ((x4 + (1 : Int32))) fun y2 => some (.inl (y1, y2))
noncomputable def N_fittingRows_b16 (x1 : Int32) (x2 : Int32) (x3 : Int32) (x4 : Int32) (h : Hp) : Option ((Int32 × Int32) ⊕ Int32) := if x2 ≤ x4 then (((N_fittingRows_j54 x3 h).map Sum.inr)) else (if (7 : Int32) ≤ x4 then (((N_fittingRows_j54 x3 h).map Sum.inr)) else (if inb x4 (ln 98) then (if (h.1 98 (Int32.toNatClampNeg x4)) = (-1 : Int32) then ((N_fittingRows_j46 x1 x2 x4 x3 x1 h)) else ((N_fittingRows_j46 x1 x2 x4 x3 (1 : Int32) h))) else none))
noncomputable def N_fittingRows_l16 (x1 : Int32) (x2 : Int32) (x3 : Int32) (x4 : Int32) (h : Hp) : Option Int32 := lp (fun s : (Int32 × Int32) => N_fittingRows_b16 x1 x2 s.1 s.2 h) (x3, x4)
theorem N_fittingRows_l16_eq (x1 : Int32) (x2 : Int32) (x3 : Int32) (x4 : Int32) (h : Hp) : N_fittingRows_l16 x1 x2 x3 x4 h = (N_fittingRows_b16 x1 x2 x3 x4 h).bind (Sum.elim (fun q : (Int32 × Int32) => N_fittingRows_l16 x1 x2 q.1 q.2 h) some) := lp_eq _ _
noncomputable def N_fittingRows_j12 (x1 : Int32) (x2 : Int32) (s0 : Int32) (h : Hp) : Option Int32 := (N_fittingRows_l16 x1 x2 s0 (0 : Int32) h)
noncomputable def N_fittingRows (h : Hp) (x1 : Int32) (x2 : Int32) : Option Int32 := if (h.1 90 8) = 0 then ((N_fittingRows_j12 x1 x2 (0 : Int32) h)) else ((N_fittingRows_j12 x1 x2 (1 : Int32) h))
set_option maxRecDepth 100000 in
set_option maxHeartbeats 4000000 in
theorem c_N_fittingRows {E : En} {d : Nat} (h : Hp) (x1 : Int32) (x2 : Int32) {P : Int32 → Prop} (hO : Okk (N_fittingRows h x1 x2) P) : Cn E (d + 1) z_N_fittingRows [.ref 90, .int x1, .int x2] h (RIp h P) := by
  refine cn_of (on := 5) (d := d + 0) ⟨rfl, by decide +kernel, Nat.le_of_ble_eq_true rfl⟩ (fun G hG => ?_)
  unfold N_fittingRows at hO
  show G 0 [(0, .ref 90), (1, .int x1), (2, .int x2)] [] h
  have j54 : ∀ (x3 : Int32), Okk (N_fittingRows_j54 x3 h) P → G 54 [(3, .int x3)] [] h := by
    intro x3 hO
    unfold N_fittingRows_j54 at hO
    refine rb hG 4 54 55 [.iload 3] [] [] [(3, .int x3)] [.int x3] h [] (by decide +kernel) rfl trivial ?_
    exact eI hG 55 (by decide +kernel) rfl ⟨x3, rfl, rfl, ok_some (Q := P) hO⟩
  have l16 : ∀ (x3 : Int32) (x4 : Int32), Okk (N_fittingRows_l16 x1 x2 x3 x4 h) P → G 16 [(0, .ref 90), (1, .int x1), (2, .int x2), (3, .int x3), (4, .int x4)] [] h := by
    intro x3 x4 hO
    obtain ⟨H16, eH16⟩ : ∃ q : (Int32 × Int32) → Prop, q = fun s => G 16 [(0, .ref 90), (1, .int x1), (2, .int x2), (3, .int (s.1)), (4, .int (s.2))] [] (h) := ⟨_, rfl⟩
    have w9 : H16 (x3, x4) := by
      refine lp_wp (f := fun s : (Int32 × Int32) => N_fittingRows_b16 x1 x2 s.1 s.2 h) (H := H16) (Q := P) ?_ (x3, x4) hO
      rintro ⟨x3, x4⟩ hO
      rw [eH16]
      show G 16 [(0, .ref 90), (1, .int x1), (2, .int x2), (3, .int x3), (4, .int x4)] [] h
      have k16 : ∀ s : (Int32 × Int32), H16 s → G 16 [(0, .ref 90), (1, .int x1), (2, .int x2), (3, .int (s.1)), (4, .int (s.2))] [] (h) := fun s q => by rw [eH16] at q; exact q
      replace hO : Okk (N_fittingRows_b16 x1 x2 x3 x4 h) (Sum.elim H16 P) := hO
      clear eH16
      have j46 : ∀ (x4 : Int32) (s0 : Int32) (s1 : Int32), Okk (N_fittingRows_j46 x1 x2 x4 s0 s1 h) (Sum.elim H16 P) → G 46 [(0, .ref 90), (1, .int x1), (2, .int x2), (4, .int x4)] [.int s1, .int s0] h := by
        intro x4 s0 s1 hO
        unfold N_fittingRows_j46 at hO
        refine rbx hG 5 46 48 [.imul, .istore 3] [] [] ((s0 * s1)) (fun y1 => [(3, .int y1), (0, .ref 90), (1, .int x1), (2, .int x2), (4, .int x4)]) (fun y1 => []) (fun y1 => h) [] (by decide +kernel) rfl trivial hO (fun y1 hO => ?_)
        refine rbx hG 4 48 51 [.iinc 4 0] [1] [] ((x4 + (1 : Int32))) (fun y2 => [(4, .int y2), (3, .int y1), (0, .ref 90), (1, .int x1), (2, .int x2)]) (fun y2 => []) (fun y2 => h) [] (by decide +kernel) rfl trivial hO (fun y2 hO => ?_)
        refine rb hG 4 51 16 [] [] [] [(4, .int y2), (3, .int y1), (0, .ref 90), (1, .int x1), (2, .int x2)] [] h [] (by decide +kernel) rfl trivial ?_
        refine rs hG [(0, .ref 90), (1, .int x1), (2, .int x2), (3, .int y1), (4, .int y2)] [2, 3, 4, 1, 0] rfl ?_
        exact k16 (y1, y2) (ok_some (Q := (Sum.elim H16 P)) hO)
      unfold N_fittingRows_b16 at hO
      refine rb hG 5 16 19 [.iload 4, .iload 2] [] [] [(0, .ref 90), (1, .int x1), (2, .int x2), (3, .int x3), (4, .int x4)] [.int x2, .int x4] h [] (by decide +kernel) rfl trivial ?_
      refine rj hG .ge (35) 54 19 (by decide +kernel) (by decide) (fun c3 => ?_) (fun c3 => ?_)
      · have hO := ok_pos c3 hO
        refine rs hG [(3, .int x3)] [3] rfl ?_
        exact j54 x3 (ok_inr hO)
      · have hO := ok_neg c3 hO
        refine rb hG 5 22 26 [.iload 4, .ldc_w 0] [7] [] [(0, .ref 90), (1, .int x1), (2, .int x2), (3, .int x3), (4, .int x4)] [.int (7 : Int32), .int x4] h [] (by decide +kernel) rfl trivial ?_
        refine rj hG .ge (28) 54 26 (by decide +kernel) (by decide) (fun c4 => ?_) (fun c4 => ?_)
        · have hO := ok_pos c4 hO
          refine rs hG [(3, .int x3)] [3] rfl ?_
          exact j54 x3 (ok_inr hO)
        · have hO := ok_neg c4 hO
          obtain ⟨g5, hO⟩ := ok_if hO
          refine rb hG 9 29 38 [.iload 3, .aload 0, .invokeinterface 504 8, .iload 4, .iaload, .ldc_w 0] [-1] [] [(0, .ref 90), (1, .int x1), (2, .int x2), (3, .int x3), (4, .int x4)] [.int (-1 : Int32), .int (h.1 98 (Int32.toNatClampNeg x4)), .int x3] h [kd 90 = 5, kd 98 = 20 ∧ inb x4 (ln 98)] (by decide +kernel) rfl ⟨kd_90, ⟨kd_98, g5⟩⟩ ?_
          refine rjN hG (7) 45 38 (by decide +kernel) (by decide) (fun c6 => ?_) (fun c6 => ?_)
          · have hO := ok_pos c6 hO
            refine rb hG 5 41 46 [.iload 1] [] [] [(0, .ref 90), (1, .int x1), (2, .int x2), (3, .int x3), (4, .int x4)] [.int x1, .int x3] h [] (by decide +kernel) rfl trivial ?_
            refine rs hG [(0, .ref 90), (1, .int x1), (2, .int x2), (4, .int x4)] [0, 1, 2, 4] rfl ?_
            exact j46 x4 x3 x1 hO
          · have hO := ok_neg c6 hO
            refine rb hG 4 45 46 [.ldc_w 0] [1] [] [(0, .ref 90), (1, .int x1), (2, .int x2), (3, .int x3), (4, .int x4)] [.int (1 : Int32), .int x3] h [] (by decide +kernel) rfl trivial ?_
            refine rs hG [(0, .ref 90), (1, .int x1), (2, .int x2), (4, .int x4)] [0, 1, 2, 4] rfl ?_
            exact j46 x4 x3 (1 : Int32) hO
    rw [eH16] at w9
    exact w9
  have j12 : ∀ (s0 : Int32), Okk (N_fittingRows_j12 x1 x2 s0 h) P → G 12 [(0, .ref 90), (1, .int x1), (2, .int x2)] [.int s0] h := by
    intro s0 hO
    unfold N_fittingRows_j12 at hO
    refine rb hG 6 12 16 [.istore 3, .ldc_w 0, .istore 4] [0] [] [(4, .int (0 : Int32)), (3, .int s0), (0, .ref 90), (1, .int x1), (2, .int x2)] [] h [] (by decide +kernel) rfl trivial ?_
    refine rs hG [(0, .ref 90), (1, .int x1), (2, .int x2), (3, .int s0), (4, .int (0 : Int32))] [2, 3, 4, 1, 0] rfl ?_
    exact l16 s0 (0 : Int32) hO
  refine rb hG 5 0 4 [.aload 0, .getfield 508] [] [] [(0, .ref 90), (1, .int x1), (2, .int x2)] [.int (h.1 90 8)] h [kd 90 = 5] (by decide +kernel) rfl kd_90 ?_
  refine ri hG .eq (7) 11 4 (by decide +kernel) (by decide) (fun c7 => ?_) (fun c7 => ?_)
  · have hO := ok_pos c7 hO
    refine rb hG 4 11 12 [.ldc_w 0] [0] [] [(0, .ref 90), (1, .int x1), (2, .int x2)] [.int (0 : Int32)] h [] (by decide +kernel) rfl trivial ?_
    exact j12 (0 : Int32) hO
  · have hO := ok_neg c7 hO
    refine rb hG 5 7 12 [.ldc_w 0] [1] [] [(0, .ref 90), (1, .int x1), (2, .int x2)] [.int (1 : Int32)] h [] (by decide +kernel) rfl trivial ?_
    exact j12 (1 : Int32) hO
/-! GrainInn.Rounds.tellable(I)I -/
noncomputable def N_tellable_j20 (h : Hp) : Option Int32 := some (0 : Int32)
noncomputable def N_tellable_j40 (s0 : Int32) (h : Hp) : Option Int32 := some s0
noncomputable def N_tellable (h : Hp) (x1 : Int32) : Option Int32 := if (h.1 90 8) = 0 then ((N_tellable_j20 h)) else ((K_isOf (h.1 90 9) (0 : Int32) (7 : Int32)).bind fun r2 => if r2 = 0 then ((N_tellable_j20 h)) else (if inb (h.1 90 9) (ln 98) then (if (h.1 98 (Int32.toNatClampNeg (h.1 90 9))) = (-1 : Int32) then ((N_tellable_j40 x1 h)) else ((N_tellable_j40 (1 : Int32) h))) else none))
set_option maxRecDepth 100000 in
set_option maxHeartbeats 4000000 in
theorem c_N_tellable {E : En} {d : Nat} (h : Hp) (x1 : Int32) {P : Int32 → Prop} (hO : Okk (N_tellable h x1) P) : Cn E (d + 2) z_N_tellable [.ref 90, .int x1] h (RIp h P) := by
  refine cn_of (on := 5) (d := d + 1) ⟨rfl, by decide +kernel, Nat.le_of_ble_eq_true rfl⟩ (fun G hG => ?_)
  unfold N_tellable at hO
  show G 0 [(0, .ref 90), (1, .int x1)] [] h
  have j20 : Okk (N_tellable_j20 h) P → G 20 [] [] h := by
    intro hO
    unfold N_tellable_j20 at hO
    refine rb hG 4 20 21 [.ldc_w 0] [0] [] [] [.int (0 : Int32)] h [] (by decide +kernel) rfl trivial ?_
    exact eI hG 21 (by decide +kernel) rfl ⟨(0 : Int32), rfl, rfl, ok_some (Q := P) hO⟩
  have j40 : ∀ (s0 : Int32), Okk (N_tellable_j40 s0 h) P → G 40 [] [.int s0] h := by
    intro s0 hO
    unfold N_tellable_j40 at hO
    exact eI hG 40 (by decide +kernel) rfl ⟨s0, rfl, rfl, ok_some (Q := P) hO⟩
  refine rb hG 5 0 4 [.aload 0, .getfield 508] [] [] [(0, .ref 90), (1, .int x1)] [.int (h.1 90 8)] h [kd 90 = 5] (by decide +kernel) rfl kd_90 ?_
  refine ri hG .eq (16) 20 4 (by decide +kernel) (by decide) (fun c1 => ?_) (fun c1 => ?_)
  · have hO := ok_pos c1 hO
    refine rs hG [] [] rfl ?_
    exact j20 hO
  · have hO := ok_neg c1 hO
    refine rb hG 7 7 14 [.aload 0, .getfield 509, .ldc_w 0, .ldc_w 1] [0, 7] [] [(0, .ref 90), (1, .int x1)] [.int (7 : Int32), .int (0 : Int32), .int (h.1 90 9)] h [kd 90 = 5] (by decide +kernel) rfl kd_90 ?_
    refine rt hG z_K_isOf 118 3 14 [.int (h.1 90 9), .int (0 : Int32), .int (7 : Int32)] [] (by decide +kernel) mk_K_isOf lk_5_118 rfl ⟨rfl, Nat.le_of_ble_eq_true rfl⟩ (c_K_isOf (d := d) h (h.1 90 9) (0 : Int32) (7 : Int32) (ok_bind hO)) ?_
    rintro _ _ ⟨r2, rfl, rfl, hO⟩
    refine riN hG (5) 22 17 (by decide +kernel) (by decide) (fun c3 => ?_) (fun c3 => ?_)
    · have hO := ok_pos c3 hO
      refine rs hG [] [] rfl ?_
      exact j20 hO
    · have hO := ok_neg c3 hO
      obtain ⟨g4, hO⟩ := ok_if hO
      refine rb hG 9 22 32 [.aload 0, .invokeinterface 504 8, .aload 0, .getfield 509, .iaload, .ldc_w 0] [-1] [] [(0, .ref 90), (1, .int x1)] [.int (-1 : Int32), .int (h.1 98 (Int32.toNatClampNeg (h.1 90 9)))] h [kd 90 = 5, kd 90 = 5, kd 98 = 20 ∧ inb (h.1 90 9) (ln 98)] (by decide +kernel) rfl ⟨kd_90, kd_90, ⟨kd_98, g4⟩⟩ ?_
      refine rjN hG (7) 39 32 (by decide +kernel) (by decide) (fun c5 => ?_) (fun c5 => ?_)
      · have hO := ok_pos c5 hO
        refine rb hG 5 35 40 [.iload 1] [] [] [(0, .ref 90), (1, .int x1)] [.int x1] h [] (by decide +kernel) rfl trivial ?_
        refine rs hG [] [] rfl ?_
        exact j40 x1 hO
      · have hO := ok_neg c5 hO
        refine rb hG 4 39 40 [.ldc_w 0] [1] [] [(0, .ref 90), (1, .int x1)] [.int (1 : Int32)] h [] (by decide +kernel) rfl trivial ?_
        refine rs hG [] [] rfl ?_
        exact j40 (1 : Int32) hO
/-! GrainInn.Rounds.sureOf(II)I -/
noncomputable def N_sureOf_j17 (h : Hp) : Option Int32 := some (-1 : Int32)
noncomputable def N_sureOf_j44 (s0 : Int32) (h : Hp) : Option Int32 := some s0
noncomputable def N_sureOf_j38 (x1 : Int32) (h : Hp) : Option Int32 := if inb x1 (ln 98) then ((N_sureOf_j44 (h.1 98 (Int32.toNatClampNeg x1)) h)) else none
noncomputable def N_sureOf (h : Hp) (x1 : Int32) (x2 : Int32) : Option Int32 := if (h.1 90 8) = 0 then ((N_sureOf_j17 h)) else ((K_isOf x1 (0 : Int32) (7 : Int32)).bind fun r3 => if r3 = 0 then ((N_sureOf_j17 h)) else (if inb x1 (ln 98) then (if (h.1 98 (Int32.toNatClampNeg x1)) = (-1 : Int32) then (if x2 = (1 : Int32) then ((N_sureOf_j44 (0 : Int32) h)) else ((N_sureOf_j38 x1 h))) else ((N_sureOf_j38 x1 h))) else none))
set_option maxRecDepth 100000 in
set_option maxHeartbeats 4000000 in
theorem c_N_sureOf {E : En} {d : Nat} (h : Hp) (x1 : Int32) (x2 : Int32) {P : Int32 → Prop} (hO : Okk (N_sureOf h x1 x2) P) : Cn E (d + 2) z_N_sureOf [.ref 90, .int x1, .int x2] h (RIp h P) := by
  refine cn_of (on := 5) (d := d + 1) ⟨rfl, by decide +kernel, Nat.le_of_ble_eq_true rfl⟩ (fun G hG => ?_)
  unfold N_sureOf at hO
  show G 0 [(0, .ref 90), (1, .int x1), (2, .int x2)] [] h
  have j17 : Okk (N_sureOf_j17 h) P → G 17 [] [] h := by
    intro hO
    unfold N_sureOf_j17 at hO
    refine rb hG 4 17 18 [.ldc_w 0] [-1] [] [] [.int (-1 : Int32)] h [] (by decide +kernel) rfl trivial ?_
    exact eI hG 18 (by decide +kernel) rfl ⟨(-1 : Int32), rfl, rfl, ok_some (Q := P) hO⟩
  have j44 : ∀ (s0 : Int32), Okk (N_sureOf_j44 s0 h) P → G 44 [] [.int s0] h := by
    intro s0 hO
    unfold N_sureOf_j44 at hO
    exact eI hG 44 (by decide +kernel) rfl ⟨s0, rfl, rfl, ok_some (Q := P) hO⟩
  have j38 : Okk (N_sureOf_j38 x1 h) P → G 38 [(0, .ref 90), (1, .int x1)] [] h := by
    intro hO
    unfold N_sureOf_j38 at hO
    obtain ⟨g1, hO⟩ := ok_if hO
    refine rb hG 7 38 44 [.aload 0, .invokeinterface 504 8, .iload 1, .iaload] [] [] [(0, .ref 90), (1, .int x1)] [.int (h.1 98 (Int32.toNatClampNeg x1))] h [kd 90 = 5, kd 98 = 20 ∧ inb x1 (ln 98)] (by decide +kernel) rfl ⟨kd_90, ⟨kd_98, g1⟩⟩ ?_
    refine rs hG [] [] rfl ?_
    exact j44 (h.1 98 (Int32.toNatClampNeg x1)) hO
  refine rb hG 5 0 4 [.aload 0, .getfield 508] [] [] [(0, .ref 90), (1, .int x1), (2, .int x2)] [.int (h.1 90 8)] h [kd 90 = 5] (by decide +kernel) rfl kd_90 ?_
  refine ri hG .eq (13) 17 4 (by decide +kernel) (by decide) (fun c2 => ?_) (fun c2 => ?_)
  · have hO := ok_pos c2 hO
    refine rs hG [] [] rfl ?_
    exact j17 hO
  · have hO := ok_neg c2 hO
    refine rb hG 6 7 11 [.iload 1, .ldc_w 0, .ldc_w 1] [0, 7] [] [(0, .ref 90), (1, .int x1), (2, .int x2)] [.int (7 : Int32), .int (0 : Int32), .int x1] h [] (by decide +kernel) rfl trivial ?_
    refine rt hG z_K_isOf 118 3 11 [.int x1, .int (0 : Int32), .int (7 : Int32)] [] (by decide +kernel) mk_K_isOf lk_5_118 rfl ⟨rfl, Nat.le_of_ble_eq_true rfl⟩ (c_K_isOf (d := d) h x1 (0 : Int32) (7 : Int32) (ok_bind hO)) ?_
    rintro _ _ ⟨r3, rfl, rfl, hO⟩
    refine riN hG (5) 19 14 (by decide +kernel) (by decide) (fun c4 => ?_) (fun c4 => ?_)
    · have hO := ok_pos c4 hO
      refine rs hG [] [] rfl ?_
      exact j17 hO
    · have hO := ok_neg c4 hO
      obtain ⟨g5, hO⟩ := ok_if hO
      refine rb hG 8 19 26 [.aload 0, .invokeinterface 504 8, .iload 1, .iaload, .ldc_w 0] [-1] [] [(0, .ref 90), (1, .int x1), (2, .int x2)] [.int (-1 : Int32), .int (h.1 98 (Int32.toNatClampNeg x1))] h [kd 90 = 5, kd 98 = 20 ∧ inb x1 (ln 98)] (by decide +kernel) rfl ⟨kd_90, ⟨kd_98, g5⟩⟩ ?_
      refine rjN hG (12) 38 26 (by decide +kernel) (by decide) (fun c6 => ?_) (fun c6 => ?_)
      · have hO := ok_pos c6 hO
        refine rb hG 5 29 31 [.iload 2, .ldc_w 0] [1] [] [(0, .ref 90), (1, .int x1), (2, .int x2)] [.int (1 : Int32), .int x2] h [] (by decide +kernel) rfl trivial ?_
        refine rjN hG (7) 38 31 (by decide +kernel) (by decide) (fun c7 => ?_) (fun c7 => ?_)
        · have hO := ok_pos c7 hO
          refine rb hG 5 34 44 [.ldc_w 0] [0] [] [(0, .ref 90), (1, .int x1), (2, .int x2)] [.int (0 : Int32)] h [] (by decide +kernel) rfl trivial ?_
          refine rs hG [] [] rfl ?_
          exact j44 (0 : Int32) hO
        · have hO := ok_neg c7 hO
          refine rs hG [(0, .ref 90), (1, .int x1)] [0, 1] rfl ?_
          exact j38 hO
      · have hO := ok_neg c6 hO
        refine rs hG [(0, .ref 90), (1, .int x1)] [0, 1] rfl ?_
        exact j38 hO
/-! GrainInn.fits(IIII)I -/
noncomputable def K_fits_j40 (h : Hp) : Option (Int32 × Hp) := some ((-1 : Int32), h)
noncomputable def K_fits_j132 (s0 : Int32) (h : Hp) : Option (Int32 × Hp) := some (s0, h)
noncomputable def K_fits (h : Hp) (x1 : Int32) (x2 : Int32) (x3 : Int32) (x4 : Int32) : Option (Int32 × Hp) := (D_innAt h 2 x1).bind fun r1 => (D_linesAt h 2 (3 : Int32) x2).bind fun r2 => if r1 = 0 then ((K_fits_j40 h)) else (if r2 = 0 then ((K_fits_j40 h)) else (if kd r1 = 1 then ((H_hasTable h r1 x3).bind fun r6 => if r6 = 0 then ((K_fits_j40 h)) else ((N_listen h r1 r2 x3).bind fun h8 => if x4 = 0 then (if kd r2 = 2 then ((N_fittingRows h8 (h8.1 r1 6) (h8.1 r2 3)).bind fun r11 => some (r11, h8)) else none) else (if x4 = (1 : Int32) then ((N_tellable h8 (h8.1 r1 6)).bind fun r13 => some (r13, h8)) else (if kd r2 = 2 then ((K_isOf x4 (10 : Int32) (h8.1 r2 3)).bind fun r15 => if r15 = 0 then ((K_fits_j132 (-1 : Int32) h8)) else ((N_sureOf h8 (x4 - (10 : Int32)) (h8.1 r1 6)).bind fun r17 => (K_fits_j132 r17 h8))) else none)))) else none))
set_option maxRecDepth 100000 in
set_option maxHeartbeats 4000000 in
theorem c_K_fits {E : En} {d : Nat} (h : Hp) (x1 : Int32) (x2 : Int32) (x3 : Int32) (x4 : Int32) {P : (Int32 × Hp) → Prop} (hO : Okk (K_fits h x1 x2 x3 x4) P) : Cn E (d + 5) z_K_fits [.ref 1, .int x1, .int x2, .int x3, .int x4] h (RI P) := by
  refine cn_of (on := 11) (d := d + 4) ⟨rfl, by decide +kernel, Nat.le_of_ble_eq_true rfl⟩ (fun G hG => ?_)
  unfold K_fits at hO
  show G 0 [(0, .ref 1), (1, .int x1), (2, .int x2), (3, .int x3), (4, .int x4)] [] h
  have j40 : ∀ (h : Hp), Okk (K_fits_j40 h) P → G 40 [] [] h := by
    intro h hO
    unfold K_fits_j40 at hO
    refine rb hG 4 40 41 [.ldc_w 0] [-1] [] [] [.int (-1 : Int32)] h [] (by decide +kernel) rfl trivial ?_
    exact eI hG 41 (by decide +kernel) rfl ⟨(-1 : Int32), rfl, ok_some (Q := P) hO⟩
  have j132 : ∀ (s0 : Int32) (h : Hp), Okk (K_fits_j132 s0 h) P → G 132 [] [.int s0] h := by
    intro s0 h hO
    unfold K_fits_j132 at hO
    exact eI hG 132 (by decide +kernel) rfl ⟨s0, rfl, ok_some (Q := P) hO⟩
  refine rb hG 6 0 5 [.aload 0, .invokeinterface 1100 1, .iload 1] [] [] [(0, .ref 1), (1, .int x1), (2, .int x2), (3, .int x3), (4, .int x4)] [.int x1, .ref 2] h [kd 1 = 11] (by decide +kernel) rfl kd_1 ?_
  refine rv hG z_D_innAt 107 1 5 2 [.int x1] [] (by decide +kernel) mk_D_innAt lk_11_107 rcv_2 rfl ⟨rfl, Nat.le_of_ble_eq_true rfl⟩ (c_D_innAt (d := d) h 2 x1 (ok_bind hO)) ?_
  rintro _ _ ⟨r1, rfl, rfl, hO⟩
  refine rb hG 8 8 16 [.astore 5, .aload 0, .invokeinterface 1100 1, .ldc_w 0, .iload 2] [3] [] [(5, .ref r1), (0, .ref 1), (1, .int x1), (2, .int x2), (3, .int x3), (4, .int x4)] [.int x2, .int (3 : Int32), .ref 2] h [kd 1 = 11] (by decide +kernel) rfl kd_1 ?_
  refine rv hG z_D_linesAt 138 2 16 2 [.int (3 : Int32), .int x2] [] (by decide +kernel) mk_D_linesAt lk_11_138 rcv_2 rfl ⟨rfl, Nat.le_of_ble_eq_true rfl⟩ (c_D_linesAt (d := d) h 2 (3 : Int32) x2 (ok_bind hO)) ?_
  rintro _ _ ⟨r2, rfl, rfl, hO⟩
  refine rb hG 5 19 23 [.astore 6, .aload 5] [] [] [(6, .ref r2), (5, .ref r1), (0, .ref 1), (1, .int x1), (2, .int x2), (3, .int x3), (4, .int x4)] [.ref r1] h [] (by decide +kernel) rfl trivial ?_
  refine rn hG (17) 40 23 (by decide +kernel) (by decide) (fun c3 => ?_) (fun c3 => ?_)
  · have hO := ok_pos c3 hO
    refine rs hG [] [] rfl ?_
    exact j40 h hO
  · have hO := ok_neg c3 hO
    refine rb hG 4 26 28 [.aload 6] [] [] [(6, .ref r2), (5, .ref r1), (0, .ref 1), (1, .int x1), (2, .int x2), (3, .int x3), (4, .int x4)] [.ref r2] h [] (by decide +kernel) rfl trivial ?_
    refine rn hG (12) 40 28 (by decide +kernel) (by decide) (fun c4 => ?_) (fun c4 => ?_)
    · have hO := ok_pos c4 hO
      refine rs hG [] [] rfl ?_
      exact j40 h hO
    · have hO := ok_neg c4 hO
      obtain ⟨g5, hO⟩ := ok_if hO
      refine rb hG 5 31 34 [.aload 5, .iload 3] [] [] [(6, .ref r2), (5, .ref r1), (0, .ref 1), (1, .int x1), (2, .int x2), (3, .int x3), (4, .int x4)] [.int x3, .ref r1] h [] (by decide +kernel) rfl trivial ?_
      refine rv hG z_H_hasTable 245 1 34 r1 [.int x3] [] (by decide +kernel) mk_H_hasTable lk_11_245 (rcv_H g5) rfl ⟨rfl, Nat.le_of_ble_eq_true rfl⟩ (c_H_hasTable (d := d + 3) h r1 x3 (ok_bind hO)) ?_
      rintro _ _ ⟨r6, rfl, rfl, hO⟩
      refine riN hG (5) 42 37 (by decide +kernel) (by decide) (fun c7 => ?_) (fun c7 => ?_)
      · have hO := ok_pos c7 hO
        refine rs hG [] [] rfl ?_
        exact j40 h hO
      · have hO := ok_neg c7 hO
        refine rb hG 8 42 51 [.aload 0, .invokeinterface 1105 89, .aload 5, .aload 6, .iload 3] [] [] [(6, .ref r2), (5, .ref r1), (0, .ref 1), (1, .int x1), (2, .int x2), (3, .int x3), (4, .int x4)] [.int x3, .ref r2, .ref r1, .ref 90] h [kd 1 = 11] (by decide +kernel) rfl kd_1 ?_
        refine rv hG z_N_listen 279 3 51 90 [.ref r1, .ref r2, .int x3] [] (by decide +kernel) mk_N_listen lk_11_279 rcv_90 rfl ⟨rfl, Nat.le_of_ble_eq_true rfl⟩ (c_N_listen (d := d + 1) h r1 r2 x3 (ok_bind hO)) ?_
        rintro _ h8 ⟨rfl, hO⟩
        refine rb hG 4 54 56 [.iload 4] [] [] [(6, .ref r2), (5, .ref r1), (0, .ref 1), (1, .int x1), (2, .int x2), (3, .int x3), (4, .int x4)] [.int x4] h8 [] (by decide +kernel) rfl trivial ?_
        refine riN hG (21) 77 56 (by decide +kernel) (by decide) (fun c9 => ?_) (fun c9 => ?_)
        · have hO := ok_pos c9 hO
          obtain ⟨g10, hO⟩ := ok_if hO
          refine rb hG 9 59 73 [.aload 0, .invokeinterface 1105 89, .aload 5, .getfield 106, .aload 6, .getfield 203] [] [] [(6, .ref r2), (5, .ref r1), (0, .ref 1), (1, .int x1), (2, .int x2), (3, .int x3), (4, .int x4)] [.int (h8.1 r2 3), .int (h8.1 r1 6), .ref 90] h8 [kd 1 = 11, kd r1 = 1, kd r2 = 2] (by decide +kernel) rfl ⟨kd_1, g5, g10⟩ ?_
          refine rv hG z_N_fittingRows 283 2 73 90 [.int (h8.1 r1 6), .int (h8.1 r2 3)] [] (by decide +kernel) mk_N_fittingRows lk_11_283 rcv_90 rfl ⟨rfl, Nat.le_of_ble_eq_true rfl⟩ (c_N_fittingRows (d := d + 3) h8 (h8.1 r1 6) (h8.1 r2 3) (ok_bind hO)) ?_
          rintro _ _ ⟨r11, rfl, rfl, hO⟩
          exact eI hG 76 (by decide +kernel) rfl ⟨r11, rfl, ok_some (Q := P) hO⟩
        · have hO := ok_neg c9 hO
          refine rb hG 5 77 80 [.iload 4, .ldc_w 0] [1] [] [(6, .ref r2), (5, .ref r1), (0, .ref 1), (1, .int x1), (2, .int x2), (3, .int x3), (4, .int x4)] [.int (1 : Int32), .int x4] h8 [] (by decide +kernel) rfl trivial ?_
          refine rjN hG (16) 96 80 (by decide +kernel) (by decide) (fun c12 => ?_) (fun c12 => ?_)
          · have hO := ok_pos c12 hO
            refine rb hG 7 83 92 [.aload 0, .invokeinterface 1105 89, .aload 5, .getfield 106] [] [] [(6, .ref r2), (5, .ref r1), (0, .ref 1), (1, .int x1), (2, .int x2), (3, .int x3), (4, .int x4)] [.int (h8.1 r1 6), .ref 90] h8 [kd 1 = 11, kd r1 = 1] (by decide +kernel) rfl ⟨kd_1, g5⟩ ?_
            refine rv hG z_N_tellable 286 1 92 90 [.int (h8.1 r1 6)] [] (by decide +kernel) mk_N_tellable lk_11_286 rcv_90 rfl ⟨rfl, Nat.le_of_ble_eq_true rfl⟩ (c_N_tellable (d := d + 2) h8 (h8.1 r1 6) (ok_bind hO)) ?_
            rintro _ _ ⟨r13, rfl, rfl, hO⟩
            exact eI hG 95 (by decide +kernel) rfl ⟨r13, rfl, ok_some (Q := P) hO⟩
          · have hO := ok_neg c12 hO
            obtain ⟨g14, hO⟩ := ok_if hO
            refine rb hG 7 96 105 [.iload 4, .ldc_w 0, .aload 6, .getfield 203] [10] [] [(6, .ref r2), (5, .ref r1), (0, .ref 1), (1, .int x1), (2, .int x2), (3, .int x3), (4, .int x4)] [.int (h8.1 r2 3), .int (10 : Int32), .int x4] h8 [kd r2 = 2] (by decide +kernel) rfl g14 ?_
            refine rt hG z_K_isOf 119 3 105 [.int x4, .int (10 : Int32), .int (h8.1 r2 3)] [] (by decide +kernel) mk_K_isOf lk_11_119 rfl ⟨rfl, Nat.le_of_ble_eq_true rfl⟩ (c_K_isOf (d := d + 3) h8 x4 (10 : Int32) (h8.1 r2 3) (ok_bind hO)) ?_
            rintro _ _ ⟨r15, rfl, rfl, hO⟩
            refine ri hG .eq (23) 131 108 (by decide +kernel) (by decide) (fun c16 => ?_) (fun c16 => ?_)
            · have hO := ok_pos c16 hO
              refine rb hG 4 131 132 [.ldc_w 0] [-1] [] [(6, .ref r2), (5, .ref r1), (0, .ref 1), (1, .int x1), (2, .int x2), (3, .int x3), (4, .int x4)] [.int (-1 : Int32)] h8 [] (by decide +kernel) rfl trivial ?_
              refine rs hG [] [] rfl ?_
              exact j132 (-1 : Int32) h8 hO
            · have hO := ok_neg c16 hO
              refine rb hG 10 111 125 [.aload 0, .invokeinterface 1105 89, .iload 4, .ldc_w 0, .isub, .aload 5, .getfield 106] [10] [] [(6, .ref r2), (5, .ref r1), (0, .ref 1), (1, .int x1), (2, .int x2), (3, .int x3), (4, .int x4)] [.int (h8.1 r1 6), .int (x4 - (10 : Int32)), .ref 90] h8 [kd 1 = 11, kd r1 = 1] (by decide +kernel) rfl ⟨kd_1, g5⟩ ?_
              refine rv hG z_N_sureOf 289 2 125 90 [.int (x4 - (10 : Int32)), .int (h8.1 r1 6)] [] (by decide +kernel) mk_N_sureOf lk_11_289 rcv_90 rfl ⟨rfl, Nat.le_of_ble_eq_true rfl⟩ (c_N_sureOf (d := d + 2) h8 (x4 - (10 : Int32)) (h8.1 r1 6) (ok_bind hO)) ?_
              rintro _ _ ⟨r17, rfl, rfl, hO⟩
              refine rb hG 4 128 132 [] [] [] [(6, .ref r2), (5, .ref r1), (0, .ref 1), (1, .int x1), (2, .int x2), (3, .int x3), (4, .int x4)] [.int r17] h8 [] (by decide +kernel) rfl trivial ?_
              refine rs hG [] [] rfl ?_
              exact j132 r17 h8 hO
/-! GrainInnModel.listen(I)V -/
noncomputable def M_listen_j269 (h : Hp) : Option Hp := some h
noncomputable def M_listen_j263 (x1 : Int32) (x2 : Int32) (x3 : Int32) (x4 : Int32) (h : Hp) : Option ((Int32 × Int32 × Int32 × Hp) ⊕ Hp) := bnd ((x4 + (1 : Int32))) fun y1 => some (.inl (x2, x3, y1, h))
noncomputable def M_listen_b235 (x1 : Int32) (x2 : Int32) (x3 : Int32) (x4 : Int32) (x5 : Int32) (h : Hp) : Option ((Int32 × Hp) ⊕ ((Int32 × Int32 × Int32 × Hp) ⊕ Hp)) := if x2 ≤ x5 then (((M_listen_j263 x1 x2 x3 x4 h).map Sum.inr)) else (if inb (x5 + (1 : Int32)) (ln 277) then (if inb x5 (ln 277) then (bnd (wr h 277 (Int32.toNatClampNeg x5) (h.1 277 (Int32.toNatClampNeg (x5 + (1 : Int32))))) fun h5 => bnd ((x5 + (1 : Int32))) fun y6 => some (.inl (y6, h5))) else none) else none)
noncomputable def M_listen_l235 (x1 : Int32) (x2 : Int32) (x3 : Int32) (x4 : Int32) (x5 : Int32) (h : Hp) : Option ((Int32 × Int32 × Int32 × Hp) ⊕ Hp) := lp (fun s : (Int32 × Hp) => M_listen_b235 x1 x2 x3 x4 s.1 s.2) (x5, h)
theorem M_listen_l235_eq (x1 : Int32) (x2 : Int32) (x3 : Int32) (x4 : Int32) (x5 : Int32) (h : Hp) : M_listen_l235 x1 x2 x3 x4 x5 h = (M_listen_b235 x1 x2 x3 x4 x5 h).bind (Sum.elim (fun q : (Int32 × Hp) => M_listen_l235 x1 x2 x3 x4 q.1 q.2) some) := lp_eq _ _
noncomputable def M_listen_j200 (x1 : Int32) (x2 : Int32) (x3 : Int32) (x4 : Int32) (h : Hp) : Option ((Int32 × Int32 × Int32 × Hp) ⊕ Hp) := if inb x2 (ln 277) then (bnd (wr h 277 (Int32.toNatClampNeg x2) x4) fun h8 => bnd ((x2 + (1 : Int32))) fun y9 => (M_ofTable h8 x1 (1 : Int32)).bind fun r10 => if y9 ≤ r10 then ((M_listen_j263 x1 y9 x3 x4 h8)) else (bnd ((y9 + (-1 : Int32))) fun y12 => (M_greater (0 : Int32) (x3 - (1 : Int32))).bind fun r13 => (M_listen_l235 x1 y12 r13 x4 (0 : Int32) h8))) else none
noncomputable def M_listen_j131 (x1 : Int32) (x2 : Int32) (x3 : Int32) (x4 : Int32) (s1 : Int32) (h : Hp) : Option ((Int32 × Int32 × Int32 × Hp) ⊕ Hp) := if s1 = 0 ∨ s1 = 1 then (bnd (wr h 251 53 s1) fun h15 => (M_listen_j200 x1 x2 x3 x4 h15)) else none
noncomputable def M_listen_j130 (x1 : Int32) (x2 : Int32) (x3 : Int32) (x4 : Int32) (h : Hp) : Option ((Int32 × Int32 × Int32 × Hp) ⊕ Hp) := (M_listen_j131 x1 x2 x3 x4 (0 : Int32) h)
noncomputable def M_listen_j104 (x1 : Int32) (x2 : Int32) (x3 : Int32) (x4 : Int32) (x5 : Int32) (h : Hp) : Option ((Int32 × Int32 × Int32 × Hp) ⊕ Hp) := if (h.1 251 53) = 0 then ((M_listen_j130 x1 x2 x3 x4 h)) else (if (h.1 251 52) = (-1 : Int32) then (if x5 = (-1 : Int32) then ((M_listen_j131 x1 x2 x3 x4 (1 : Int32) h)) else ((M_listen_j130 x1 x2 x3 x4 h))) else ((M_listen_j130 x1 x2 x3 x4 h)))
noncomputable def M_listen_j186 (x1 : Int32) (x2 : Int32) (x3 : Int32) (x4 : Int32) (x5 : Int32) (s1 : Int32) (h : Hp) : Option ((Int32 × Int32 × Int32 × Hp) ⊕ Hp) := if s1 = 0 ∨ s1 = 1 then (bnd (wr h 251 53 s1) fun h20 => if inb (h20.1 251 52) (ln 276) then (bnd (wr h20 276 (Int32.toNatClampNeg (h20.1 251 52)) x5) fun h22 => (M_listen_j200 x1 x2 x3 x4 h22)) else none) else none
noncomputable def M_listen_j185 (x1 : Int32) (x2 : Int32) (x3 : Int32) (x4 : Int32) (x5 : Int32) (h : Hp) : Option ((Int32 × Int32 × Int32 × Hp) ⊕ Hp) := (M_listen_j186 x1 x2 x3 x4 x5 (0 : Int32) h)
noncomputable def M_listen_j181 (x1 : Int32) (x2 : Int32) (x3 : Int32) (x4 : Int32) (x5 : Int32) (h : Hp) : Option ((Int32 × Int32 × Int32 × Hp) ⊕ Hp) := (M_listen_j186 x1 x2 x3 x4 x5 (1 : Int32) h)
noncomputable def M_listen_j72 (x1 : Int32) (x2 : Int32) (x4 : Int32) (s0 : Int32) (h : Hp) : Option ((Int32 × Int32 × Int32 × Hp) ⊕ Hp) := (M_rowsHeard h).bind fun r23 => if r23 ≤ x4 then ((M_listen_j200 x1 x2 s0 x4 h)) else ((M_heardIn h x4).bind fun r25 => if (h.1 251 52) = (-1 : Int32) then ((M_listen_j104 x1 x2 s0 x4 r25 h)) else (if r25 = (-1 : Int32) then ((M_listen_j104 x1 x2 s0 x4 r25 h)) else (if (h.1 251 53) = 0 then ((M_listen_j185 x1 x2 s0 x4 r25 h)) else ((M_isGuest h r25).bind fun r29 => if r29 = 0 then ((M_listen_j185 x1 x2 s0 x4 r25 h)) else (if inb (h.1 251 52) (ln 276) then (if (h.1 276 (Int32.toNatClampNeg (h.1 251 52))) = (-1 : Int32) then ((M_listen_j181 x1 x2 s0 x4 r25 h)) else (if inb (h.1 251 52) (ln 276) then (if (h.1 276 (Int32.toNatClampNeg (h.1 251 52))) = r25 then ((M_listen_j181 x1 x2 s0 x4 r25 h)) else ((M_listen_j185 x1 x2 s0 x4 r25 h))) else none)) else none)))))
noncomputable def M_listen_j56 (x1 : Int32) (x2 : Int32) (x3 : Int32) (x4 : Int32) (s1 : Int32) (h : Hp) : Option ((Int32 × Int32 × Int32 × Hp) ⊕ Hp) := bnd (wr h 251 52 s1) fun h35 => if x2 = 0 then ((M_listen_j72 x1 x2 x4 (0 : Int32) h35)) else (if ¬ x2 = 0 then ((M_listen_j72 x1 x2 x4 (rm (x3 + (1 : Int32)) x2) h35)) else none)
noncomputable def M_listen_j40 (x1 : Int32) (x2 : Int32) (x3 : Int32) (x4 : Int32) (s1 : Int32) (s2 : Int32) (h : Hp) : Option ((Int32 × Int32 × Int32 × Hp) ⊕ Hp) := if inb s1 (ln 276) then (bnd (wr h 276 (Int32.toNatClampNeg s1) s2) fun h39 => if x2 = 0 then ((M_listen_j56 x1 x2 x3 x4 (-1 : Int32) h39)) else (if inb x3 (ln 277) then ((M_listen_j56 x1 x2 x3 x4 (h39.1 277 (Int32.toNatClampNeg x3)) h39)) else none)) else none
noncomputable def M_listen_b12 (x1 : Int32) (x2 : Int32) (x3 : Int32) (x4 : Int32) (h : Hp) : Option ((Int32 × Int32 × Int32 × Hp) ⊕ Hp) := (M_rowsHeard h).bind fun r42 => if r42 < x4 then (((M_listen_j269 h).map Sum.inr)) else (if (h.1 251 25) = (1 : Int32) then ((M_listen_j40 x1 x2 x3 x4 x4 (0 : Int32) h)) else ((M_listen_j40 x1 x2 x3 x4 x4 (-1 : Int32) h)))
noncomputable def M_listen_l12 (x1 : Int32) (x2 : Int32) (x3 : Int32) (x4 : Int32) (h : Hp) : Option Hp := lp (fun s : (Int32 × Int32 × Int32 × Hp) => M_listen_b12 x1 s.1 s.2.1 s.2.2.1 s.2.2.2) (x2, x3, x4, h)
theorem M_listen_l12_eq (x1 : Int32) (x2 : Int32) (x3 : Int32) (x4 : Int32) (h : Hp) : M_listen_l12 x1 x2 x3 x4 h = (M_listen_b12 x1 x2 x3 x4 h).bind (Sum.elim (fun q : (Int32 × Int32 × Int32 × Hp) => M_listen_l12 x1 q.1 q.2.1 q.2.2.1 q.2.2.2) some) := lp_eq _ _
noncomputable def M_listen (h : Hp) (x1 : Int32) : Option Hp := bnd (wr h 251 53 (1 : Int32)) fun h45 => (M_listen_l12 x1 (0 : Int32) (0 : Int32) (0 : Int32) h45)
set_option maxRecDepth 100000 in
set_option maxHeartbeats 4000000 in
theorem c_M_listen {E : En} {d : Nat} (h : Hp) (x1 : Int32) {P : Hp → Prop} (hO : Okk (M_listen h x1) P) : Cn E (d + 3) z_M_listen [.ref 251, .int x1] h (RV P) := by
  refine cn_of (on := 12) (d := d + 2) ⟨rfl, by decide +kernel, Nat.le_of_ble_eq_true rfl⟩ (fun G hG => ?_)
  unfold M_listen at hO
  show G 0 [(0, .ref 251), (1, .int x1)] [] h
  have j269 : ∀ (h : Hp), Okk (M_listen_j269 h) P → G 269 [] [] h := by
    intro h hO
    unfold M_listen_j269 at hO
    exact eV hG 269 (by decide +kernel) rfl ⟨rfl, ok_some (Q := P) hO⟩
  have l12 : ∀ (x2 : Int32) (x3 : Int32) (x4 : Int32) (h : Hp), Okk (M_listen_l12 x1 x2 x3 x4 h) P → G 12 [(0, .ref 251), (1, .int x1), (2, .int x2), (3, .int x3), (4, .int x4)] [] h := by
    intro x2 x3 x4 h hO
    obtain ⟨H12, eH12⟩ : ∃ q : (Int32 × Int32 × Int32 × Hp) → Prop, q = fun s => G 12 [(0, .ref 251), (1, .int x1), (2, .int (s.1)), (3, .int (s.2.1)), (4, .int (s.2.2.1))] [] (s.2.2.2) := ⟨_, rfl⟩
    have w9 : H12 (x2, x3, x4, h) := by
      refine lp_wp (f := fun s : (Int32 × Int32 × Int32 × Hp) => M_listen_b12 x1 s.1 s.2.1 s.2.2.1 s.2.2.2) (H := H12) (Q := P) ?_ (x2, x3, x4, h) hO
      rintro ⟨x2, x3, x4, h⟩ hO
      rw [eH12]
      show G 12 [(0, .ref 251), (1, .int x1), (2, .int x2), (3, .int x3), (4, .int x4)] [] h
      have k12 : ∀ s : (Int32 × Int32 × Int32 × Hp), H12 s → G 12 [(0, .ref 251), (1, .int x1), (2, .int (s.1)), (3, .int (s.2.1)), (4, .int (s.2.2.1))] [] (s.2.2.2) := fun s q => by rw [eH12] at q; exact q
      replace hO : Okk (M_listen_b12 x1 x2 x3 x4 h) (Sum.elim H12 P) := hO
      clear eH12
      have j263 : ∀ (x2 : Int32) (x3 : Int32) (x4 : Int32) (h : Hp), Okk (M_listen_j263 x1 x2 x3 x4 h) (Sum.elim H12 P) → G 263 [(0, .ref 251), (1, .int x1), (2, .int x2), (3, .int x3), (4, .int x4)] [] h := by
        intro x2 x3 x4 h hO
        unfold M_listen_j263 at hO
        refine rbx hG 4 263 266 [.iinc 4 0] [1] [] ((x4 + (1 : Int32))) (fun y1 => [(4, .int y1), (0, .ref 251), (1, .int x1), (2, .int x2), (3, .int x3)]) (fun y1 => []) (fun y1 => h) [] (by decide +kernel) rfl trivial hO (fun y1 hO => ?_)
        refine rb hG 4 266 12 [] [] [] [(4, .int y1), (0, .ref 251), (1, .int x1), (2, .int x2), (3, .int x3)] [] h [] (by decide +kernel) rfl trivial ?_
        refine rs hG [(0, .ref 251), (1, .int x1), (2, .int x2), (3, .int x3), (4, .int y1)] [1, 2, 3, 4, 0] rfl ?_
        exact k12 (x2, x3, y1, h) (ok_some (Q := (Sum.elim H12 P)) hO)
      have l235 : ∀ (x2 : Int32) (x3 : Int32) (x4 : Int32) (x5 : Int32) (h : Hp), Okk (M_listen_l235 x1 x2 x3 x4 x5 h) (Sum.elim H12 P) → G 235 [(0, .ref 251), (1, .int x1), (2, .int x2), (3, .int x3), (4, .int x4), (5, .int x5)] [] h := by
        intro x2 x3 x4 x5 h hO
        obtain ⟨H235, eH235⟩ : ∃ q : (Int32 × Hp) → Prop, q = fun s => G 235 [(0, .ref 251), (1, .int x1), (2, .int x2), (3, .int x3), (4, .int x4), (5, .int (s.1))] [] (s.2) := ⟨_, rfl⟩
        have w9 : H235 (x5, h) := by
          refine lp_wp (f := fun s : (Int32 × Hp) => M_listen_b235 x1 x2 x3 x4 s.1 s.2) (H := H235) (Q := (Sum.elim H12 P)) ?_ (x5, h) hO
          rintro ⟨x5, h⟩ hO
          rw [eH235]
          show G 235 [(0, .ref 251), (1, .int x1), (2, .int x2), (3, .int x3), (4, .int x4), (5, .int x5)] [] h
          have k235 : ∀ s : (Int32 × Hp), H235 s → G 235 [(0, .ref 251), (1, .int x1), (2, .int x2), (3, .int x3), (4, .int x4), (5, .int (s.1))] [] (s.2) := fun s q => by rw [eH235] at q; exact q
          replace hO : Okk (M_listen_b235 x1 x2 x3 x4 x5 h) (Sum.elim H235 (Sum.elim H12 P)) := hO
          clear eH235
          unfold M_listen_b235 at hO
          refine rb hG 5 235 238 [.iload 5, .iload 2] [] [] [(0, .ref 251), (1, .int x1), (2, .int x2), (3, .int x3), (4, .int x4), (5, .int x5)] [.int x2, .int x5] h [] (by decide +kernel) rfl trivial ?_
          refine rj hG .ge (25) 263 238 (by decide +kernel) (by decide) (fun c2 => ?_) (fun c2 => ?_)
          · have hO := ok_pos c2 hO
            refine rs hG [(0, .ref 251), (1, .int x1), (2, .int x2), (3, .int x3), (4, .int x4)] [0, 1, 2, 3, 4] rfl ?_
            exact j263 x2 x3 x4 h (ok_inr hO)
          · have hO := ok_neg c2 hO
            obtain ⟨g3, hO⟩ := ok_if hO
            obtain ⟨g4, hO⟩ := ok_if hO
            refine rbx hG 13 241 257 [.aload 0, .invokeinterface 1251 26, .iload 5, .aload 0, .invokeinterface 1251 26, .iload 5, .ldc_w 0, .iadd, .iaload, .iastore] [1] [] (wr h 277 (Int32.toNatClampNeg x5) (h.1 277 (Int32.toNatClampNeg (x5 + (1 : Int32))))) (fun h5 => [(0, .ref 251), (1, .int x1), (2, .int x2), (3, .int x3), (4, .int x4), (5, .int x5)]) (fun h5 => []) (fun h5 => h5) [kd 251 = 12, kd 251 = 12, kd 277 = 20 ∧ inb (x5 + (1 : Int32)) (ln 277), kd 277 = 20 ∧ inb x5 (ln 277)] (by decide +kernel) rfl ⟨kd_251, kd_251, ⟨kd_277, g3⟩, ⟨kd_277, g4⟩⟩ hO (fun h5 hO => ?_)
            refine rbx hG 4 257 260 [.iinc 5 0] [1] [] ((x5 + (1 : Int32))) (fun y6 => [(5, .int y6), (0, .ref 251), (1, .int x1), (2, .int x2), (3, .int x3), (4, .int x4)]) (fun y6 => []) (fun y6 => h5) [] (by decide +kernel) rfl trivial hO (fun y6 hO => ?_)
            refine rb hG 4 260 235 [] [] [] [(5, .int y6), (0, .ref 251), (1, .int x1), (2, .int x2), (3, .int x3), (4, .int x4)] [] h5 [] (by decide +kernel) rfl trivial ?_
            refine rs hG [(0, .ref 251), (1, .int x1), (2, .int x2), (3, .int x3), (4, .int x4), (5, .int y6)] [1, 2, 3, 4, 5, 0] rfl ?_
            exact k235 (y6, h5) (ok_some (Q := (Sum.elim H235 (Sum.elim H12 P))) hO)
        rw [eH235] at w9
        exact w9
      have j200 : ∀ (x2 : Int32) (x3 : Int32) (x4 : Int32) (h : Hp), Okk (M_listen_j200 x1 x2 x3 x4 h) (Sum.elim H12 P) → G 200 [(0, .ref 251), (1, .int x1), (2, .int x2), (3, .int x3), (4, .int x4)] [] h := by
        intro x2 x3 x4 h hO
        unfold M_listen_j200 at hO
        obtain ⟨g7, hO⟩ := ok_if hO
        refine rbx hG 8 200 208 [.aload 0, .invokeinterface 1251 26, .iload 2, .iload 4, .iastore] [] [] (wr h 277 (Int32.toNatClampNeg x2) x4) (fun h8 => [(0, .ref 251), (1, .int x1), (2, .int x2), (3, .int x3), (4, .int x4)]) (fun h8 => []) (fun h8 => h8) [kd 251 = 12, kd 277 = 20 ∧ inb x2 (ln 277)] (by decide +kernel) rfl ⟨kd_251, ⟨kd_277, g7⟩⟩ hO (fun h8 hO => ?_)
        refine rbx hG 4 208 211 [.iinc 2 0] [1] [] ((x2 + (1 : Int32))) (fun y9 => [(2, .int y9), (0, .ref 251), (1, .int x1), (3, .int x3), (4, .int x4)]) (fun y9 => []) (fun y9 => h8) [] (by decide +kernel) rfl trivial hO (fun y9 hO => ?_)
        refine rb hG 7 211 215 [.iload 2, .aload 0, .iload 1, .ldc_w 0] [1] [] [(2, .int y9), (0, .ref 251), (1, .int x1), (3, .int x3), (4, .int x4)] [.int (1 : Int32), .int x1, .ref 251, .int y9] h8 [] (by decide +kernel) rfl trivial ?_
        refine rv hG z_M_ofTable 283 2 215 251 [.int x1, .int (1 : Int32)] [.int y9] (by decide +kernel) mk_M_ofTable lk_12_283 rcv_251 rfl ⟨rfl, Nat.le_of_ble_eq_true rfl⟩ (c_M_ofTable (d := d) h8 x1 (1 : Int32) (ok_bind hO)) ?_
        rintro _ _ ⟨r10, rfl, rfl, hO⟩
        refine rj hG .le (45) 263 218 (by decide +kernel) (by decide) (fun c11 => ?_) (fun c11 => ?_)
        · have hO := ok_pos c11 hO
          refine rs hG [(0, .ref 251), (1, .int x1), (2, .int y9), (3, .int x3), (4, .int x4)] [1, 2, 0, 3, 4] rfl ?_
          exact j263 y9 x3 x4 h8 hO
        · have hO := ok_neg c11 hO
          refine rbx hG 4 221 224 [.iinc 2 0] [-1] [] ((y9 + (-1 : Int32))) (fun y12 => [(2, .int y12), (0, .ref 251), (1, .int x1), (3, .int x3), (4, .int x4)]) (fun y12 => []) (fun y12 => h8) [] (by decide +kernel) rfl trivial hO (fun y12 hO => ?_)
          refine rb hG 7 224 228 [.ldc_w 0, .iload 3, .ldc_w 1, .isub] [0, 1] [] [(2, .int y12), (0, .ref 251), (1, .int x1), (3, .int x3), (4, .int x4)] [.int (x3 - (1 : Int32)), .int (0 : Int32)] h8 [] (by decide +kernel) rfl trivial ?_
          refine rt hG z_M_greater 176 2 228 [.int (0 : Int32), .int (x3 - (1 : Int32))] [] (by decide +kernel) mk_M_greater lk_12_176 rfl ⟨rfl, Nat.le_of_ble_eq_true rfl⟩ (c_M_greater (d := d + 1) h8 (0 : Int32) (x3 - (1 : Int32)) (ok_bind hO)) ?_
          rintro _ _ ⟨r13, rfl, rfl, hO⟩
          refine rb hG 6 231 235 [.istore 3, .ldc_w 0, .istore 5] [0] [] [(5, .int (0 : Int32)), (3, .int r13), (2, .int y12), (0, .ref 251), (1, .int x1), (4, .int x4)] [] h8 [] (by decide +kernel) rfl trivial ?_
          refine rs hG [(0, .ref 251), (1, .int x1), (2, .int y12), (3, .int r13), (4, .int x4), (5, .int (0 : Int32))] [3, 4, 2, 1, 5, 0] rfl ?_
          exact l235 y12 r13 x4 (0 : Int32) h8 hO
      have j131 : ∀ (x2 : Int32) (x3 : Int32) (x4 : Int32) (s1 : Int32) (h : Hp), Okk (M_listen_j131 x1 x2 x3 x4 s1 h) (Sum.elim H12 P) → G 131 [(0, .ref 251), (1, .int x1), (2, .int x2), (3, .int x3), (4, .int x4)] [.int s1, .ref 251] h := by
        intro x2 x3 x4 s1 h hO
        unfold M_listen_j131 at hO
        obtain ⟨g14, hO⟩ := ok_if hO
        refine rbx hG 4 131 134 [.checkcast 1253] [] [] (wr h 251 53 s1) (fun h15 => [(0, .ref 251), (1, .int x1), (2, .int x2), (3, .int x3), (4, .int x4)]) (fun h15 => []) (fun h15 => h15) [kd 251 = 12 ∧ (s1 = 0 ∨ s1 = 1)] (by decide +kernel) rfl ⟨kd_251, g14⟩ hO (fun h15 hO => ?_)
        refine rb hG 4 134 200 [] [] [] [(0, .ref 251), (1, .int x1), (2, .int x2), (3, .int x3), (4, .int x4)] [] h15 [] (by decide +kernel) rfl trivial ?_
        exact j200 x2 x3 x4 h15 hO
      have j130 : ∀ (x2 : Int32) (x3 : Int32) (x4 : Int32) (h : Hp), Okk (M_listen_j130 x1 x2 x3 x4 h) (Sum.elim H12 P) → G 130 [(0, .ref 251), (1, .int x1), (2, .int x2), (3, .int x3), (4, .int x4)] [.ref 251] h := by
        intro x2 x3 x4 h hO
        unfold M_listen_j130 at hO
        refine rb hG 4 130 131 [.ldc_w 0] [0] [] [(0, .ref 251), (1, .int x1), (2, .int x2), (3, .int x3), (4, .int x4)] [.int (0 : Int32), .ref 251] h [] (by decide +kernel) rfl trivial ?_
        exact j131 x2 x3 x4 (0 : Int32) h hO
      have j104 : ∀ (x2 : Int32) (x3 : Int32) (x4 : Int32) (x5 : Int32) (h : Hp), Okk (M_listen_j104 x1 x2 x3 x4 x5 h) (Sum.elim H12 P) → G 104 [(0, .ref 251), (1, .int x1), (2, .int x2), (3, .int x3), (4, .int x4), (5, .int x5)] [] h := by
        intro x2 x3 x4 x5 h hO
        unfold M_listen_j104 at hO
        refine rb hG 6 104 109 [.aload 0, .aload 0, .getfield 1253] [] [] [(0, .ref 251), (1, .int x1), (2, .int x2), (3, .int x3), (4, .int x4), (5, .int x5)] [.int (h.1 251 53), .ref 251] h [kd 251 = 12] (by decide +kernel) rfl kd_251 ?_
        refine ri hG .eq (21) 130 109 (by decide +kernel) (by decide) (fun c16 => ?_) (fun c16 => ?_)
        · have hO := ok_pos c16 hO
          refine rs hG [(0, .ref 251), (1, .int x1), (2, .int x2), (3, .int x3), (4, .int x4)] [0, 1, 2, 3, 4] rfl ?_
          exact j130 x2 x3 x4 h hO
        · have hO := ok_neg c16 hO
          refine rb hG 6 112 117 [.aload 0, .getfield 1252, .ldc_w 0] [-1] [] [(0, .ref 251), (1, .int x1), (2, .int x2), (3, .int x3), (4, .int x4), (5, .int x5)] [.int (-1 : Int32), .int (h.1 251 52), .ref 251] h [kd 251 = 12] (by decide +kernel) rfl kd_251 ?_
          refine rjN hG (13) 130 117 (by decide +kernel) (by decide) (fun c17 => ?_) (fun c17 => ?_)
          · have hO := ok_pos c17 hO
            refine rb hG 5 120 123 [.iload 5, .ldc_w 0] [-1] [] [(0, .ref 251), (1, .int x1), (2, .int x2), (3, .int x3), (4, .int x4), (5, .int x5)] [.int (-1 : Int32), .int x5, .ref 251] h [] (by decide +kernel) rfl trivial ?_
            refine rjN hG (7) 130 123 (by decide +kernel) (by decide) (fun c18 => ?_) (fun c18 => ?_)
            · have hO := ok_pos c18 hO
              refine rb hG 5 126 131 [.ldc_w 0] [1] [] [(0, .ref 251), (1, .int x1), (2, .int x2), (3, .int x3), (4, .int x4), (5, .int x5)] [.int (1 : Int32), .ref 251] h [] (by decide +kernel) rfl trivial ?_
              refine rs hG [(0, .ref 251), (1, .int x1), (2, .int x2), (3, .int x3), (4, .int x4)] [0, 1, 2, 3, 4] rfl ?_
              exact j131 x2 x3 x4 (1 : Int32) h hO
            · have hO := ok_neg c18 hO
              refine rs hG [(0, .ref 251), (1, .int x1), (2, .int x2), (3, .int x3), (4, .int x4)] [0, 1, 2, 3, 4] rfl ?_
              exact j130 x2 x3 x4 h hO
          · have hO := ok_neg c17 hO
            refine rs hG [(0, .ref 251), (1, .int x1), (2, .int x2), (3, .int x3), (4, .int x4)] [0, 1, 2, 3, 4] rfl ?_
            exact j130 x2 x3 x4 h hO
      have j186 : ∀ (x2 : Int32) (x3 : Int32) (x4 : Int32) (x5 : Int32) (s1 : Int32) (h : Hp), Okk (M_listen_j186 x1 x2 x3 x4 x5 s1 h) (Sum.elim H12 P) → G 186 [(0, .ref 251), (1, .int x1), (2, .int x2), (3, .int x3), (4, .int x4), (5, .int x5)] [.int s1, .ref 251] h := by
        intro x2 x3 x4 x5 s1 h hO
        unfold M_listen_j186 at hO
        obtain ⟨g19, hO⟩ := ok_if hO
        refine rbx hG 4 186 189 [.checkcast 1253] [] [] (wr h 251 53 s1) (fun h20 => [(0, .ref 251), (1, .int x1), (2, .int x2), (3, .int x3), (4, .int x4), (5, .int x5)]) (fun h20 => []) (fun h20 => h20) [kd 251 = 12 ∧ (s1 = 0 ∨ s1 = 1)] (by decide +kernel) rfl ⟨kd_251, g19⟩ hO (fun h20 hO => ?_)
        obtain ⟨g21, hO⟩ := ok_if hO
        refine rbx hG 9 189 200 [.aload 0, .invokeinterface 1250 25, .aload 0, .getfield 1252, .iload 5, .iastore] [] [] (wr h20 276 (Int32.toNatClampNeg (h20.1 251 52)) x5) (fun h22 => [(0, .ref 251), (1, .int x1), (2, .int x2), (3, .int x3), (4, .int x4), (5, .int x5)]) (fun h22 => []) (fun h22 => h22) [kd 251 = 12, kd 251 = 12, kd 276 = 20 ∧ inb (h20.1 251 52) (ln 276)] (by decide +kernel) rfl ⟨kd_251, kd_251, ⟨kd_276, g21⟩⟩ hO (fun h22 hO => ?_)
        refine rs hG [(0, .ref 251), (1, .int x1), (2, .int x2), (3, .int x3), (4, .int x4)] [0, 1, 2, 3, 4] rfl ?_
        exact j200 x2 x3 x4 h22 hO
      have j185 : ∀ (x2 : Int32) (x3 : Int32) (x4 : Int32) (x5 : Int32) (h : Hp), Okk (M_listen_j185 x1 x2 x3 x4 x5 h) (Sum.elim H12 P) → G 185 [(0, .ref 251), (1, .int x1), (2, .int x2), (3, .int x3), (4, .int x4), (5, .int x5)] [.ref 251] h := by
        intro x2 x3 x4 x5 h hO
        unfold M_listen_j185 at hO
        refine rb hG 4 185 186 [.ldc_w 0] [0] [] [(0, .ref 251), (1, .int x1), (2, .int x2), (3, .int x3), (4, .int x4), (5, .int x5)] [.int (0 : Int32), .ref 251] h [] (by decide +kernel) rfl trivial ?_
        exact j186 x2 x3 x4 x5 (0 : Int32) h hO
      have j181 : ∀ (x2 : Int32) (x3 : Int32) (x4 : Int32) (x5 : Int32) (h : Hp), Okk (M_listen_j181 x1 x2 x3 x4 x5 h) (Sum.elim H12 P) → G 181 [(0, .ref 251), (1, .int x1), (2, .int x2), (3, .int x3), (4, .int x4), (5, .int x5)] [.ref 251] h := by
        intro x2 x3 x4 x5 h hO
        unfold M_listen_j181 at hO
        refine rb hG 5 181 186 [.ldc_w 0] [1] [] [(0, .ref 251), (1, .int x1), (2, .int x2), (3, .int x3), (4, .int x4), (5, .int x5)] [.int (1 : Int32), .ref 251] h [] (by decide +kernel) rfl trivial ?_
        exact j186 x2 x3 x4 x5 (1 : Int32) h hO
      have j72 : ∀ (x2 : Int32) (x4 : Int32) (s0 : Int32) (h : Hp), Okk (M_listen_j72 x1 x2 x4 s0 h) (Sum.elim H12 P) → G 72 [(0, .ref 251), (1, .int x1), (2, .int x2), (4, .int x4)] [.int s0] h := by
        intro x2 x4 s0 h hO
        unfold M_listen_j72 at hO
        refine rb hG 6 72 76 [.istore 3, .iload 4, .aload 0] [] [] [(3, .int s0), (0, .ref 251), (1, .int x1), (2, .int x2), (4, .int x4)] [.ref 251, .int x4] h [] (by decide +kernel) rfl trivial ?_
        refine rv hG z_M_rowsHeard 460 0 76 251 [] [.int x4] (by decide +kernel) mk_M_rowsHeard lk_12_460 rcv_251 rfl ⟨rfl, Nat.le_of_ble_eq_true rfl⟩ (c_M_rowsHeard (d := d + 1) h (ok_bind hO)) ?_
        rintro _ _ ⟨r23, rfl, rfl, hO⟩
        refine rj hG .ge (121) 200 79 (by decide +kernel) (by decide) (fun c24 => ?_) (fun c24 => ?_)
        · have hO := ok_pos c24 hO
          refine rs hG [(0, .ref 251), (1, .int x1), (2, .int x2), (3, .int s0), (4, .int x4)] [1, 2, 3, 0, 4] rfl ?_
          exact j200 x2 s0 x4 h hO
        · have hO := ok_neg c24 hO
          refine rb hG 5 82 85 [.aload 0, .iload 4] [] [] [(3, .int s0), (0, .ref 251), (1, .int x1), (2, .int x2), (4, .int x4)] [.int x4, .ref 251] h [] (by decide +kernel) rfl trivial ?_
          refine rv hG z_M_heardIn 463 1 85 251 [.int x4] [] (by decide +kernel) mk_M_heardIn lk_12_463 rcv_251 rfl ⟨rfl, Nat.le_of_ble_eq_true rfl⟩ (c_M_heardIn (d := d + 1) h x4 (ok_bind hO)) ?_
          rintro _ _ ⟨r25, rfl, rfl, hO⟩
          refine rb hG 7 88 95 [.istore 5, .aload 0, .getfield 1252, .ldc_w 0] [-1] [] [(5, .int r25), (3, .int s0), (0, .ref 251), (1, .int x1), (2, .int x2), (4, .int x4)] [.int (-1 : Int32), .int (h.1 251 52)] h [kd 251 = 12] (by decide +kernel) rfl kd_251 ?_
          refine rj hG .eq (9) 104 95 (by decide +kernel) (by decide) (fun c26 => ?_) (fun c26 => ?_)
          · have hO := ok_pos c26 hO
            refine rs hG [(0, .ref 251), (1, .int x1), (2, .int x2), (3, .int s0), (4, .int x4), (5, .int r25)] [2, 3, 4, 1, 5, 0] rfl ?_
            exact j104 x2 s0 x4 r25 h hO
          · have hO := ok_neg c26 hO
            refine rb hG 5 98 101 [.iload 5, .ldc_w 0] [-1] [] [(5, .int r25), (3, .int s0), (0, .ref 251), (1, .int x1), (2, .int x2), (4, .int x4)] [.int (-1 : Int32), .int r25] h [] (by decide +kernel) rfl trivial ?_
            refine rjN hG (36) 137 101 (by decide +kernel) (by decide) (fun c27 => ?_) (fun c27 => ?_)
            · have hO := ok_pos c27 hO
              refine rs hG [(0, .ref 251), (1, .int x1), (2, .int x2), (3, .int s0), (4, .int x4), (5, .int r25)] [2, 3, 4, 1, 5, 0] rfl ?_
              exact j104 x2 s0 x4 r25 h hO
            · have hO := ok_neg c27 hO
              refine rb hG 6 137 142 [.aload 0, .aload 0, .getfield 1253] [] [] [(5, .int r25), (3, .int s0), (0, .ref 251), (1, .int x1), (2, .int x2), (4, .int x4)] [.int (h.1 251 53), .ref 251] h [kd 251 = 12] (by decide +kernel) rfl kd_251 ?_
              refine ri hG .eq (43) 185 142 (by decide +kernel) (by decide) (fun c28 => ?_) (fun c28 => ?_)
              · have hO := ok_pos c28 hO
                refine rs hG [(0, .ref 251), (1, .int x1), (2, .int x2), (3, .int s0), (4, .int x4), (5, .int r25)] [2, 3, 4, 1, 5, 0] rfl ?_
                exact j185 x2 s0 x4 r25 h hO
              · have hO := ok_neg c28 hO
                refine rb hG 5 145 148 [.aload 0, .iload 5] [] [] [(5, .int r25), (3, .int s0), (0, .ref 251), (1, .int x1), (2, .int x2), (4, .int x4)] [.int r25, .ref 251, .ref 251] h [] (by decide +kernel) rfl trivial ?_
                refine rv hG z_M_isGuest 332 1 148 251 [.int r25] [.ref 251] (by decide +kernel) mk_M_isGuest lk_12_332 rcv_251 rfl ⟨rfl, Nat.le_of_ble_eq_true rfl⟩ (c_M_isGuest (d := d) h r25 (ok_bind hO)) ?_
                rintro _ _ ⟨r29, rfl, rfl, hO⟩
                refine ri hG .eq (34) 185 151 (by decide +kernel) (by decide) (fun c30 => ?_) (fun c30 => ?_)
                · have hO := ok_pos c30 hO
                  refine rs hG [(0, .ref 251), (1, .int x1), (2, .int x2), (3, .int s0), (4, .int x4), (5, .int r25)] [2, 3, 4, 1, 5, 0] rfl ?_
                  exact j185 x2 s0 x4 r25 h hO
                · have hO := ok_neg c30 hO
                  obtain ⟨g31, hO⟩ := ok_if hO
                  refine rb hG 9 154 164 [.aload 0, .invokeinterface 1250 25, .aload 0, .getfield 1252, .iaload, .ldc_w 0] [-1] [] [(5, .int r25), (3, .int s0), (0, .ref 251), (1, .int x1), (2, .int x2), (4, .int x4)] [.int (-1 : Int32), .int (h.1 276 (Int32.toNatClampNeg (h.1 251 52))), .ref 251] h [kd 251 = 12, kd 251 = 12, kd 276 = 20 ∧ inb (h.1 251 52) (ln 276)] (by decide +kernel) rfl ⟨kd_251, kd_251, ⟨kd_276, g31⟩⟩ ?_
                  refine rj hG .eq (17) 181 164 (by decide +kernel) (by decide) (fun c32 => ?_) (fun c32 => ?_)
                  · have hO := ok_pos c32 hO
                    refine rs hG [(0, .ref 251), (1, .int x1), (2, .int x2), (3, .int s0), (4, .int x4), (5, .int r25)] [2, 3, 4, 1, 5, 0] rfl ?_
                    exact j181 x2 s0 x4 r25 h hO
                  · have hO := ok_neg c32 hO
                    obtain ⟨g33, hO⟩ := ok_if hO
                    refine rb hG 9 167 178 [.aload 0, .invokeinterface 1250 25, .aload 0, .getfield 1252, .iaload, .iload 5] [] [] [(5, .int r25), (3, .int s0), (0, .ref 251), (1, .int x1), (2, .int x2), (4, .int x4)] [.int r25, .int (h.1 276 (Int32.toNatClampNeg (h.1 251 52))), .ref 251] h [kd 251 = 12, kd 251 = 12, kd 276 = 20 ∧ inb (h.1 251 52) (ln 276)] (by decide +kernel) rfl ⟨kd_251, kd_251, ⟨kd_276, g33⟩⟩ ?_
                    refine rjN hG (7) 185 178 (by decide +kernel) (by decide) (fun c34 => ?_) (fun c34 => ?_)
                    · have hO := ok_pos c34 hO
                      refine rs hG [(0, .ref 251), (1, .int x1), (2, .int x2), (3, .int s0), (4, .int x4), (5, .int r25)] [2, 3, 4, 1, 5, 0] rfl ?_
                      exact j181 x2 s0 x4 r25 h hO
                    · have hO := ok_neg c34 hO
                      refine rs hG [(0, .ref 251), (1, .int x1), (2, .int x2), (3, .int s0), (4, .int x4), (5, .int r25)] [2, 3, 4, 1, 5, 0] rfl ?_
                      exact j185 x2 s0 x4 r25 h hO
      have j56 : ∀ (x2 : Int32) (x3 : Int32) (x4 : Int32) (s1 : Int32) (h : Hp), Okk (M_listen_j56 x1 x2 x3 x4 s1 h) (Sum.elim H12 P) → G 56 [(0, .ref 251), (1, .int x1), (2, .int x2), (3, .int x3), (4, .int x4)] [.int s1, .ref 251] h := by
        intro x2 x3 x4 s1 h hO
        unfold M_listen_j56 at hO
        refine rbx hG 4 56 59 [.putfield 1252] [] [] (wr h 251 52 s1) (fun h35 => [(0, .ref 251), (1, .int x1), (2, .int x2), (3, .int x3), (4, .int x4)]) (fun h35 => []) (fun h35 => h35) [kd 251 = 12] (by decide +kernel) rfl kd_251 hO (fun h35 hO => ?_)
        refine rb hG 4 59 60 [.iload 2] [] [] [(0, .ref 251), (1, .int x1), (2, .int x2), (3, .int x3), (4, .int x4)] [.int x2] h35 [] (by decide +kernel) rfl trivial ?_
        refine riN hG (7) 67 60 (by decide +kernel) (by decide) (fun c36 => ?_) (fun c36 => ?_)
        · have hO := ok_pos c36 hO
          refine rb hG 5 63 72 [.ldc_w 0] [0] [] [(0, .ref 251), (1, .int x1), (2, .int x2), (3, .int x3), (4, .int x4)] [.int (0 : Int32)] h35 [] (by decide +kernel) rfl trivial ?_
          refine rs hG [(0, .ref 251), (1, .int x1), (2, .int x2), (4, .int x4)] [0, 1, 2, 4] rfl ?_
          exact j72 x2 x4 (0 : Int32) h35 hO
        · have hO := ok_neg c36 hO
          obtain ⟨g37, hO⟩ := ok_if hO
          refine rb hG 8 67 72 [.iload 3, .ldc_w 0, .iadd, .iload 2, .irem] [1] [] [(0, .ref 251), (1, .int x1), (2, .int x2), (3, .int x3), (4, .int x4)] [.int (rm (x3 + (1 : Int32)) x2)] h35 [¬ x2 = 0] (by decide +kernel) rfl g37 ?_
          refine rs hG [(0, .ref 251), (1, .int x1), (2, .int x2), (4, .int x4)] [0, 1, 2, 4] rfl ?_
          exact j72 x2 x4 (rm (x3 + (1 : Int32)) x2) h35 hO
      have j40 : ∀ (x2 : Int32) (x3 : Int32) (x4 : Int32) (s1 : Int32) (s2 : Int32) (h : Hp), Okk (M_listen_j40 x1 x2 x3 x4 s1 s2 h) (Sum.elim H12 P) → G 40 [(0, .ref 251), (1, .int x1), (2, .int x2), (3, .int x3), (4, .int x4)] [.int s2, .int s1, .ref 276] h := by
        intro x2 x3 x4 s1 s2 h hO
        unfold M_listen_j40 at hO
        obtain ⟨g38, hO⟩ := ok_if hO
        refine rbx hG 4 40 41 [.iastore] [] [] (wr h 276 (Int32.toNatClampNeg s1) s2) (fun h39 => [(0, .ref 251), (1, .int x1), (2, .int x2), (3, .int x3), (4, .int x4)]) (fun h39 => []) (fun h39 => h39) [kd 276 = 20 ∧ inb s1 (ln 276)] (by decide +kernel) rfl ⟨kd_276, g38⟩ hO (fun h39 hO => ?_)
        refine rb hG 5 41 43 [.aload 0, .iload 2] [] [] [(0, .ref 251), (1, .int x1), (2, .int x2), (3, .int x3), (4, .int x4)] [.int x2, .ref 251] h39 [] (by decide +kernel) rfl trivial ?_
        refine riN hG (7) 50 43 (by decide +kernel) (by decide) (fun c40 => ?_) (fun c40 => ?_)
        · have hO := ok_pos c40 hO
          refine rb hG 5 46 56 [.ldc_w 0] [-1] [] [(0, .ref 251), (1, .int x1), (2, .int x2), (3, .int x3), (4, .int x4)] [.int (-1 : Int32), .ref 251] h39 [] (by decide +kernel) rfl trivial ?_
          exact j56 x2 x3 x4 (-1 : Int32) h39 hO
        · have hO := ok_neg c40 hO
          obtain ⟨g41, hO⟩ := ok_if hO
          refine rb hG 7 50 56 [.aload 0, .invokeinterface 1251 26, .iload 3, .iaload] [] [] [(0, .ref 251), (1, .int x1), (2, .int x2), (3, .int x3), (4, .int x4)] [.int (h39.1 277 (Int32.toNatClampNeg x3)), .ref 251] h39 [kd 251 = 12, kd 277 = 20 ∧ inb x3 (ln 277)] (by decide +kernel) rfl ⟨kd_251, ⟨kd_277, g41⟩⟩ ?_
          exact j56 x2 x3 x4 (h39.1 277 (Int32.toNatClampNeg x3)) h39 hO
      unfold M_listen_b12 at hO
      refine rb hG 5 12 15 [.iload 4, .aload 0] [] [] [(0, .ref 251), (1, .int x1), (2, .int x2), (3, .int x3), (4, .int x4)] [.ref 251, .int x4] h [] (by decide +kernel) rfl trivial ?_
      refine rv hG z_M_rowsHeard 460 0 15 251 [] [.int x4] (by decide +kernel) mk_M_rowsHeard lk_12_460 rcv_251 rfl ⟨rfl, Nat.le_of_ble_eq_true rfl⟩ (c_M_rowsHeard (d := d + 1) h (ok_bind hO)) ?_
      rintro _ _ ⟨r42, rfl, rfl, hO⟩
      refine rj hG .gt (251) 269 18 (by decide +kernel) (by decide) (fun c43 => ?_) (fun c43 => ?_)
      · have hO := ok_pos c43 hO
        refine rs hG [] [] rfl ?_
        exact j269 h (ok_inr hO)
      · have hO := ok_neg c43 hO
        refine rb hG 9 21 32 [.aload 0, .invokeinterface 1250 25, .iload 4, .aload 0, .getfield 1225, .ldc_w 0] [1] [] [(0, .ref 251), (1, .int x1), (2, .int x2), (3, .int x3), (4, .int x4)] [.int (1 : Int32), .int (h.1 251 25), .int x4, .ref 276] h [kd 251 = 12, kd 251 = 12] (by decide +kernel) rfl ⟨kd_251, kd_251⟩ ?_
        refine rjN hG (7) 39 32 (by decide +kernel) (by decide) (fun c44 => ?_) (fun c44 => ?_)
        · have hO := ok_pos c44 hO
          refine rb hG 5 35 40 [.ldc_w 0] [0] [] [(0, .ref 251), (1, .int x1), (2, .int x2), (3, .int x3), (4, .int x4)] [.int (0 : Int32), .int x4, .ref 276] h [] (by decide +kernel) rfl trivial ?_
          exact j40 x2 x3 x4 x4 (0 : Int32) h hO
        · have hO := ok_neg c44 hO
          refine rb hG 4 39 40 [.ldc_w 0] [-1] [] [(0, .ref 251), (1, .int x1), (2, .int x2), (3, .int x3), (4, .int x4)] [.int (-1 : Int32), .int x4, .ref 276] h [] (by decide +kernel) rfl trivial ?_
          exact j40 x2 x3 x4 x4 (-1 : Int32) h hO
    rw [eH12] at w9
    exact w9
  refine rbx hG 10 0 9 [.ldc_w 0, .istore 2, .ldc_w 0, .istore 3, .aload 0, .ldc_w 1, .checkcast 1253] [0, 1] [] (wr h 251 53 (1 : Int32)) (fun h45 => [(3, .int (0 : Int32)), (2, .int (0 : Int32)), (0, .ref 251), (1, .int x1)]) (fun h45 => []) (fun h45 => h45) [kd 251 = 12 ∧ ((1 : Int32) = 0 ∨ (1 : Int32) = 1)] (by decide +kernel) rfl ⟨kd_251, Or.inr rfl⟩ hO (fun h45 hO => ?_)
  refine rb hG 5 9 12 [.ldc_w 0, .istore 4] [0] [] [(4, .int (0 : Int32)), (3, .int (0 : Int32)), (2, .int (0 : Int32)), (0, .ref 251), (1, .int x1)] [] h45 [] (by decide +kernel) rfl trivial ?_
  refine rs hG [(0, .ref 251), (1, .int x1), (2, .int (0 : Int32)), (3, .int (0 : Int32)), (4, .int (0 : Int32))] [3, 4, 2, 1, 0] rfl ?_
  exact l12 (0 : Int32) (0 : Int32) (0 : Int32) h45 hO
/-! GrainInnModel.fits(IIII)I -/
noncomputable def M_fits_j29 (h : Hp) : Option (Int32 × Hp) := some ((-1 : Int32), h)
noncomputable def M_fits_j185 (s0 : Int32) (h : Hp) : Option (Int32 × Hp) := some (s0, h)
noncomputable def M_fits_j184 (h : Hp) : Option (Int32 × Hp) := (M_fits_j185 (-1 : Int32) h)
noncomputable def M_fits_j146 (s0 : Int32) (h : Hp) : Option (Int32 × Hp) := some (s0, h)
noncomputable def M_fits_j121 (h : Hp) : Option (Int32 × Hp) := (M_fits_j146 (0 : Int32) h)
noncomputable def M_fits_j99 (s0 : Int32) (h : Hp) : Option (Int32 × Hp) := some (s0, h)
noncomputable def M_fits_j81 (x4 : Int32) (x5 : Int32) (h : Hp) : Option (Int32 × Hp) := if x4 = 0 then (if (h.1 251 53) = 0 then ((M_fits_j99 (0 : Int32) h)) else ((M_fits_j99 x5 h))) else (if x4 = (1 : Int32) then (if (h.1 251 53) = 0 then ((M_fits_j121 h)) else (if (h.1 251 52) = (-1 : Int32) then ((M_fits_j121 h)) else (if inb (h.1 251 52) (ln 276) then (if (h.1 276 (Int32.toNatClampNeg (h.1 251 52))) = (-1 : Int32) then ((M_fits_j146 (h.1 251 25) h)) else ((M_fits_j146 (1 : Int32) h))) else none))) else (if (h.1 251 53) = 0 then ((M_fits_j184 h)) else ((M_rowsHeard h).bind fun r9 => (M_in x4 (10 : Int32) ((9 : Int32) + r9)).bind fun r10 => if r10 = 0 then ((M_fits_j184 h)) else (if inb (x4 - (10 : Int32)) (ln 276) then ((M_fits_j185 (h.1 276 (Int32.toNatClampNeg (x4 - (10 : Int32)))) h)) else none))))
noncomputable def M_fits_j72 (x4 : Int32) (x6 : Int32) (s0 : Int32) (s1 : Int32) (h : Hp) : Option ((Int32 × Int32) ⊕ (Int32 × Hp)) := bnd ((s0 * s1)) fun y13 => bnd ((x6 + (1 : Int32))) fun y14 => some (.inl (y13, y14))
noncomputable def M_fits_b42 (x4 : Int32) (x5 : Int32) (x6 : Int32) (h : Hp) : Option ((Int32 × Int32) ⊕ (Int32 × Hp)) := (M_rowsHeard h).bind fun r15 => if r15 ≤ x6 then (((M_fits_j81 x4 x5 h).map Sum.inr)) else (if inb x6 (ln 276) then (if (h.1 276 (Int32.toNatClampNeg x6)) = (-1 : Int32) then ((M_fits_j72 x4 x6 x5 (h.1 251 25) h)) else ((M_fits_j72 x4 x6 x5 (1 : Int32) h))) else none)
noncomputable def M_fits_l42 (x4 : Int32) (x5 : Int32) (x6 : Int32) (h : Hp) : Option (Int32 × Hp) := lp (fun s : (Int32 × Int32) => M_fits_b42 x4 s.1 s.2 h) (x5, x6)
theorem M_fits_l42_eq (x4 : Int32) (x5 : Int32) (x6 : Int32) (h : Hp) : M_fits_l42 x4 x5 x6 h = (M_fits_b42 x4 x5 x6 h).bind (Sum.elim (fun q : (Int32 × Int32) => M_fits_l42 x4 q.1 q.2 h) some) := lp_eq _ _
noncomputable def M_fits (h : Hp) (x1 : Int32) (x2 : Int32) (x3 : Int32) (x4 : Int32) : Option (Int32 × Hp) := bnd (wr h 251 0 (0 : Int32)) fun h19 => (M_hasHearing h19 x2).bind fun (r20, h21) => if r20 = 0 then ((M_fits_j29 h21)) else ((M_hand h21 x1).bind fun (r23, h24) => if r23 = 0 then ((M_fits_j29 h24)) else ((M_isTable h24 x3).bind fun r26 => if r26 = 0 then ((M_fits_j29 h24)) else ((M_listen h24 x3).bind fun h28 => (M_fits_l42 x4 (1 : Int32) (0 : Int32) h28))))
set_option maxRecDepth 100000 in
set_option maxHeartbeats 4000000 in
theorem c_M_fits {E : En} {d : Nat} (h : Hp) (x1 : Int32) (x2 : Int32) (x3 : Int32) (x4 : Int32) {P : (Int32 × Hp) → Prop} (hO : Okk (M_fits h x1 x2 x3 x4) P) : Cn E (d + 4) z_M_fits [.ref 251, .int x1, .int x2, .int x3, .int x4] h (RI P) := by
  refine cn_of (on := 12) (d := d + 3) ⟨rfl, by decide +kernel, Nat.le_of_ble_eq_true rfl⟩ (fun G hG => ?_)
  unfold M_fits at hO
  show G 0 [(0, .ref 251), (1, .int x1), (2, .int x2), (3, .int x3), (4, .int x4)] [] h
  have j29 : ∀ (h : Hp), Okk (M_fits_j29 h) P → G 29 [] [] h := by
    intro h hO
    unfold M_fits_j29 at hO
    refine rb hG 4 29 30 [.ldc_w 0] [-1] [] [] [.int (-1 : Int32)] h [] (by decide +kernel) rfl trivial ?_
    exact eI hG 30 (by decide +kernel) rfl ⟨(-1 : Int32), rfl, ok_some (Q := P) hO⟩
  have j185 : ∀ (s0 : Int32) (h : Hp), Okk (M_fits_j185 s0 h) P → G 185 [] [.int s0] h := by
    intro s0 h hO
    unfold M_fits_j185 at hO
    exact eI hG 185 (by decide +kernel) rfl ⟨s0, rfl, ok_some (Q := P) hO⟩
  have j184 : ∀ (h : Hp), Okk (M_fits_j184 h) P → G 184 [] [] h := by
    intro h hO
    unfold M_fits_j184 at hO
    refine rb hG 4 184 185 [.ldc_w 0] [-1] [] [] [.int (-1 : Int32)] h [] (by decide +kernel) rfl trivial ?_
    exact j185 (-1 : Int32) h hO
  have j146 : ∀ (s0 : Int32) (h : Hp), Okk (M_fits_j146 s0 h) P → G 146 [] [.int s0] h := by
    intro s0 h hO
    unfold M_fits_j146 at hO
    exact eI hG 146 (by decide +kernel) rfl ⟨s0, rfl, ok_some (Q := P) hO⟩
  have j121 : ∀ (h : Hp), Okk (M_fits_j121 h) P → G 121 [] [] h := by
    intro h hO
    unfold M_fits_j121 at hO
    refine rb hG 5 121 146 [.ldc_w 0] [0] [] [] [.int (0 : Int32)] h [] (by decide +kernel) rfl trivial ?_
    exact j146 (0 : Int32) h hO
  have j99 : ∀ (s0 : Int32) (h : Hp), Okk (M_fits_j99 s0 h) P → G 99 [] [.int s0] h := by
    intro s0 h hO
    unfold M_fits_j99 at hO
    exact eI hG 99 (by decide +kernel) rfl ⟨s0, rfl, ok_some (Q := P) hO⟩
  have j81 : ∀ (x5 : Int32) (h : Hp), Okk (M_fits_j81 x4 x5 h) P → G 81 [(0, .ref 251), (4, .int x4), (5, .int x5)] [] h := by
    intro x5 h hO
    unfold M_fits_j81 at hO
    refine rb hG 4 81 83 [.iload 4] [] [] [(0, .ref 251), (4, .int x4), (5, .int x5)] [.int x4] h [] (by decide +kernel) rfl trivial ?_
    refine riN hG (17) 100 83 (by decide +kernel) (by decide) (fun c1 => ?_) (fun c1 => ?_)
    · have hO := ok_pos c1 hO
      refine rb hG 5 86 90 [.aload 0, .getfield 1253] [] [] [(0, .ref 251), (4, .int x4), (5, .int x5)] [.int (h.1 251 53)] h [kd 251 = 12] (by decide +kernel) rfl kd_251 ?_
      refine ri hG .eq (8) 98 90 (by decide +kernel) (by decide) (fun c2 => ?_) (fun c2 => ?_)
      · have hO := ok_pos c2 hO
        refine rb hG 4 98 99 [.ldc_w 0] [0] [] [(0, .ref 251), (4, .int x4), (5, .int x5)] [.int (0 : Int32)] h [] (by decide +kernel) rfl trivial ?_
        refine rs hG [] [] rfl ?_
        exact j99 (0 : Int32) h hO
      · have hO := ok_neg c2 hO
        refine rb hG 5 93 99 [.iload 5] [] [] [(0, .ref 251), (4, .int x4), (5, .int x5)] [.int x5] h [] (by decide +kernel) rfl trivial ?_
        refine rs hG [] [] rfl ?_
        exact j99 x5 h hO
    · have hO := ok_neg c1 hO
      refine rb hG 5 100 103 [.iload 4, .ldc_w 0] [1] [] [(0, .ref 251), (4, .int x4), (5, .int x5)] [.int (1 : Int32), .int x4] h [] (by decide +kernel) rfl trivial ?_
      refine rjN hG (44) 147 103 (by decide +kernel) (by decide) (fun c3 => ?_) (fun c3 => ?_)
      · have hO := ok_pos c3 hO
        refine rb hG 5 106 110 [.aload 0, .getfield 1253] [] [] [(0, .ref 251), (4, .int x4), (5, .int x5)] [.int (h.1 251 53)] h [kd 251 = 12] (by decide +kernel) rfl kd_251 ?_
        refine ri hG .eq (11) 121 110 (by decide +kernel) (by decide) (fun c4 => ?_) (fun c4 => ?_)
        · have hO := ok_pos c4 hO
          refine rs hG [] [] rfl ?_
          exact j121 h hO
        · have hO := ok_neg c4 hO
          refine rb hG 6 113 118 [.aload 0, .getfield 1252, .ldc_w 0] [-1] [] [(0, .ref 251), (4, .int x4), (5, .int x5)] [.int (-1 : Int32), .int (h.1 251 52)] h [kd 251 = 12] (by decide +kernel) rfl kd_251 ?_
          refine rjN hG (7) 125 118 (by decide +kernel) (by decide) (fun c5 => ?_) (fun c5 => ?_)
          · have hO := ok_pos c5 hO
            refine rs hG [] [] rfl ?_
            exact j121 h hO
          · have hO := ok_neg c5 hO
            obtain ⟨g6, hO⟩ := ok_if hO
            refine rb hG 9 125 135 [.aload 0, .invokeinterface 1250 25, .aload 0, .getfield 1252, .iaload, .ldc_w 0] [-1] [] [(0, .ref 251), (4, .int x4), (5, .int x5)] [.int (-1 : Int32), .int (h.1 276 (Int32.toNatClampNeg (h.1 251 52)))] h [kd 251 = 12, kd 251 = 12, kd 276 = 20 ∧ inb (h.1 251 52) (ln 276)] (by decide +kernel) rfl ⟨kd_251, kd_251, ⟨kd_276, g6⟩⟩ ?_
            refine rjN hG (10) 145 135 (by decide +kernel) (by decide) (fun c7 => ?_) (fun c7 => ?_)
            · have hO := ok_pos c7 hO
              refine rb hG 6 138 146 [.aload 0, .getfield 1225] [] [] [(0, .ref 251), (4, .int x4), (5, .int x5)] [.int (h.1 251 25)] h [kd 251 = 12] (by decide +kernel) rfl kd_251 ?_
              refine rs hG [] [] rfl ?_
              exact j146 (h.1 251 25) h hO
            · have hO := ok_neg c7 hO
              refine rb hG 4 145 146 [.ldc_w 0] [1] [] [(0, .ref 251), (4, .int x4), (5, .int x5)] [.int (1 : Int32)] h [] (by decide +kernel) rfl trivial ?_
              refine rs hG [] [] rfl ?_
              exact j146 (1 : Int32) h hO
      · have hO := ok_neg c3 hO
        refine rb hG 5 147 151 [.aload 0, .getfield 1253] [] [] [(0, .ref 251), (4, .int x4), (5, .int x5)] [.int (h.1 251 53)] h [kd 251 = 12] (by decide +kernel) rfl kd_251 ?_
        refine ri hG .eq (33) 184 151 (by decide +kernel) (by decide) (fun c8 => ?_) (fun c8 => ?_)
        · have hO := ok_pos c8 hO
          refine rs hG [] [] rfl ?_
          exact j184 h hO
        · have hO := ok_neg c8 hO
          refine rb hG 7 154 161 [.iload 4, .ldc_w 0, .ldc_w 1, .aload 0] [10, 9] [] [(0, .ref 251), (4, .int x4), (5, .int x5)] [.ref 251, .int (9 : Int32), .int (10 : Int32), .int x4] h [] (by decide +kernel) rfl trivial ?_
          refine rv hG z_M_rowsHeard 460 0 161 251 [] [.int (9 : Int32), .int (10 : Int32), .int x4] (by decide +kernel) mk_M_rowsHeard lk_12_460 rcv_251 rfl ⟨rfl, Nat.le_of_ble_eq_true rfl⟩ (c_M_rowsHeard (d := d + 2) h (ok_bind hO)) ?_
          rintro _ _ ⟨r9, rfl, rfl, hO⟩
          refine rb hG 4 164 165 [.iadd] [] [] [(0, .ref 251), (4, .int x4), (5, .int x5)] [.int ((9 : Int32) + r9), .int (10 : Int32), .int x4] h [] (by decide +kernel) rfl trivial ?_
          refine rt hG z_M_in 111 3 165 [.int x4, .int (10 : Int32), .int ((9 : Int32) + r9)] [] (by decide +kernel) mk_M_in lk_12_111 rfl ⟨rfl, Nat.le_of_ble_eq_true rfl⟩ (c_M_in (d := d + 2) h x4 (10 : Int32) ((9 : Int32) + r9) (ok_bind hO)) ?_
          rintro _ _ ⟨r10, rfl, rfl, hO⟩
          refine ri hG .eq (16) 184 168 (by decide +kernel) (by decide) (fun c11 => ?_) (fun c11 => ?_)
          · have hO := ok_pos c11 hO
            refine rs hG [] [] rfl ?_
            exact j184 h hO
          · have hO := ok_neg c11 hO
            obtain ⟨g12, hO⟩ := ok_if hO
            refine rb hG 10 171 185 [.aload 0, .invokeinterface 1250 25, .iload 4, .ldc_w 0, .isub, .iaload] [10] [] [(0, .ref 251), (4, .int x4), (5, .int x5)] [.int (h.1 276 (Int32.toNatClampNeg (x4 - (10 : Int32))))] h [kd 251 = 12, kd 276 = 20 ∧ inb (x4 - (10 : Int32)) (ln 276)] (by decide +kernel) rfl ⟨kd_251, ⟨kd_276, g12⟩⟩ ?_
            refine rs hG [] [] rfl ?_
            exact j185 (h.1 276 (Int32.toNatClampNeg (x4 - (10 : Int32)))) h hO
  have l42 : ∀ (x5 : Int32) (x6 : Int32) (h : Hp), Okk (M_fits_l42 x4 x5 x6 h) P → G 42 [(0, .ref 251), (4, .int x4), (5, .int x5), (6, .int x6)] [] h := by
    intro x5 x6 h hO
    obtain ⟨H42, eH42⟩ : ∃ q : (Int32 × Int32) → Prop, q = fun s => G 42 [(0, .ref 251), (4, .int x4), (5, .int (s.1)), (6, .int (s.2))] [] (h) := ⟨_, rfl⟩
    have w9 : H42 (x5, x6) := by
      refine lp_wp (f := fun s : (Int32 × Int32) => M_fits_b42 x4 s.1 s.2 h) (H := H42) (Q := P) ?_ (x5, x6) hO
      rintro ⟨x5, x6⟩ hO
      rw [eH42]
      show G 42 [(0, .ref 251), (4, .int x4), (5, .int x5), (6, .int x6)] [] h
      have k42 : ∀ s : (Int32 × Int32), H42 s → G 42 [(0, .ref 251), (4, .int x4), (5, .int (s.1)), (6, .int (s.2))] [] (h) := fun s q => by rw [eH42] at q; exact q
      replace hO : Okk (M_fits_b42 x4 x5 x6 h) (Sum.elim H42 P) := hO
      clear eH42
      have j72 : ∀ (x6 : Int32) (s0 : Int32) (s1 : Int32), Okk (M_fits_j72 x4 x6 s0 s1 h) (Sum.elim H42 P) → G 72 [(0, .ref 251), (4, .int x4), (6, .int x6)] [.int s1, .int s0] h := by
        intro x6 s0 s1 hO
        unfold M_fits_j72 at hO
        refine rbx hG 5 72 75 [.imul, .istore 5] [] [] ((s0 * s1)) (fun y13 => [(5, .int y13), (0, .ref 251), (4, .int x4), (6, .int x6)]) (fun y13 => []) (fun y13 => h) [] (by decide +kernel) rfl trivial hO (fun y13 hO => ?_)
        refine rbx hG 4 75 78 [.iinc 6 0] [1] [] ((x6 + (1 : Int32))) (fun y14 => [(6, .int y14), (5, .int y13), (0, .ref 251), (4, .int x4)]) (fun y14 => []) (fun y14 => h) [] (by decide +kernel) rfl trivial hO (fun y14 hO => ?_)
        refine rb hG 4 78 42 [] [] [] [(6, .int y14), (5, .int y13), (0, .ref 251), (4, .int x4)] [] h [] (by decide +kernel) rfl trivial ?_
        refine rs hG [(0, .ref 251), (4, .int x4), (5, .int y13), (6, .int y14)] [2, 3, 1, 0] rfl ?_
        exact k42 (y13, y14) (ok_some (Q := (Sum.elim H42 P)) hO)
      unfold M_fits_b42 at hO
      refine rb hG 5 42 45 [.iload 6, .aload 0] [] [] [(0, .ref 251), (4, .int x4), (5, .int x5), (6, .int x6)] [.ref 251, .int x6] h [] (by decide +kernel) rfl trivial ?_
      refine rv hG z_M_rowsHeard 460 0 45 251 [] [.int x6] (by decide +kernel) mk_M_rowsHeard lk_12_460 rcv_251 rfl ⟨rfl, Nat.le_of_ble_eq_true rfl⟩ (c_M_rowsHeard (d := d + 2) h (ok_bind hO)) ?_
      rintro _ _ ⟨r15, rfl, rfl, hO⟩
      refine rj hG .ge (33) 81 48 (by decide +kernel) (by decide) (fun c16 => ?_) (fun c16 => ?_)
      · have hO := ok_pos c16 hO
        refine rs hG [(0, .ref 251), (4, .int x4), (5, .int x5)] [0, 1, 2] rfl ?_
        exact j81 x5 h (ok_inr hO)
      · have hO := ok_neg c16 hO
        obtain ⟨g17, hO⟩ := ok_if hO
        refine rb hG 9 51 61 [.iload 5, .aload 0, .invokeinterface 1250 25, .iload 6, .iaload, .ldc_w 0] [-1] [] [(0, .ref 251), (4, .int x4), (5, .int x5), (6, .int x6)] [.int (-1 : Int32), .int (h.1 276 (Int32.toNatClampNeg x6)), .int x5] h [kd 251 = 12, kd 276 = 20 ∧ inb x6 (ln 276)] (by decide +kernel) rfl ⟨kd_251, ⟨kd_276, g17⟩⟩ ?_
        refine rjN hG (10) 71 61 (by decide +kernel) (by decide) (fun c18 => ?_) (fun c18 => ?_)
        · have hO := ok_pos c18 hO
          refine rb hG 6 64 72 [.aload 0, .getfield 1225] [] [] [(0, .ref 251), (4, .int x4), (5, .int x5), (6, .int x6)] [.int (h.1 251 25), .int x5] h [kd 251 = 12] (by decide +kernel) rfl kd_251 ?_
          refine rs hG [(0, .ref 251), (4, .int x4), (6, .int x6)] [0, 1, 3] rfl ?_
          exact j72 x6 x5 (h.1 251 25) hO
        · have hO := ok_neg c18 hO
          refine rb hG 4 71 72 [.ldc_w 0] [1] [] [(0, .ref 251), (4, .int x4), (5, .int x5), (6, .int x6)] [.int (1 : Int32), .int x5] h [] (by decide +kernel) rfl trivial ?_
          refine rs hG [(0, .ref 251), (4, .int x4), (6, .int x6)] [0, 1, 3] rfl ?_
          exact j72 x6 x5 (1 : Int32) hO
    rw [eH42] at w9
    exact w9
  refine rbx hG 6 0 5 [.aload 0, .ldc_w 0, .putfield 1200] [0] [] (wr h 251 0 (0 : Int32)) (fun h19 => [(0, .ref 251), (1, .int x1), (2, .int x2), (3, .int x3), (4, .int x4)]) (fun h19 => []) (fun h19 => h19) [kd 251 = 12] (by decide +kernel) rfl kd_251 hO (fun h19 hO => ?_)
  refine rb hG 5 5 7 [.aload 0, .iload 2] [] [] [(0, .ref 251), (1, .int x1), (2, .int x2), (3, .int x3), (4, .int x4)] [.int x2, .ref 251] h19 [] (by decide +kernel) rfl trivial ?_
  refine rv hG z_M_hasHearing 457 1 7 251 [.int x2] [] (by decide +kernel) mk_M_hasHearing lk_12_457 rcv_251 rfl ⟨rfl, Nat.le_of_ble_eq_true rfl⟩ (c_M_hasHearing (d := d) h19 x2 (ok_bind hO)) ?_
  rintro _ h21 ⟨r20, rfl, hO⟩
  refine ri hG .eq (19) 29 10 (by decide +kernel) (by decide) (fun c22 => ?_) (fun c22 => ?_)
  · have hO := ok_pos c22 hO
    refine rs hG [] [] rfl ?_
    exact j29 h21 hO
  · have hO := ok_neg c22 hO
    refine rb hG 5 13 15 [.aload 0, .iload 1] [] [] [(0, .ref 251), (1, .int x1), (2, .int x2), (3, .int x3), (4, .int x4)] [.int x1, .ref 251] h21 [] (by decide +kernel) rfl trivial ?_
    refine rv hG z_M_hand 280 1 15 251 [.int x1] [] (by decide +kernel) mk_M_hand lk_12_280 rcv_251 rfl ⟨rfl, Nat.le_of_ble_eq_true rfl⟩ (c_M_hand (d := d) h21 x1 (ok_bind hO)) ?_
    rintro _ h24 ⟨r23, rfl, hO⟩
    refine ri hG .eq (11) 29 18 (by decide +kernel) (by decide) (fun c25 => ?_) (fun c25 => ?_)
    · have hO := ok_pos c25 hO
      refine rs hG [] [] rfl ?_
      exact j29 h24 hO
    · have hO := ok_neg c25 hO
      refine rb hG 5 21 23 [.aload 0, .iload 3] [] [] [(0, .ref 251), (1, .int x1), (2, .int x2), (3, .int x3), (4, .int x4)] [.int x3, .ref 251] h24 [] (by decide +kernel) rfl trivial ?_
      refine rv hG z_M_isTable 338 1 23 251 [.int x3] [] (by decide +kernel) mk_M_isTable lk_12_338 rcv_251 rfl ⟨rfl, Nat.le_of_ble_eq_true rfl⟩ (c_M_isTable (d := d + 1) h24 x3 (ok_bind hO)) ?_
      rintro _ _ ⟨r26, rfl, rfl, hO⟩
      refine riN hG (5) 31 26 (by decide +kernel) (by decide) (fun c27 => ?_) (fun c27 => ?_)
      · have hO := ok_pos c27 hO
        refine rs hG [] [] rfl ?_
        exact j29 h24 hO
      · have hO := ok_neg c27 hO
        refine rb hG 5 31 33 [.aload 0, .iload 3] [] [] [(0, .ref 251), (1, .int x1), (2, .int x2), (3, .int x3), (4, .int x4)] [.int x3, .ref 251] h24 [] (by decide +kernel) rfl trivial ?_
        refine rv hG z_M_listen 472 1 33 251 [.int x3] [] (by decide +kernel) mk_M_listen lk_12_472 rcv_251 rfl ⟨rfl, Nat.le_of_ble_eq_true rfl⟩ (c_M_listen (d := d) h24 x3 (ok_bind hO)) ?_
        rintro _ h28 ⟨rfl, hO⟩
        refine rb hG 7 36 42 [.ldc_w 0, .istore 5, .ldc_w 1, .istore 6] [1, 0] [] [(6, .int (0 : Int32)), (5, .int (1 : Int32)), (0, .ref 251), (1, .int x1), (2, .int x2), (3, .int x3), (4, .int x4)] [] h28 [] (by decide +kernel) rfl trivial ?_
        refine rs hG [(0, .ref 251), (4, .int x4), (5, .int (1 : Int32)), (6, .int (0 : Int32))] [2, 6, 1, 0] rfl ?_
        exact l42 (1 : Int32) (0 : Int32) h28 hO
/-! GrainInn.House.hasCouple(II)Z -/
noncomputable def H_hasCouple_j26 (x0 : Nat) (s0 : Int32) (h : Hp) : Option Int32 := if s0 = 0 ∨ s0 = 1 then (some s0) else none
noncomputable def H_hasCouple_j25 (x0 : Nat) (h : Hp) : Option Int32 := (H_hasCouple_j26 x0 (0 : Int32) h)
noncomputable def H_hasCouple (h : Hp) (x0 : Nat) (x1 : Int32) (x2 : Int32) : Option Int32 := if kd x0 = 1 then ((H_hasGuest h x0 x1).bind fun r2 => if r2 = 0 then ((H_hasCouple_j25 x0 h)) else ((H_hasGuest h x0 x2).bind fun r4 => if r4 = 0 then ((H_hasCouple_j25 x0 h)) else (if x1 = x2 then ((H_hasCouple_j25 x0 h)) else ((H_hasCouple_j26 x0 (1 : Int32) h))))) else none
set_option maxRecDepth 100000 in
set_option maxHeartbeats 4000000 in
theorem c_H_hasCouple {E : En} {d : Nat} (h : Hp) (x0 : Nat) (x1 : Int32) (x2 : Int32) {P : Int32 → Prop} (hO : Okk (H_hasCouple h x0 x1 x2) P) : Cn E (d + 2) z_H_hasCouple [.ref x0, .int x1, .int x2] h (RIp h P) := by
  refine cn_of (on := 1) (d := d + 1) ⟨rfl, by decide +kernel, Nat.le_of_ble_eq_true rfl⟩ (fun G hG => ?_)
  unfold H_hasCouple at hO
  show G 0 [(0, .ref x0), (1, .int x1), (2, .int x2)] [] h
  obtain ⟨g0, hO⟩ := ok_if hO
  have j26 : ∀ (s0 : Int32), Okk (H_hasCouple_j26 x0 s0 h) P → G 26 [] [.int s0] h := by
    intro s0 hO
    unfold H_hasCouple_j26 at hO
    obtain ⟨g1, hO⟩ := ok_if hO
    exact eZ hG 26 (by decide +kernel) rfl g1 ⟨s0, rfl, rfl, ok_some (Q := P) hO⟩
  have j25 : Okk (H_hasCouple_j25 x0 h) P → G 25 [] [] h := by
    intro hO
    unfold H_hasCouple_j25 at hO
    refine rb hG 4 25 26 [.ldc_w 0] [0] [] [] [.int (0 : Int32)] h [] (by decide +kernel) rfl trivial ?_
    exact j26 (0 : Int32) hO
  refine rb hG 5 0 2 [.aload 0, .iload 1] [] [] [(0, .ref x0), (1, .int x1), (2, .int x2)] [.int x1, .ref x0] h [] (by decide +kernel) rfl trivial ?_
  refine rv hG z_H_hasGuest 50 1 2 x0 [.int x1] [] (by decide +kernel) mk_H_hasGuest lk_1_50 (rcv_H g0) rfl ⟨rfl, Nat.le_of_ble_eq_true rfl⟩ (c_H_hasGuest (d := d) h x0 x1 (ok_bind hO)) ?_
  rintro _ _ ⟨r2, rfl, rfl, hO⟩
  refine ri hG .eq (20) 25 5 (by decide +kernel) (by decide) (fun c3 => ?_) (fun c3 => ?_)
  · have hO := ok_pos c3 hO
    refine rs hG [] [] rfl ?_
    exact j25 hO
  · have hO := ok_neg c3 hO
    refine rb hG 5 8 10 [.aload 0, .iload 2] [] [] [(0, .ref x0), (1, .int x1), (2, .int x2)] [.int x2, .ref x0] h [] (by decide +kernel) rfl trivial ?_
    refine rv hG z_H_hasGuest 50 1 10 x0 [.int x2] [] (by decide +kernel) mk_H_hasGuest lk_1_50 (rcv_H g0) rfl ⟨rfl, Nat.le_of_ble_eq_true rfl⟩ (c_H_hasGuest (d := d) h x0 x2 (ok_bind hO)) ?_
    rintro _ _ ⟨r4, rfl, rfl, hO⟩
    refine ri hG .eq (12) 25 13 (by decide +kernel) (by decide) (fun c5 => ?_) (fun c5 => ?_)
    · have hO := ok_pos c5 hO
      refine rs hG [] [] rfl ?_
      exact j25 hO
    · have hO := ok_neg c5 hO
      refine rb hG 5 16 18 [.iload 1, .iload 2] [] [] [(0, .ref x0), (1, .int x1), (2, .int x2)] [.int x2, .int x1] h [] (by decide +kernel) rfl trivial ?_
      refine rj hG .eq (7) 25 18 (by decide +kernel) (by decide) (fun c6 => ?_) (fun c6 => ?_)
      · have hO := ok_pos c6 hO
        refine rs hG [] [] rfl ?_
        exact j25 hO
      · have hO := ok_neg c6 hO
        refine rb hG 5 21 26 [.ldc_w 0] [1] [] [(0, .ref x0), (1, .int x1), (2, .int x2)] [.int (1 : Int32)] h [] (by decide +kernel) rfl trivial ?_
        refine rs hG [] [] rfl ?_
        exact j26 (1 : Int32) hO
/-! GrainInn.State.gainOf(IIII)I -/
noncomputable def S_gainOf_j144 (x8 : Int32) (h : Hp) : Option Int32 := some x8
noncomputable def S_gainOf_j141 (s0 : Int32) (s1 : Int32) (h : Hp) : Option Int32 := bnd ((s0 - s1)) fun y1 => (S_gainOf_j144 y1 h)
noncomputable def S_gainOf_j122 (x2 : Int32) (x7 : Int32) (s0 : Int32) (s1 : Int32) (h : Hp) : Option Int32 := bnd ((s0 + s1)) fun y2 => (K_isIn x7 x2).bind fun r3 => if r3 = 0 then ((S_gainOf_j141 y2 (0 : Int32) h)) else ((S_gainOf_j141 y2 (3 : Int32) h))
noncomputable def S_gainOf_j100 (x2 : Int32) (x3 : Int32) (x4 : Int32) (x6 : Int32) (x7 : Int32) (x8 : Int32) (h : Hp) : Option Int32 := if x3 = x4 then ((K_isIn x6 x2).bind fun r6 => if r6 = 0 then ((S_gainOf_j122 x2 x7 x8 (0 : Int32) h)) else ((S_gainOf_j122 x2 x7 x8 (3 : Int32) h))) else ((S_gainOf_j144 x8 h))
noncomputable def S_gainOf_b48 (x2 : Int32) (x3 : Int32) (x4 : Int32) (x5 : Nat) (x6 : Int32) (x7 : Int32) (x8 : Int32) (x9 : Int32) (h : Hp) : Option ((Int32 × Int32) ⊕ Int32) := if kd x5 = 0 then (if (h.1 x5 3) ≤ x9 then (((S_gainOf_j100 x2 x3 x4 x6 x7 x8 h).map Sum.inr)) else ((B_guestsOf h x5 x9).bind fun r10 => (J_bitCount (r10 &&& x6)).bind fun r11 => bnd ((x8 + r11)) fun y12 => (B_guestsOf h x5 x9).bind fun r13 => (J_bitCount (r13 &&& x7)).bind fun r14 => bnd ((y12 - r14)) fun y15 => bnd ((x9 + (1 : Int32))) fun y16 => some (.inl (y15, y16)))) else none
noncomputable def S_gainOf_l48 (x2 : Int32) (x3 : Int32) (x4 : Int32) (x5 : Nat) (x6 : Int32) (x7 : Int32) (x8 : Int32) (x9 : Int32) (h : Hp) : Option Int32 := lp (fun s : (Int32 × Int32) => S_gainOf_b48 x2 x3 x4 x5 x6 x7 s.1 s.2 h) (x8, x9)
theorem S_gainOf_l48_eq (x2 : Int32) (x3 : Int32) (x4 : Int32) (x5 : Nat) (x6 : Int32) (x7 : Int32) (x8 : Int32) (x9 : Int32) (h : Hp) : S_gainOf_l48 x2 x3 x4 x5 x6 x7 x8 x9 h = (S_gainOf_b48 x2 x3 x4 x5 x6 x7 x8 x9 h).bind (Sum.elim (fun q : (Int32 × Int32) => S_gainOf_l48 x2 x3 x4 x5 x6 x7 q.1 q.2 h) some) := lp_eq _ _
noncomputable def S_gainOf (h : Hp) (x1 : Int32) (x2 : Int32) (x3 : Int32) (x4 : Int32) : Option Int32 := (S_benchAt h x3).bind fun r17 => if r17 = 0 then (some (0 : Int32)) else (if kd (Int32.toNatClampNeg (h.1 57 6)) = 1 then ((H_lovesOf h (Int32.toNatClampNeg (h.1 57 6)) x1).bind fun r20 => (H_quarrelsOf h (Int32.toNatClampNeg (h.1 57 6)) x1).bind fun r21 => (H_priceOf h (Int32.toNatClampNeg (h.1 57 6)) x3).bind fun r22 => bnd ((-r22)) fun y23 => (S_gainOf_l48 x2 x3 x4 r17 r20 r21 y23 (0 : Int32) h)) else none)
set_option maxRecDepth 100000 in
set_option maxHeartbeats 4000000 in
theorem c_S_gainOf {E : En} {d : Nat} (h : Hp) (x1 : Int32) (x2 : Int32) (x3 : Int32) (x4 : Int32) {P : Int32 → Prop} (hO : Okk (S_gainOf h x1 x2 x3 x4) P) : Cn E (d + 3) z_S_gainOf [.ref 57, .int x1, .int x2, .int x3, .int x4] h (RIp h P) := by
  refine cn_of (on := 7) (d := d + 2) ⟨rfl, by decide +kernel, Nat.le_of_ble_eq_true rfl⟩ (fun G hG => ?_)
  unfold S_gainOf at hO
  show G 0 [(0, .ref 57), (1, .int x1), (2, .int x2), (3, .int x3), (4, .int x4)] [] h
  have j144 : ∀ (x8 : Int32), Okk (S_gainOf_j144 x8 h) P → G 144 [(8, .int x8)] [] h := by
    intro x8 hO
    unfold S_gainOf_j144 at hO
    refine rb hG 4 144 146 [.iload 8] [] [] [(8, .int x8)] [.int x8] h [] (by decide +kernel) rfl trivial ?_
    exact eI hG 146 (by decide +kernel) rfl ⟨x8, rfl, rfl, ok_some (Q := P) hO⟩
  have j141 : ∀ (s0 : Int32) (s1 : Int32), Okk (S_gainOf_j141 s0 s1 h) P → G 141 [] [.int s1, .int s0] h := by
    intro s0 s1 hO
    unfold S_gainOf_j141 at hO
    refine rbx hG 5 141 144 [.isub, .istore 8] [] [] ((s0 - s1)) (fun y1 => [(8, .int y1)]) (fun y1 => []) (fun y1 => h) [] (by decide +kernel) rfl trivial hO (fun y1 hO => ?_)
    exact j144 y1 hO
  have j122 : ∀ (x7 : Int32) (s0 : Int32) (s1 : Int32), Okk (S_gainOf_j122 x2 x7 s0 s1 h) P → G 122 [(2, .int x2), (7, .int x7)] [.int s1, .int s0] h := by
    intro x7 s0 s1 hO
    unfold S_gainOf_j122 at hO
    refine rbx hG 5 122 125 [.iadd, .istore 8] [] [] ((s0 + s1)) (fun y2 => [(8, .int y2), (2, .int x2), (7, .int x7)]) (fun y2 => []) (fun y2 => h) [] (by decide +kernel) rfl trivial hO (fun y2 hO => ?_)
    refine rb hG 6 125 130 [.iload 8, .iload 7, .iload 2] [] [] [(8, .int y2), (2, .int x2), (7, .int x7)] [.int x2, .int x7, .int y2] h [] (by decide +kernel) rfl trivial ?_
    refine rt hG z_K_isIn 73 2 130 [.int x7, .int x2] [.int y2] (by decide +kernel) mk_K_isIn lk_7_73 rfl ⟨rfl, Nat.le_of_ble_eq_true rfl⟩ (c_K_isIn (d := d + 1) h x7 x2 (ok_bind hO)) ?_
    rintro _ _ ⟨r3, rfl, rfl, hO⟩
    refine ri hG .eq (7) 140 133 (by decide +kernel) (by decide) (fun c4 => ?_) (fun c4 => ?_)
    · have hO := ok_pos c4 hO
      refine rb hG 4 140 141 [.ldc_w 0] [0] [] [(8, .int y2), (2, .int x2), (7, .int x7)] [.int (0 : Int32), .int y2] h [] (by decide +kernel) rfl trivial ?_
      refine rs hG [] [] rfl ?_
      exact j141 y2 (0 : Int32) hO
    · have hO := ok_neg c4 hO
      refine rb hG 5 136 141 [.ldc_w 0] [3] [] [(8, .int y2), (2, .int x2), (7, .int x7)] [.int (3 : Int32), .int y2] h [] (by decide +kernel) rfl trivial ?_
      refine rs hG [] [] rfl ?_
      exact j141 y2 (3 : Int32) hO
  have j100 : ∀ (x6 : Int32) (x7 : Int32) (x8 : Int32), Okk (S_gainOf_j100 x2 x3 x4 x6 x7 x8 h) P → G 100 [(2, .int x2), (3, .int x3), (4, .int x4), (6, .int x6), (7, .int x7), (8, .int x8)] [] h := by
    intro x6 x7 x8 hO
    unfold S_gainOf_j100 at hO
    refine rb hG 5 100 103 [.iload 3, .iload 4] [] [] [(2, .int x2), (3, .int x3), (4, .int x4), (6, .int x6), (7, .int x7), (8, .int x8)] [.int x4, .int x3] h [] (by decide +kernel) rfl trivial ?_
    refine rjN hG (41) 144 103 (by decide +kernel) (by decide) (fun c5 => ?_) (fun c5 => ?_)
    · have hO := ok_pos c5 hO
      refine rb hG 6 106 111 [.iload 8, .iload 6, .iload 2] [] [] [(2, .int x2), (3, .int x3), (4, .int x4), (6, .int x6), (7, .int x7), (8, .int x8)] [.int x2, .int x6, .int x8] h [] (by decide +kernel) rfl trivial ?_
      refine rt hG z_K_isIn 73 2 111 [.int x6, .int x2] [.int x8] (by decide +kernel) mk_K_isIn lk_7_73 rfl ⟨rfl, Nat.le_of_ble_eq_true rfl⟩ (c_K_isIn (d := d + 1) h x6 x2 (ok_bind hO)) ?_
      rintro _ _ ⟨r6, rfl, rfl, hO⟩
      refine ri hG .eq (7) 121 114 (by decide +kernel) (by decide) (fun c7 => ?_) (fun c7 => ?_)
      · have hO := ok_pos c7 hO
        refine rb hG 4 121 122 [.ldc_w 0] [0] [] [(2, .int x2), (3, .int x3), (4, .int x4), (6, .int x6), (7, .int x7), (8, .int x8)] [.int (0 : Int32), .int x8] h [] (by decide +kernel) rfl trivial ?_
        refine rs hG [(2, .int x2), (7, .int x7)] [0, 4] rfl ?_
        exact j122 x7 x8 (0 : Int32) hO
      · have hO := ok_neg c7 hO
        refine rb hG 5 117 122 [.ldc_w 0] [3] [] [(2, .int x2), (3, .int x3), (4, .int x4), (6, .int x6), (7, .int x7), (8, .int x8)] [.int (3 : Int32), .int x8] h [] (by decide +kernel) rfl trivial ?_
        refine rs hG [(2, .int x2), (7, .int x7)] [0, 4] rfl ?_
        exact j122 x7 x8 (3 : Int32) hO
    · have hO := ok_neg c5 hO
      refine rs hG [(8, .int x8)] [5] rfl ?_
      exact j144 x8 hO
  have l48 : ∀ (x5 : Nat) (x6 : Int32) (x7 : Int32) (x8 : Int32) (x9 : Int32), Okk (S_gainOf_l48 x2 x3 x4 x5 x6 x7 x8 x9 h) P → G 48 [(2, .int x2), (3, .int x3), (4, .int x4), (5, .ref x5), (6, .int x6), (7, .int x7), (8, .int x8), (9, .int x9)] [] h := by
    intro x5 x6 x7 x8 x9 hO
    obtain ⟨H48, eH48⟩ : ∃ q : (Int32 × Int32) → Prop, q = fun s => G 48 [(2, .int x2), (3, .int x3), (4, .int x4), (5, .ref x5), (6, .int x6), (7, .int x7), (8, .int (s.1)), (9, .int (s.2))] [] (h) := ⟨_, rfl⟩
    have w9 : H48 (x8, x9) := by
      refine lp_wp (f := fun s : (Int32 × Int32) => S_gainOf_b48 x2 x3 x4 x5 x6 x7 s.1 s.2 h) (H := H48) (Q := P) ?_ (x8, x9) hO
      rintro ⟨x8, x9⟩ hO
      rw [eH48]
      show G 48 [(2, .int x2), (3, .int x3), (4, .int x4), (5, .ref x5), (6, .int x6), (7, .int x7), (8, .int x8), (9, .int x9)] [] h
      have k48 : ∀ s : (Int32 × Int32), H48 s → G 48 [(2, .int x2), (3, .int x3), (4, .int x4), (5, .ref x5), (6, .int x6), (7, .int x7), (8, .int (s.1)), (9, .int (s.2))] [] (h) := fun s q => by rw [eH48] at q; exact q
      replace hO : Okk (S_gainOf_b48 x2 x3 x4 x5 x6 x7 x8 x9 h) (Sum.elim H48 P) := hO
      clear eH48
      unfold S_gainOf_b48 at hO
      obtain ⟨g8, hO⟩ := ok_if hO
      refine rb hG 6 48 55 [.iload 9, .aload 5, .getfield 3] [] [] [(2, .int x2), (3, .int x3), (4, .int x4), (5, .ref x5), (6, .int x6), (7, .int x7), (8, .int x8), (9, .int x9)] [.int (h.1 x5 3), .int x9] h [kd x5 = 0] (by decide +kernel) rfl g8 ?_
      refine rj hG .ge (45) 100 55 (by decide +kernel) (by decide) (fun c9 => ?_) (fun c9 => ?_)
      · have hO := ok_pos c9 hO
        refine rs hG [(2, .int x2), (3, .int x3), (4, .int x4), (6, .int x6), (7, .int x7), (8, .int x8)] [0, 1, 2, 4, 5, 6] rfl ?_
        exact j100 x6 x7 x8 (ok_inr hO)
      · have hO := ok_neg c9 hO
        refine rb hG 6 58 64 [.iload 8, .aload 5, .iload 9] [] [] [(2, .int x2), (3, .int x3), (4, .int x4), (5, .ref x5), (6, .int x6), (7, .int x7), (8, .int x8), (9, .int x9)] [.int x9, .ref x5, .int x8] h [] (by decide +kernel) rfl trivial ?_
        refine rv hG z_B_guestsOf 129 1 64 x5 [.int x9] [.int x8] (by decide +kernel) mk_B_guestsOf lk_7_129 (rcv_B g8) rfl ⟨rfl, Nat.le_of_ble_eq_true rfl⟩ (c_B_guestsOf (d := d + 1) h x5 x9 (ok_bind hO)) ?_
        rintro _ _ ⟨r10, rfl, rfl, hO⟩
        refine rb hG 5 67 70 [.iload 6, .iand] [] [] [(2, .int x2), (3, .int x3), (4, .int x4), (5, .ref x5), (6, .int x6), (7, .int x7), (8, .int x8), (9, .int x9)] [.int (r10 &&& x6), .int x8] h [] (by decide +kernel) rfl trivial ?_
        refine rt hG z_J_bitCount 118 1 70 [.int (r10 &&& x6)] [.int x8] (by decide +kernel) mk_J_bitCount lk_7_118 rfl ⟨rfl, Nat.le_of_ble_eq_true rfl⟩ (c_J_bitCount (d := d + 1) h (r10 &&& x6) (ok_bind hO)) ?_
        rintro _ _ ⟨r11, rfl, rfl, hO⟩
        refine rbx hG 5 73 76 [.iadd, .istore 8] [] [] ((x8 + r11)) (fun y12 => [(8, .int y12), (2, .int x2), (3, .int x3), (4, .int x4), (5, .ref x5), (6, .int x6), (7, .int x7), (9, .int x9)]) (fun y12 => []) (fun y12 => h) [] (by decide +kernel) rfl trivial hO (fun y12 hO => ?_)
        refine rb hG 6 76 82 [.iload 8, .aload 5, .iload 9] [] [] [(8, .int y12), (2, .int x2), (3, .int x3), (4, .int x4), (5, .ref x5), (6, .int x6), (7, .int x7), (9, .int x9)] [.int x9, .ref x5, .int y12] h [] (by decide +kernel) rfl trivial ?_
        refine rv hG z_B_guestsOf 129 1 82 x5 [.int x9] [.int y12] (by decide +kernel) mk_B_guestsOf lk_7_129 (rcv_B g8) rfl ⟨rfl, Nat.le_of_ble_eq_true rfl⟩ (c_B_guestsOf (d := d + 1) h x5 x9 (ok_bind hO)) ?_
        rintro _ _ ⟨r13, rfl, rfl, hO⟩
        refine rb hG 5 85 88 [.iload 7, .iand] [] [] [(8, .int y12), (2, .int x2), (3, .int x3), (4, .int x4), (5, .ref x5), (6, .int x6), (7, .int x7), (9, .int x9)] [.int (r13 &&& x7), .int y12] h [] (by decide +kernel) rfl trivial ?_
        refine rt hG z_J_bitCount 118 1 88 [.int (r13 &&& x7)] [.int y12] (by decide +kernel) mk_J_bitCount lk_7_118 rfl ⟨rfl, Nat.le_of_ble_eq_true rfl⟩ (c_J_bitCount (d := d + 1) h (r13 &&& x7) (ok_bind hO)) ?_
        rintro _ _ ⟨r14, rfl, rfl, hO⟩
        refine rbx hG 5 91 94 [.isub, .istore 8] [] [] ((y12 - r14)) (fun y15 => [(8, .int y15), (2, .int x2), (3, .int x3), (4, .int x4), (5, .ref x5), (6, .int x6), (7, .int x7), (9, .int x9)]) (fun y15 => []) (fun y15 => h) [] (by decide +kernel) rfl trivial hO (fun y15 hO => ?_)
        refine rbx hG 4 94 97 [.iinc 9 0] [1] [] ((x9 + (1 : Int32))) (fun y16 => [(9, .int y16), (8, .int y15), (2, .int x2), (3, .int x3), (4, .int x4), (5, .ref x5), (6, .int x6), (7, .int x7)]) (fun y16 => []) (fun y16 => h) [] (by decide +kernel) rfl trivial hO (fun y16 hO => ?_)
        refine rb hG 4 97 48 [] [] [] [(9, .int y16), (8, .int y15), (2, .int x2), (3, .int x3), (4, .int x4), (5, .ref x5), (6, .int x6), (7, .int x7)] [] h [] (by decide +kernel) rfl trivial ?_
        refine rs hG [(2, .int x2), (3, .int x3), (4, .int x4), (5, .ref x5), (6, .int x6), (7, .int x7), (8, .int y15), (9, .int y16)] [2, 3, 4, 5, 6, 7, 1, 0] rfl ?_
        exact k48 (y15, y16) (ok_some (Q := (Sum.elim H48 P)) hO)
    rw [eH48] at w9
    exact w9
  refine rb hG 5 0 2 [.aload 0, .iload 3] [] [] [(0, .ref 57), (1, .int x1), (2, .int x2), (3, .int x3), (4, .int x4)] [.int x3, .ref 57] h [] (by decide +kernel) rfl trivial ?_
  refine rv hG z_S_benchAt 107 1 2 57 [.int x3] [] (by decide +kernel) mk_S_benchAt lk_7_107 rcv_57 rfl ⟨rfl, Nat.le_of_ble_eq_true rfl⟩ (c_S_benchAt (d := d) h x3 (ok_bind hO)) ?_
  rintro _ _ ⟨r17, rfl, rfl, hO⟩
  refine rb hG 5 5 9 [.astore 5, .aload 5] [] [] [(5, .ref r17), (0, .ref 57), (1, .int x1), (2, .int x2), (3, .int x3), (4, .int x4)] [.ref r17] h [] (by decide +kernel) rfl trivial ?_
  refine rnn hG (5) 14 9 (by decide +kernel) (by decide) (fun c18 => ?_) (fun c18 => ?_)
  · have hO := ok_pos c18 hO
    refine rb hG 4 12 13 [.ldc_w 0] [0] [] [(5, .ref r17), (0, .ref 57), (1, .int x1), (2, .int x2), (3, .int x3), (4, .int x4)] [.int (0 : Int32)] h [] (by decide +kernel) rfl trivial ?_
    exact eI hG 13 (by decide +kernel) rfl ⟨(0 : Int32), rfl, rfl, ok_some (Q := P) hO⟩
  · have hO := ok_neg c18 hO
    obtain ⟨g19, hO⟩ := ok_if hO
    refine rb hG 6 14 19 [.aload 0, .instanceof 706, .iload 1] [] [] [(5, .ref r17), (0, .ref 57), (1, .int x1), (2, .int x2), (3, .int x3), (4, .int x4)] [.int x1, .ref (Int32.toNatClampNeg (h.1 57 6))] h [kd 57 = 7] (by decide +kernel) rfl kd_57 ?_
    refine rv hG z_H_lovesOf 225 1 19 (Int32.toNatClampNeg (h.1 57 6)) [.int x1] [] (by decide +kernel) mk_H_lovesOf lk_7_225 (rcv_H g19) rfl ⟨rfl, Nat.le_of_ble_eq_true rfl⟩ (c_H_lovesOf (d := d) h (Int32.toNatClampNeg (h.1 57 6)) x1 (ok_bind hO)) ?_
    rintro _ _ ⟨r20, rfl, rfl, hO⟩
    refine rb hG 7 22 29 [.istore 6, .aload 0, .instanceof 706, .iload 1] [] [] [(6, .int r20), (5, .ref r17), (0, .ref 57), (1, .int x1), (2, .int x2), (3, .int x3), (4, .int x4)] [.int x1, .ref (Int32.toNatClampNeg (h.1 57 6))] h [kd 57 = 7] (by decide +kernel) rfl kd_57 ?_
    refine rv hG z_H_quarrelsOf 228 1 29 (Int32.toNatClampNeg (h.1 57 6)) [.int x1] [] (by decide +kernel) mk_H_quarrelsOf lk_7_228 (rcv_H g19) rfl ⟨rfl, Nat.le_of_ble_eq_true rfl⟩ (c_H_quarrelsOf (d := d) h (Int32.toNatClampNeg (h.1 57 6)) x1 (ok_bind hO)) ?_
    rintro _ _ ⟨r21, rfl, rfl, hO⟩
    refine rb hG 7 32 39 [.istore 7, .aload 0, .instanceof 706, .iload 3] [] [] [(7, .int r21), (6, .int r20), (5, .ref r17), (0, .ref 57), (1, .int x1), (2, .int x2), (3, .int x3), (4, .int x4)] [.int x3, .ref (Int32.toNatClampNeg (h.1 57 6))] h [kd 57 = 7] (by decide +kernel) rfl kd_57 ?_
    refine rv hG z_H_priceOf 142 1 39 (Int32.toNatClampNeg (h.1 57 6)) [.int x3] [] (by decide +kernel) mk_H_priceOf lk_7_142 (rcv_H g19) rfl ⟨rfl, Nat.le_of_ble_eq_true rfl⟩ (c_H_priceOf (d := d) h (Int32.toNatClampNeg (h.1 57 6)) x3 (ok_bind hO)) ?_
    rintro _ _ ⟨r22, rfl, rfl, hO⟩
    refine rbx hG 5 42 45 [.ineg, .istore 8] [] [] ((-r22)) (fun y23 => [(8, .int y23), (7, .int r21), (6, .int r20), (5, .ref r17), (0, .ref 57), (1, .int x1), (2, .int x2), (3, .int x3), (4, .int x4)]) (fun y23 => []) (fun y23 => h) [] (by decide +kernel) rfl trivial hO (fun y23 hO => ?_)
    refine rb hG 5 45 48 [.ldc_w 0, .istore 9] [0] [] [(9, .int (0 : Int32)), (8, .int y23), (7, .int r21), (6, .int r20), (5, .ref r17), (0, .ref 57), (1, .int x1), (2, .int x2), (3, .int x3), (4, .int x4)] [] h [] (by decide +kernel) rfl trivial ?_
    refine rs hG [(2, .int x2), (3, .int x3), (4, .int x4), (5, .ref r17), (6, .int r20), (7, .int r21), (8, .int y23), (9, .int (0 : Int32))] [7, 8, 9, 4, 3, 2, 1, 0] rfl ?_
    exact l48 r17 r20 r21 y23 (0 : Int32) hO
/-! GrainInn.gain(IIIIIII)I -/
noncomputable def K_gain_j29 (h : Hp) : Option (Int32 × Hp) := some ((-1000000 : Int32), h)
noncomputable def K_gain_j58 (h : Hp) : Option (Int32 × Hp) := some ((-1000000 : Int32), h)
noncomputable def K_gain (h : Hp) (x1 : Int32) (x2 : Int32) (x3 : Int32) (x4 : Int32) (x5 : Int32) (x6 : Int32) (x7 : Int32) : Option (Int32 × Hp) := (K_reach h x1 x2 x3).bind fun (r1, h2) => if r1 = 0 then ((K_gain_j29 h2)) else (if r1 = 57 then (if kd (Int32.toNatClampNeg (h2.1 57 6)) = 1 then ((H_hasCouple h2 (Int32.toNatClampNeg (h2.1 57 6)) x4 x5).bind fun r6 => if r6 = 0 then ((K_gain_j29 h2)) else ((H_hasTable h2 (Int32.toNatClampNeg (h2.1 57 6)) x6).bind fun r8 => if r8 = 0 then ((K_gain_j58 h2)) else ((H_hasTable h2 (Int32.toNatClampNeg (h2.1 57 6)) x7).bind fun r10 => if r10 = 0 then ((K_gain_j58 h2)) else ((S_gainOf h2 x4 x5 x6 x7).bind fun r12 => some (r12, h2))))) else none) else none)
set_option maxRecDepth 100000 in
set_option maxHeartbeats 4000000 in
theorem c_K_gain {E : En} {d : Nat} (h : Hp) (x1 : Int32) (x2 : Int32) (x3 : Int32) (x4 : Int32) (x5 : Int32) (x6 : Int32) (x7 : Int32) {P : (Int32 × Hp) → Prop} (hO : Okk (K_gain h x1 x2 x3 x4 x5 x6 x7) P) : Cn E (d + 8) z_K_gain [.ref 1, .int x1, .int x2, .int x3, .int x4, .int x5, .int x6, .int x7] h (RI P) := by
  refine cn_of (on := 11) (d := d + 7) ⟨rfl, by decide +kernel, Nat.le_of_ble_eq_true rfl⟩ (fun G hG => ?_)
  unfold K_gain at hO
  show G 0 [(0, .ref 1), (1, .int x1), (2, .int x2), (3, .int x3), (4, .int x4), (5, .int x5), (6, .int x6), (7, .int x7)] [] h
  have j29 : ∀ (h : Hp), Okk (K_gain_j29 h) P → G 29 [] [] h := by
    intro h hO
    unfold K_gain_j29 at hO
    refine rb hG 4 29 31 [.ldc_w 0] [-1000000] [] [] [.int (-1000000 : Int32)] h [] (by decide +kernel) rfl trivial ?_
    exact eI hG 31 (by decide +kernel) rfl ⟨(-1000000 : Int32), rfl, ok_some (Q := P) hO⟩
  have j58 : ∀ (h : Hp), Okk (K_gain_j58 h) P → G 58 [] [] h := by
    intro h hO
    unfold K_gain_j58 at hO
    refine rb hG 4 58 60 [.ldc_w 0] [-1000000] [] [] [.int (-1000000 : Int32)] h [] (by decide +kernel) rfl trivial ?_
    exact eI hG 60 (by decide +kernel) rfl ⟨(-1000000 : Int32), rfl, ok_some (Q := P) hO⟩
  refine rb hG 7 0 4 [.aload 0, .iload 1, .iload 2, .iload 3] [] [] [(0, .ref 1), (1, .int x1), (2, .int x2), (3, .int x3), (4, .int x4), (5, .int x5), (6, .int x6), (7, .int x7)] [.int x3, .int x2, .int x1, .ref 1] h [] (by decide +kernel) rfl trivial ?_
  refine rv hG z_K_reach 155 3 4 1 [.int x1, .int x2, .int x3] [] (by decide +kernel) mk_K_reach lk_11_155 rcv_1 rfl ⟨rfl, Nat.le_of_ble_eq_true rfl⟩ (c_K_reach (d := d) h x1 x2 x3 (ok_bind hO)) ?_
  rintro _ h2 ⟨r1, rfl, hO⟩
  refine rb hG 5 7 11 [.astore 8, .aload 8] [] [] [(8, .ref r1), (0, .ref 1), (1, .int x1), (2, .int x2), (3, .int x3), (4, .int x4), (5, .int x5), (6, .int x6), (7, .int x7)] [.ref r1] h2 [] (by decide +kernel) rfl trivial ?_
  refine rn hG (18) 29 11 (by decide +kernel) (by decide) (fun c3 => ?_) (fun c3 => ?_)
  · have hO := ok_pos c3 hO
    refine rs hG [] [] rfl ?_
    exact j29 h2 hO
  · have hO := ok_neg c3 hO
    obtain ⟨g4, hOg4⟩ := ok_if hO
    subst g4
    have hO := hOg4
    obtain ⟨g5, hO⟩ := ok_if hO
    refine rb hG 7 14 23 [.aload 8, .instanceof 706, .iload 4, .iload 5] [] [] [(8, .ref 57), (0, .ref 1), (1, .int x1), (2, .int x2), (3, .int x3), (4, .int x4), (5, .int x5), (6, .int x6), (7, .int x7)] [.int x5, .int x4, .ref (Int32.toNatClampNeg (h2.1 57 6))] h2 [kd 57 = 7] (by decide +kernel) rfl kd_57 ?_
    refine rv hG z_H_hasCouple 292 2 23 (Int32.toNatClampNeg (h2.1 57 6)) [.int x4, .int x5] [] (by decide +kernel) mk_H_hasCouple lk_11_292 (rcv_H g5) rfl ⟨rfl, Nat.le_of_ble_eq_true rfl⟩ (c_H_hasCouple (d := d + 5) h2 (Int32.toNatClampNeg (h2.1 57 6)) x4 x5 (ok_bind hO)) ?_
    rintro _ _ ⟨r6, rfl, rfl, hO⟩
    refine riN hG (6) 32 26 (by decide +kernel) (by decide) (fun c7 => ?_) (fun c7 => ?_)
    · have hO := ok_pos c7 hO
      refine rs hG [] [] rfl ?_
      exact j29 h2 hO
    · have hO := ok_neg c7 hO
      refine rb hG 6 32 39 [.aload 8, .instanceof 706, .iload 6] [] [] [(8, .ref 57), (0, .ref 1), (1, .int x1), (2, .int x2), (3, .int x3), (4, .int x4), (5, .int x5), (6, .int x6), (7, .int x7)] [.int x6, .ref (Int32.toNatClampNeg (h2.1 57 6))] h2 [kd 57 = 7] (by decide +kernel) rfl kd_57 ?_
      refine rv hG z_H_hasTable 245 1 39 (Int32.toNatClampNeg (h2.1 57 6)) [.int x6] [] (by decide +kernel) mk_H_hasTable lk_11_245 (rcv_H g5) rfl ⟨rfl, Nat.le_of_ble_eq_true rfl⟩ (c_H_hasTable (d := d + 6) h2 (Int32.toNatClampNeg (h2.1 57 6)) x6 (ok_bind hO)) ?_
      rintro _ _ ⟨r8, rfl, rfl, hO⟩
      refine ri hG .eq (16) 58 42 (by decide +kernel) (by decide) (fun c9 => ?_) (fun c9 => ?_)
      · have hO := ok_pos c9 hO
        refine rs hG [] [] rfl ?_
        exact j58 h2 hO
      · have hO := ok_neg c9 hO
        refine rb hG 6 45 52 [.aload 8, .instanceof 706, .iload 7] [] [] [(8, .ref 57), (0, .ref 1), (1, .int x1), (2, .int x2), (3, .int x3), (4, .int x4), (5, .int x5), (6, .int x6), (7, .int x7)] [.int x7, .ref (Int32.toNatClampNeg (h2.1 57 6))] h2 [kd 57 = 7] (by decide +kernel) rfl kd_57 ?_
        refine rv hG z_H_hasTable 245 1 52 (Int32.toNatClampNeg (h2.1 57 6)) [.int x7] [] (by decide +kernel) mk_H_hasTable lk_11_245 (rcv_H g5) rfl ⟨rfl, Nat.le_of_ble_eq_true rfl⟩ (c_H_hasTable (d := d + 6) h2 (Int32.toNatClampNeg (h2.1 57 6)) x7 (ok_bind hO)) ?_
        rintro _ _ ⟨r10, rfl, rfl, hO⟩
        refine riN hG (6) 61 55 (by decide +kernel) (by decide) (fun c11 => ?_) (fun c11 => ?_)
        · have hO := ok_pos c11 hO
          refine rs hG [] [] rfl ?_
          exact j58 h2 hO
        · have hO := ok_neg c11 hO
          refine rb hG 8 61 71 [.aload 8, .iload 4, .iload 5, .iload 6, .iload 7] [] [] [(8, .ref 57), (0, .ref 1), (1, .int x1), (2, .int x2), (3, .int x3), (4, .int x4), (5, .int x5), (6, .int x6), (7, .int x7)] [.int x7, .int x6, .int x5, .int x4, .ref 57] h2 [] (by decide +kernel) rfl trivial ?_
          refine rv hG z_S_gainOf 295 4 71 57 [.int x4, .int x5, .int x6, .int x7] [] (by decide +kernel) mk_S_gainOf lk_11_295 rcv_57 rfl ⟨rfl, Nat.le_of_ble_eq_true rfl⟩ (c_S_gainOf (d := d + 4) h2 x4 x5 x6 x7 (ok_bind hO)) ?_
          rintro _ _ ⟨r12, rfl, rfl, hO⟩
          exact eI hG 74 (by decide +kernel) rfl ⟨r12, rfl, ok_some (Q := P) hO⟩
/-! GrainInnModel.loves(II)Z -/
noncomputable def M_loves (h : Hp) (x1 : Int32) (x2 : Int32) : Option Int32 := (M_of h ((25 : Int32) + x1)).bind fun r1 => (M_has r1 x2).bind fun r2 => if r2 = 0 ∨ r2 = 1 then (some r2) else none
set_option maxRecDepth 100000 in
set_option maxHeartbeats 4000000 in
theorem c_M_loves {E : En} {d : Nat} (h : Hp) (x1 : Int32) (x2 : Int32) {P : Int32 → Prop} (hO : Okk (M_loves h x1 x2) P) : Cn E (d + 2) z_M_loves [.ref 251, .int x1, .int x2] h (RIp h P) := by
  refine cn_of (on := 12) (d := d + 1) ⟨rfl, by decide +kernel, Nat.le_of_ble_eq_true rfl⟩ (fun G hG => ?_)
  unfold M_loves at hO
  show G 0 [(0, .ref 251), (1, .int x1), (2, .int x2)] [] h
  refine rb hG 7 0 5 [.aload 0, .ldc_w 0, .iload 1, .iadd] [25] [] [(0, .ref 251), (1, .int x1), (2, .int x2)] [.int ((25 : Int32) + x1), .ref 251] h [] (by decide +kernel) rfl trivial ?_
  refine rv hG z_M_of 270 1 5 251 [.int ((25 : Int32) + x1)] [] (by decide +kernel) mk_M_of lk_12_270 rcv_251 rfl ⟨rfl, Nat.le_of_ble_eq_true rfl⟩ (c_M_of (d := d) h ((25 : Int32) + x1) (ok_bind hO)) ?_
  rintro _ _ ⟨r1, rfl, rfl, hO⟩
  refine rb hG 4 8 9 [.iload 2] [] [] [(0, .ref 251), (1, .int x1), (2, .int x2)] [.int x2, .int r1] h [] (by decide +kernel) rfl trivial ?_
  refine rt hG z_M_has 103 2 9 [.int r1, .int x2] [] (by decide +kernel) mk_M_has lk_12_103 rfl ⟨rfl, Nat.le_of_ble_eq_true rfl⟩ (c_M_has (d := d) h r1 x2 (ok_bind hO)) ?_
  rintro _ _ ⟨r2, rfl, rfl, hO⟩
  obtain ⟨g3, hO⟩ := ok_if hO
  exact eZ hG 12 (by decide +kernel) rfl g3 ⟨r2, rfl, rfl, ok_some (Q := P) hO⟩
/-! GrainInnModel.quarrels(II)Z -/
noncomputable def M_quarrels (h : Hp) (x1 : Int32) (x2 : Int32) : Option Int32 := (M_of h ((17 : Int32) + x1)).bind fun r1 => (M_has r1 x2).bind fun r2 => if r2 = 0 ∨ r2 = 1 then (some r2) else none
set_option maxRecDepth 100000 in
set_option maxHeartbeats 4000000 in
theorem c_M_quarrels {E : En} {d : Nat} (h : Hp) (x1 : Int32) (x2 : Int32) {P : Int32 → Prop} (hO : Okk (M_quarrels h x1 x2) P) : Cn E (d + 2) z_M_quarrels [.ref 251, .int x1, .int x2] h (RIp h P) := by
  refine cn_of (on := 12) (d := d + 1) ⟨rfl, by decide +kernel, Nat.le_of_ble_eq_true rfl⟩ (fun G hG => ?_)
  unfold M_quarrels at hO
  show G 0 [(0, .ref 251), (1, .int x1), (2, .int x2)] [] h
  refine rb hG 7 0 5 [.aload 0, .ldc_w 0, .iload 1, .iadd] [17] [] [(0, .ref 251), (1, .int x1), (2, .int x2)] [.int ((17 : Int32) + x1), .ref 251] h [] (by decide +kernel) rfl trivial ?_
  refine rv hG z_M_of 270 1 5 251 [.int ((17 : Int32) + x1)] [] (by decide +kernel) mk_M_of lk_12_270 rcv_251 rfl ⟨rfl, Nat.le_of_ble_eq_true rfl⟩ (c_M_of (d := d) h ((17 : Int32) + x1) (ok_bind hO)) ?_
  rintro _ _ ⟨r1, rfl, rfl, hO⟩
  refine rb hG 4 8 9 [.iload 2] [] [] [(0, .ref 251), (1, .int x1), (2, .int x2)] [.int x2, .int r1] h [] (by decide +kernel) rfl trivial ?_
  refine rt hG z_M_has 103 2 9 [.int r1, .int x2] [] (by decide +kernel) mk_M_has lk_12_103 rfl ⟨rfl, Nat.le_of_ble_eq_true rfl⟩ (c_M_has (d := d) h r1 x2 (ok_bind hO)) ?_
  rintro _ _ ⟨r2, rfl, rfl, hO⟩
  obtain ⟨g3, hO⟩ := ok_if hO
  exact eZ hG 12 (by decide +kernel) rfl g3 ⟨r2, rfl, rfl, ok_some (Q := P) hO⟩
/-! GrainInnModel.liking(II)I -/
noncomputable def M_liking_j68 (x3 : Int32) (h : Hp) : Option Int32 := some x3
noncomputable def M_liking_b11 (x1 : Int32) (x2 : Int32) (x3 : Int32) (x4 : Int32) (h : Hp) : Option ((Int32 × Int32) ⊕ Int32) := if inb x2 (ln 266) then (if (h.1 266 (Int32.toNatClampNeg x2)) ≤ x4 then (((M_liking_j68 x3 h).map Sum.inr)) else (if inb (((16 : Int32) * x2) + x4) (ln 263) then (bnd ((h.1 263 (Int32.toNatClampNeg (((16 : Int32) * x2) + x4)))) fun y4 => (M_couples h (sh (1 : Int32) x1) y4 (25 : Int32)).bind fun r5 => (M_couples h (sh (1 : Int32) x1) y4 (17 : Int32)).bind fun r6 => bnd ((x3 + (r5 - r6))) fun y7 => bnd ((x4 + (1 : Int32))) fun y8 => some (.inl (y7, y8))) else none)) else none
noncomputable def M_liking_l11 (x1 : Int32) (x2 : Int32) (x3 : Int32) (x4 : Int32) (h : Hp) : Option Int32 := lp (fun s : (Int32 × Int32) => M_liking_b11 x1 x2 s.1 s.2 h) (x3, x4)
theorem M_liking_l11_eq (x1 : Int32) (x2 : Int32) (x3 : Int32) (x4 : Int32) (h : Hp) : M_liking_l11 x1 x2 x3 x4 h = (M_liking_b11 x1 x2 x3 x4 h).bind (Sum.elim (fun q : (Int32 × Int32) => M_liking_l11 x1 x2 q.1 q.2 h) some) := lp_eq _ _
noncomputable def M_liking (h : Hp) (x1 : Int32) (x2 : Int32) : Option Int32 := (M_ofTable h x2 (2 : Int32)).bind fun r9 => bnd ((-r9)) fun y10 => (M_liking_l11 x1 x2 y10 (0 : Int32) h)
set_option maxRecDepth 100000 in
set_option maxHeartbeats 4000000 in
theorem c_M_liking {E : En} {d : Nat} (h : Hp) (x1 : Int32) (x2 : Int32) {P : Int32 → Prop} (hO : Okk (M_liking h x1 x2) P) : Cn E (d + 3) z_M_liking [.ref 251, .int x1, .int x2] h (RIp h P) := by
  refine cn_of (on := 12) (d := d + 2) ⟨rfl, by decide +kernel, Nat.le_of_ble_eq_true rfl⟩ (fun G hG => ?_)
  unfold M_liking at hO
  show G 0 [(0, .ref 251), (1, .int x1), (2, .int x2)] [] h
  have j68 : ∀ (x3 : Int32), Okk (M_liking_j68 x3 h) P → G 68 [(3, .int x3)] [] h := by
    intro x3 hO
    unfold M_liking_j68 at hO
    refine rb hG 4 68 69 [.iload 3] [] [] [(3, .int x3)] [.int x3] h [] (by decide +kernel) rfl trivial ?_
    exact eI hG 69 (by decide +kernel) rfl ⟨x3, rfl, rfl, ok_some (Q := P) hO⟩
  have l11 : ∀ (x3 : Int32) (x4 : Int32), Okk (M_liking_l11 x1 x2 x3 x4 h) P → G 11 [(0, .ref 251), (1, .int x1), (2, .int x2), (3, .int x3), (4, .int x4)] [] h := by
    intro x3 x4 hO
    obtain ⟨H11, eH11⟩ : ∃ q : (Int32 × Int32) → Prop, q = fun s => G 11 [(0, .ref 251), (1, .int x1), (2, .int x2), (3, .int (s.1)), (4, .int (s.2))] [] (h) := ⟨_, rfl⟩
    have w9 : H11 (x3, x4) := by
      refine lp_wp (f := fun s : (Int32 × Int32) => M_liking_b11 x1 x2 s.1 s.2 h) (H := H11) (Q := P) ?_ (x3, x4) hO
      rintro ⟨x3, x4⟩ hO
      rw [eH11]
      show G 11 [(0, .ref 251), (1, .int x1), (2, .int x2), (3, .int x3), (4, .int x4)] [] h
      have k11 : ∀ s : (Int32 × Int32), H11 s → G 11 [(0, .ref 251), (1, .int x1), (2, .int x2), (3, .int (s.1)), (4, .int (s.2))] [] (h) := fun s q => by rw [eH11] at q; exact q
      replace hO : Okk (M_liking_b11 x1 x2 x3 x4 h) (Sum.elim H11 P) := hO
      clear eH11
      unfold M_liking_b11 at hO
      obtain ⟨g1, hO⟩ := ok_if hO
      refine rb hG 8 11 19 [.iload 4, .aload 0, .invokeinterface 1230 15, .iload 2, .iaload] [] [] [(0, .ref 251), (1, .int x1), (2, .int x2), (3, .int x3), (4, .int x4)] [.int (h.1 266 (Int32.toNatClampNeg x2)), .int x4] h [kd 251 = 12, kd 266 = 20 ∧ inb x2 (ln 266)] (by decide +kernel) rfl ⟨kd_251, ⟨kd_266, g1⟩⟩ ?_
      refine rj hG .ge (49) 68 19 (by decide +kernel) (by decide) (fun c2 => ?_) (fun c2 => ?_)
      · have hO := ok_pos c2 hO
        refine rs hG [(3, .int x3)] [3] rfl ?_
        exact j68 x3 (ok_inr hO)
      · have hO := ok_neg c2 hO
        obtain ⟨g3, hO⟩ := ok_if hO
        refine rbx hG 12 22 36 [.aload 0, .invokeinterface 1227 12, .ldc_w 0, .iload 2, .imul, .iload 4, .iadd, .iaload, .istore 5] [16] [] ((h.1 263 (Int32.toNatClampNeg (((16 : Int32) * x2) + x4)))) (fun y4 => [(5, .int y4), (0, .ref 251), (1, .int x1), (2, .int x2), (3, .int x3), (4, .int x4)]) (fun y4 => []) (fun y4 => h) [kd 251 = 12, kd 263 = 20 ∧ inb (((16 : Int32) * x2) + x4) (ln 263)] (by decide +kernel) rfl ⟨kd_251, ⟨kd_263, g3⟩⟩ hO (fun y4 hO => ?_)
        refine rb hG 10 36 45 [.iload 3, .aload 0, .ldc_w 0, .iload 1, .ishl, .iload 5, .ldc_w 1] [1, 25] [] [(5, .int y4), (0, .ref 251), (1, .int x1), (2, .int x2), (3, .int x3), (4, .int x4)] [.int (25 : Int32), .int y4, .int (sh (1 : Int32) x1), .ref 251, .int x3] h [] (by decide +kernel) rfl trivial ?_
        refine rv hG z_M_couples 313 3 45 251 [.int (sh (1 : Int32) x1), .int y4, .int (25 : Int32)] [.int x3] (by decide +kernel) mk_M_couples lk_12_313 rcv_251 rfl ⟨rfl, Nat.le_of_ble_eq_true rfl⟩ (c_M_couples (d := d) h (sh (1 : Int32) x1) y4 (25 : Int32) (ok_bind hO)) ?_
        rintro _ _ ⟨r5, rfl, rfl, hO⟩
        refine rb hG 9 48 56 [.aload 0, .ldc_w 0, .iload 1, .ishl, .iload 5, .ldc_w 1] [1, 17] [] [(5, .int y4), (0, .ref 251), (1, .int x1), (2, .int x2), (3, .int x3), (4, .int x4)] [.int (17 : Int32), .int y4, .int (sh (1 : Int32) x1), .ref 251, .int r5, .int x3] h [] (by decide +kernel) rfl trivial ?_
        refine rv hG z_M_couples 313 3 56 251 [.int (sh (1 : Int32) x1), .int y4, .int (17 : Int32)] [.int r5, .int x3] (by decide +kernel) mk_M_couples lk_12_313 rcv_251 rfl ⟨rfl, Nat.le_of_ble_eq_true rfl⟩ (c_M_couples (d := d) h (sh (1 : Int32) x1) y4 (17 : Int32) (ok_bind hO)) ?_
        rintro _ _ ⟨r6, rfl, rfl, hO⟩
        refine rbx hG 6 59 62 [.isub, .iadd, .istore 3] [] [] ((x3 + (r5 - r6))) (fun y7 => [(3, .int y7), (5, .int y4), (0, .ref 251), (1, .int x1), (2, .int x2), (4, .int x4)]) (fun y7 => []) (fun y7 => h) [] (by decide +kernel) rfl trivial hO (fun y7 hO => ?_)
        refine rbx hG 4 62 65 [.iinc 4 0] [1] [] ((x4 + (1 : Int32))) (fun y8 => [(4, .int y8), (3, .int y7), (5, .int y4), (0, .ref 251), (1, .int x1), (2, .int x2)]) (fun y8 => []) (fun y8 => h) [] (by decide +kernel) rfl trivial hO (fun y8 hO => ?_)
        refine rb hG 4 65 11 [] [] [] [(4, .int y8), (3, .int y7), (5, .int y4), (0, .ref 251), (1, .int x1), (2, .int x2)] [] h [] (by decide +kernel) rfl trivial ?_
        refine rs hG [(0, .ref 251), (1, .int x1), (2, .int x2), (3, .int y7), (4, .int y8)] [3, 4, 5, 1, 0] rfl ?_
        exact k11 (y7, y8) (ok_some (Q := (Sum.elim H11 P)) hO)
    rw [eH11] at w9
    exact w9
  refine rb hG 6 0 3 [.aload 0, .iload 2, .ldc_w 0] [2] [] [(0, .ref 251), (1, .int x1), (2, .int x2)] [.int (2 : Int32), .int x2, .ref 251] h [] (by decide +kernel) rfl trivial ?_
  refine rv hG z_M_ofTable 283 2 3 251 [.int x2, .int (2 : Int32)] [] (by decide +kernel) mk_M_ofTable lk_12_283 rcv_251 rfl ⟨rfl, Nat.le_of_ble_eq_true rfl⟩ (c_M_ofTable (d := d) h x2 (2 : Int32) (ok_bind hO)) ?_
  rintro _ _ ⟨r9, rfl, rfl, hO⟩
  refine rbx hG 5 6 8 [.ineg, .istore 3] [] [] ((-r9)) (fun y10 => [(3, .int y10), (0, .ref 251), (1, .int x1), (2, .int x2)]) (fun y10 => []) (fun y10 => h) [] (by decide +kernel) rfl trivial hO (fun y10 hO => ?_)
  refine rb hG 5 8 11 [.ldc_w 0, .istore 4] [0] [] [(4, .int (0 : Int32)), (3, .int y10), (0, .ref 251), (1, .int x1), (2, .int x2)] [] h [] (by decide +kernel) rfl trivial ?_
  refine rs hG [(0, .ref 251), (1, .int x1), (2, .int x2), (3, .int y10), (4, .int (0 : Int32))] [2, 3, 4, 1, 0] rfl ?_
  exact l11 y10 (0 : Int32) hO
/-! GrainInnModel.gainOf(IIII)I -/
noncomputable def M_gainOf_j39 (x1 : Int32) (x3 : Int32) (s0 : Int32) (h : Hp) : Option Int32 := (M_liking h x1 x3).bind fun r1 => some (r1 + s0)
noncomputable def M_gainOf_j38 (x1 : Int32) (x3 : Int32) (s0 : Int32) (s1 : Int32) (h : Hp) : Option Int32 := (M_gainOf_j39 x1 x3 (s0 - s1) h)
noncomputable def M_gainOf_j24 (x1 : Int32) (x2 : Int32) (x3 : Int32) (s0 : Int32) (h : Hp) : Option Int32 := (M_quarrels h x1 x2).bind fun r2 => if r2 = 0 then ((M_gainOf_j38 x1 x3 s0 (0 : Int32) h)) else ((M_gainOf_j38 x1 x3 s0 (3 : Int32) h))
noncomputable def M_gainOf (h : Hp) (x1 : Int32) (x2 : Int32) (x3 : Int32) (x4 : Int32) : Option Int32 := if x3 = x4 then ((M_loves h x1 x2).bind fun r5 => if r5 = 0 then ((M_gainOf_j24 x1 x2 x3 (0 : Int32) h)) else ((M_gainOf_j24 x1 x2 x3 (3 : Int32) h))) else ((M_gainOf_j39 x1 x3 (0 : Int32) h))
set_option maxRecDepth 100000 in
set_option maxHeartbeats 4000000 in
theorem c_M_gainOf {E : En} {d : Nat} (h : Hp) (x1 : Int32) (x2 : Int32) (x3 : Int32) (x4 : Int32) {P : Int32 → Prop} (hO : Okk (M_gainOf h x1 x2 x3 x4) P) : Cn E (d + 4) z_M_gainOf [.ref 251, .int x1, .int x2, .int x3, .int x4] h (RIp h P) := by
  refine cn_of (on := 12) (d := d + 3) ⟨rfl, by decide +kernel, Nat.le_of_ble_eq_true rfl⟩ (fun G hG => ?_)
  unfold M_gainOf at hO
  show G 0 [(0, .ref 251), (1, .int x1), (2, .int x2), (3, .int x3), (4, .int x4)] [] h
  have j39 : ∀ (s0 : Int32), Okk (M_gainOf_j39 x1 x3 s0 h) P → G 39 [(0, .ref 251), (1, .int x1), (3, .int x3)] [.int s0] h := by
    intro s0 hO
    unfold M_gainOf_j39 at hO
    refine rb hG 7 39 44 [.istore 5, .aload 0, .iload 1, .iload 3] [] [] [(5, .int s0), (0, .ref 251), (1, .int x1), (3, .int x3)] [.int x3, .int x1, .ref 251] h [] (by decide +kernel) rfl trivial ?_
    refine rv hG z_M_liking 481 2 44 251 [.int x1, .int x3] [] (by decide +kernel) mk_M_liking lk_12_481 rcv_251 rfl ⟨rfl, Nat.le_of_ble_eq_true rfl⟩ (c_M_liking (d := d) h x1 x3 (ok_bind hO)) ?_
    rintro _ _ ⟨r1, rfl, rfl, hO⟩
    refine rb hG 5 47 50 [.iload 5, .iadd] [] [] [(5, .int s0), (0, .ref 251), (1, .int x1), (3, .int x3)] [.int (r1 + s0)] h [] (by decide +kernel) rfl trivial ?_
    exact eI hG 50 (by decide +kernel) rfl ⟨(r1 + s0), rfl, rfl, ok_some (Q := P) hO⟩
  have j38 : ∀ (s0 : Int32) (s1 : Int32), Okk (M_gainOf_j38 x1 x3 s0 s1 h) P → G 38 [(0, .ref 251), (1, .int x1), (3, .int x3)] [.int s1, .int s0] h := by
    intro s0 s1 hO
    unfold M_gainOf_j38 at hO
    refine rb hG 4 38 39 [.isub] [] [] [(0, .ref 251), (1, .int x1), (3, .int x3)] [.int (s0 - s1)] h [] (by decide +kernel) rfl trivial ?_
    exact j39 (s0 - s1) hO
  have j24 : ∀ (s0 : Int32), Okk (M_gainOf_j24 x1 x2 x3 s0 h) P → G 24 [(0, .ref 251), (1, .int x1), (2, .int x2), (3, .int x3)] [.int s0] h := by
    intro s0 hO
    unfold M_gainOf_j24 at hO
    refine rb hG 6 24 27 [.aload 0, .iload 1, .iload 2] [] [] [(0, .ref 251), (1, .int x1), (2, .int x2), (3, .int x3)] [.int x2, .int x1, .ref 251, .int s0] h [] (by decide +kernel) rfl trivial ?_
    refine rv hG z_M_quarrels 478 2 27 251 [.int x1, .int x2] [.int s0] (by decide +kernel) mk_M_quarrels lk_12_478 rcv_251 rfl ⟨rfl, Nat.le_of_ble_eq_true rfl⟩ (c_M_quarrels (d := d + 1) h x1 x2 (ok_bind hO)) ?_
    rintro _ _ ⟨r2, rfl, rfl, hO⟩
    refine ri hG .eq (7) 37 30 (by decide +kernel) (by decide) (fun c3 => ?_) (fun c3 => ?_)
    · have hO := ok_pos c3 hO
      refine rb hG 4 37 38 [.ldc_w 0] [0] [] [(0, .ref 251), (1, .int x1), (2, .int x2), (3, .int x3)] [.int (0 : Int32), .int s0] h [] (by decide +kernel) rfl trivial ?_
      refine rs hG [(0, .ref 251), (1, .int x1), (3, .int x3)] [0, 1, 3] rfl ?_
      exact j38 s0 (0 : Int32) hO
    · have hO := ok_neg c3 hO
      refine rb hG 5 33 38 [.ldc_w 0] [3] [] [(0, .ref 251), (1, .int x1), (2, .int x2), (3, .int x3)] [.int (3 : Int32), .int s0] h [] (by decide +kernel) rfl trivial ?_
      refine rs hG [(0, .ref 251), (1, .int x1), (3, .int x3)] [0, 1, 3] rfl ?_
      exact j38 s0 (3 : Int32) hO
  refine rb hG 5 0 3 [.iload 3, .iload 4] [] [] [(0, .ref 251), (1, .int x1), (2, .int x2), (3, .int x3), (4, .int x4)] [.int x4, .int x3] h [] (by decide +kernel) rfl trivial ?_
  refine rj hG .eq (7) 10 3 (by decide +kernel) (by decide) (fun c4 => ?_) (fun c4 => ?_)
  · have hO := ok_pos c4 hO
    refine rb hG 6 10 13 [.aload 0, .iload 1, .iload 2] [] [] [(0, .ref 251), (1, .int x1), (2, .int x2), (3, .int x3), (4, .int x4)] [.int x2, .int x1, .ref 251] h [] (by decide +kernel) rfl trivial ?_
    refine rv hG z_M_loves 475 2 13 251 [.int x1, .int x2] [] (by decide +kernel) mk_M_loves lk_12_475 rcv_251 rfl ⟨rfl, Nat.le_of_ble_eq_true rfl⟩ (c_M_loves (d := d + 1) h x1 x2 (ok_bind hO)) ?_
    rintro _ _ ⟨r5, rfl, rfl, hO⟩
    refine ri hG .eq (7) 23 16 (by decide +kernel) (by decide) (fun c6 => ?_) (fun c6 => ?_)
    · have hO := ok_pos c6 hO
      refine rb hG 4 23 24 [.ldc_w 0] [0] [] [(0, .ref 251), (1, .int x1), (2, .int x2), (3, .int x3), (4, .int x4)] [.int (0 : Int32)] h [] (by decide +kernel) rfl trivial ?_
      refine rs hG [(0, .ref 251), (1, .int x1), (2, .int x2), (3, .int x3)] [0, 1, 2, 3] rfl ?_
      exact j24 (0 : Int32) hO
    · have hO := ok_neg c6 hO
      refine rb hG 5 19 24 [.ldc_w 0] [3] [] [(0, .ref 251), (1, .int x1), (2, .int x2), (3, .int x3), (4, .int x4)] [.int (3 : Int32)] h [] (by decide +kernel) rfl trivial ?_
      refine rs hG [(0, .ref 251), (1, .int x1), (2, .int x2), (3, .int x3)] [0, 1, 2, 3] rfl ?_
      exact j24 (3 : Int32) hO
  · have hO := ok_neg c4 hO
    refine rb hG 5 6 39 [.ldc_w 0] [0] [] [(0, .ref 251), (1, .int x1), (2, .int x2), (3, .int x3), (4, .int x4)] [.int (0 : Int32)] h [] (by decide +kernel) rfl trivial ?_
    refine rs hG [(0, .ref 251), (1, .int x1), (3, .int x3)] [0, 1, 3] rfl ?_
    exact j39 (0 : Int32) hO
/-! GrainInnModel.gain(IIIIIII)I -/
noncomputable def M_gain_j58 (h : Hp) : Option (Int32 × Hp) := some ((-1000000 : Int32), h)
noncomputable def M_gain (h : Hp) (x1 : Int32) (x2 : Int32) (x3 : Int32) (x4 : Int32) (x5 : Int32) (x6 : Int32) (x7 : Int32) : Option (Int32 × Hp) := bnd (wr h 251 0 (0 : Int32)) fun h1 => (M_layState h1 x1 x2 x3).bind fun (r2, h3) => if r2 = 0 then ((M_gain_j58 h3)) else ((M_isGuest h3 x4).bind fun r5 => if r5 = 0 then ((M_gain_j58 h3)) else ((M_isGuest h3 x5).bind fun r7 => if r7 = 0 then ((M_gain_j58 h3)) else (if x4 = x5 then ((M_gain_j58 h3)) else ((M_isTable h3 x6).bind fun r10 => if r10 = 0 then ((M_gain_j58 h3)) else ((M_isTable h3 x7).bind fun r12 => if r12 = 0 then ((M_gain_j58 h3)) else ((M_gainOf h3 x4 x5 x6 x7).bind fun r14 => some (r14, h3)))))))
set_option maxRecDepth 100000 in
set_option maxHeartbeats 4000000 in
theorem c_M_gain {E : En} {d : Nat} (h : Hp) (x1 : Int32) (x2 : Int32) (x3 : Int32) (x4 : Int32) (x5 : Int32) (x6 : Int32) (x7 : Int32) {P : (Int32 × Hp) → Prop} (hO : Okk (M_gain h x1 x2 x3 x4 x5 x6 x7) P) : Cn E (d + 9) z_M_gain [.ref 251, .int x1, .int x2, .int x3, .int x4, .int x5, .int x6, .int x7] h (RI P) := by
  refine cn_of (on := 12) (d := d + 8) ⟨rfl, by decide +kernel, Nat.le_of_ble_eq_true rfl⟩ (fun G hG => ?_)
  unfold M_gain at hO
  show G 0 [(0, .ref 251), (1, .int x1), (2, .int x2), (3, .int x3), (4, .int x4), (5, .int x5), (6, .int x6), (7, .int x7)] [] h
  have j58 : ∀ (h : Hp), Okk (M_gain_j58 h) P → G 58 [] [] h := by
    intro h hO
    unfold M_gain_j58 at hO
    refine rb hG 4 58 61 [.ldc_w 0] [-1000000] [] [] [.int (-1000000 : Int32)] h [] (by decide +kernel) rfl trivial ?_
    exact eI hG 61 (by decide +kernel) rfl ⟨(-1000000 : Int32), rfl, ok_some (Q := P) hO⟩
  refine rbx hG 6 0 5 [.aload 0, .ldc_w 0, .putfield 1200] [0] [] (wr h 251 0 (0 : Int32)) (fun h1 => [(0, .ref 251), (1, .int x1), (2, .int x2), (3, .int x3), (4, .int x4), (5, .int x5), (6, .int x6), (7, .int x7)]) (fun h1 => []) (fun h1 => h1) [kd 251 = 12] (by decide +kernel) rfl kd_251 hO (fun h1 hO => ?_)
  refine rb hG 7 5 9 [.aload 0, .iload 1, .iload 2, .iload 3] [] [] [(0, .ref 251), (1, .int x1), (2, .int x2), (3, .int x3), (4, .int x4), (5, .int x5), (6, .int x6), (7, .int x7)] [.int x3, .int x2, .int x1, .ref 251] h1 [] (by decide +kernel) rfl trivial ?_
  refine rv hG z_M_layState 380 3 9 251 [.int x1, .int x2, .int x3] [] (by decide +kernel) mk_M_layState lk_12_380 rcv_251 rfl ⟨rfl, Nat.le_of_ble_eq_true rfl⟩ (c_M_layState (d := d) h1 x1 x2 x3 (ok_bind hO)) ?_
  rintro _ h3 ⟨r2, rfl, hO⟩
  refine ri hG .eq (46) 58 12 (by decide +kernel) (by decide) (fun c4 => ?_) (fun c4 => ?_)
  · have hO := ok_pos c4 hO
    refine rs hG [] [] rfl ?_
    exact j58 h3 hO
  · have hO := ok_neg c4 hO
    refine rb hG 5 15 18 [.aload 0, .iload 4] [] [] [(0, .ref 251), (1, .int x1), (2, .int x2), (3, .int x3), (4, .int x4), (5, .int x5), (6, .int x6), (7, .int x7)] [.int x4, .ref 251] h3 [] (by decide +kernel) rfl trivial ?_
    refine rv hG z_M_isGuest 332 1 18 251 [.int x4] [] (by decide +kernel) mk_M_isGuest lk_12_332 rcv_251 rfl ⟨rfl, Nat.le_of_ble_eq_true rfl⟩ (c_M_isGuest (d := d + 6) h3 x4 (ok_bind hO)) ?_
    rintro _ _ ⟨r5, rfl, rfl, hO⟩
    refine ri hG .eq (37) 58 21 (by decide +kernel) (by decide) (fun c6 => ?_) (fun c6 => ?_)
    · have hO := ok_pos c6 hO
      refine rs hG [] [] rfl ?_
      exact j58 h3 hO
    · have hO := ok_neg c6 hO
      refine rb hG 5 24 27 [.aload 0, .iload 5] [] [] [(0, .ref 251), (1, .int x1), (2, .int x2), (3, .int x3), (4, .int x4), (5, .int x5), (6, .int x6), (7, .int x7)] [.int x5, .ref 251] h3 [] (by decide +kernel) rfl trivial ?_
      refine rv hG z_M_isGuest 332 1 27 251 [.int x5] [] (by decide +kernel) mk_M_isGuest lk_12_332 rcv_251 rfl ⟨rfl, Nat.le_of_ble_eq_true rfl⟩ (c_M_isGuest (d := d + 6) h3 x5 (ok_bind hO)) ?_
      rintro _ _ ⟨r7, rfl, rfl, hO⟩
      refine ri hG .eq (28) 58 30 (by decide +kernel) (by decide) (fun c8 => ?_) (fun c8 => ?_)
      · have hO := ok_pos c8 hO
        refine rs hG [] [] rfl ?_
        exact j58 h3 hO
      · have hO := ok_neg c8 hO
        refine rb hG 5 33 37 [.iload 4, .iload 5] [] [] [(0, .ref 251), (1, .int x1), (2, .int x2), (3, .int x3), (4, .int x4), (5, .int x5), (6, .int x6), (7, .int x7)] [.int x5, .int x4] h3 [] (by decide +kernel) rfl trivial ?_
        refine rj hG .eq (21) 58 37 (by decide +kernel) (by decide) (fun c9 => ?_) (fun c9 => ?_)
        · have hO := ok_pos c9 hO
          refine rs hG [] [] rfl ?_
          exact j58 h3 hO
        · have hO := ok_neg c9 hO
          refine rb hG 5 40 43 [.aload 0, .iload 6] [] [] [(0, .ref 251), (1, .int x1), (2, .int x2), (3, .int x3), (4, .int x4), (5, .int x5), (6, .int x6), (7, .int x7)] [.int x6, .ref 251] h3 [] (by decide +kernel) rfl trivial ?_
          refine rv hG z_M_isTable 338 1 43 251 [.int x6] [] (by decide +kernel) mk_M_isTable lk_12_338 rcv_251 rfl ⟨rfl, Nat.le_of_ble_eq_true rfl⟩ (c_M_isTable (d := d + 6) h3 x6 (ok_bind hO)) ?_
          rintro _ _ ⟨r10, rfl, rfl, hO⟩
          refine ri hG .eq (12) 58 46 (by decide +kernel) (by decide) (fun c11 => ?_) (fun c11 => ?_)
          · have hO := ok_pos c11 hO
            refine rs hG [] [] rfl ?_
            exact j58 h3 hO
          · have hO := ok_neg c11 hO
            refine rb hG 5 49 52 [.aload 0, .iload 7] [] [] [(0, .ref 251), (1, .int x1), (2, .int x2), (3, .int x3), (4, .int x4), (5, .int x5), (6, .int x6), (7, .int x7)] [.int x7, .ref 251] h3 [] (by decide +kernel) rfl trivial ?_
            refine rv hG z_M_isTable 338 1 52 251 [.int x7] [] (by decide +kernel) mk_M_isTable lk_12_338 rcv_251 rfl ⟨rfl, Nat.le_of_ble_eq_true rfl⟩ (c_M_isTable (d := d + 6) h3 x7 (ok_bind hO)) ?_
            rintro _ _ ⟨r12, rfl, rfl, hO⟩
            refine riN hG (7) 62 55 (by decide +kernel) (by decide) (fun c13 => ?_) (fun c13 => ?_)
            · have hO := ok_pos c13 hO
              refine rs hG [] [] rfl ?_
              exact j58 h3 hO
            · have hO := ok_neg c13 hO
              refine rb hG 8 62 71 [.aload 0, .iload 4, .iload 5, .iload 6, .iload 7] [] [] [(0, .ref 251), (1, .int x1), (2, .int x2), (3, .int x3), (4, .int x4), (5, .int x5), (6, .int x6), (7, .int x7)] [.int x7, .int x6, .int x5, .int x4, .ref 251] h3 [] (by decide +kernel) rfl trivial ?_
              refine rv hG z_M_gainOf 484 4 71 251 [.int x4, .int x5, .int x6, .int x7] [] (by decide +kernel) mk_M_gainOf lk_12_484 rcv_251 rfl ⟨rfl, Nat.le_of_ble_eq_true rfl⟩ (c_M_gainOf (d := d + 4) h3 x4 x5 x6 x7 (ok_bind hO)) ?_
              rintro _ _ ⟨r14, rfl, rfl, hO⟩
              exact eI hG 74 (by decide +kernel) rfl ⟨r14, rfl, ok_some (Q := P) hO⟩
/-! GrainInn.State.isRest(IIII)Z -/
noncomputable def S_isRest_j68 (h : Hp) : Option Int32 := some (1 : Int32)
noncomputable def S_isRest_j60 (h : Hp) : Option Int32 := some (0 : Int32)
noncomputable def S_isRest_j37 (h : Hp) : Option Int32 := some (0 : Int32)
noncomputable def S_isRest_b3 (x1 : Int32) (x2 : Int32) (x3 : Int32) (x4 : Int32) (x5 : Int32) (h : Hp) : Option ((Int32) ⊕ Int32) := if kd (Int32.toNatClampNeg (h.1 57 6)) = 1 then (if (h.1 (Int32.toNatClampNeg (h.1 57 6)) 5) ≤ x5 then (((S_isRest_j68 h).map Sum.inr)) else ((S_gainOf h x1 x2 x5 x4).bind fun r3 => (S_gainOf h x1 x2 x3 x4).bind fun r4 => if r3 ≤ r4 then ((S_gainOf h x2 x1 x5 x3).bind fun r6 => (S_gainOf h x2 x1 x4 x3).bind fun r7 => if r6 ≤ r7 then (bnd ((x5 + (1 : Int32))) fun y9 => some (.inl y9)) else (((S_isRest_j60 h).map Sum.inr))) else (((S_isRest_j37 h).map Sum.inr)))) else none
noncomputable def S_isRest_l3 (x1 : Int32) (x2 : Int32) (x3 : Int32) (x4 : Int32) (x5 : Int32) (h : Hp) : Option Int32 := lp (fun s : (Int32) => S_isRest_b3 x1 x2 x3 x4 s h) (x5)
theorem S_isRest_l3_eq (x1 : Int32) (x2 : Int32) (x3 : Int32) (x4 : Int32) (x5 : Int32) (h : Hp) : S_isRest_l3 x1 x2 x3 x4 x5 h = (S_isRest_b3 x1 x2 x3 x4 x5 h).bind (Sum.elim (fun q : (Int32) => S_isRest_l3 x1 x2 x3 x4 q h) some) := lp_eq _ _
noncomputable def S_isRest (h : Hp) (x1 : Int32) (x2 : Int32) (x3 : Int32) (x4 : Int32) : Option Int32 := (S_isRest_l3 x1 x2 x3 x4 (0 : Int32) h)
set_option maxRecDepth 100000 in
set_option maxHeartbeats 4000000 in
theorem c_S_isRest {E : En} {d : Nat} (h : Hp) (x1 : Int32) (x2 : Int32) (x3 : Int32) (x4 : Int32) {P : Int32 → Prop} (hO : Okk (S_isRest h x1 x2 x3 x4) P) : Cn E (d + 4) z_S_isRest [.ref 57, .int x1, .int x2, .int x3, .int x4] h (RIp h P) := by
  refine cn_of (on := 7) (d := d + 3) ⟨rfl, by decide +kernel, Nat.le_of_ble_eq_true rfl⟩ (fun G hG => ?_)
  unfold S_isRest at hO
  show G 0 [(0, .ref 57), (1, .int x1), (2, .int x2), (3, .int x3), (4, .int x4)] [] h
  have j68 : Okk (S_isRest_j68 h) P → G 68 [] [] h := by
    intro hO
    unfold S_isRest_j68 at hO
    refine rb hG 4 68 69 [.ldc_w 0] [1] [] [] [.int (1 : Int32)] h [] (by decide +kernel) rfl trivial ?_
    exact eZ hG 69 (by decide +kernel) rfl (Or.inr rfl) ⟨(1 : Int32), rfl, rfl, ok_some (Q := P) hO⟩
  have j60 : Okk (S_isRest_j60 h) P → G 60 [] [] h := by
    intro hO
    unfold S_isRest_j60 at hO
    refine rb hG 4 60 61 [.ldc_w 0] [0] [] [] [.int (0 : Int32)] h [] (by decide +kernel) rfl trivial ?_
    exact eZ hG 61 (by decide +kernel) rfl (Or.inl rfl) ⟨(0 : Int32), rfl, rfl, ok_some (Q := P) hO⟩
  have j37 : Okk (S_isRest_j37 h) P → G 37 [] [] h := by
    intro hO
    unfold S_isRest_j37 at hO
    refine rb hG 4 37 38 [.ldc_w 0] [0] [] [] [.int (0 : Int32)] h [] (by decide +kernel) rfl trivial ?_
    exact eZ hG 38 (by decide +kernel) rfl (Or.inl rfl) ⟨(0 : Int32), rfl, rfl, ok_some (Q := P) hO⟩
  have l3 : ∀ (x5 : Int32), Okk (S_isRest_l3 x1 x2 x3 x4 x5 h) P → G 3 [(0, .ref 57), (1, .int x1), (2, .int x2), (3, .int x3), (4, .int x4), (5, .int x5)] [] h := by
    intro x5 hO
    obtain ⟨H3, eH3⟩ : ∃ q : (Int32) → Prop, q = fun s => G 3 [(0, .ref 57), (1, .int x1), (2, .int x2), (3, .int x3), (4, .int x4), (5, .int (s))] [] (h) := ⟨_, rfl⟩
    have w9 : H3 (x5) := by
      refine lp_wp (f := fun s : (Int32) => S_isRest_b3 x1 x2 x3 x4 s h) (H := H3) (Q := P) ?_ (x5) hO
      intro x5 hO
      rw [eH3]
      show G 3 [(0, .ref 57), (1, .int x1), (2, .int x2), (3, .int x3), (4, .int x4), (5, .int x5)] [] h
      have k3 : ∀ s : (Int32), H3 s → G 3 [(0, .ref 57), (1, .int x1), (2, .int x2), (3, .int x3), (4, .int x4), (5, .int (s))] [] (h) := fun s q => by rw [eH3] at q; exact q
      replace hO : Okk (S_isRest_b3 x1 x2 x3 x4 x5 h) (Sum.elim H3 P) := hO
      clear eH3
      unfold S_isRest_b3 at hO
      obtain ⟨g1, hO⟩ := ok_if hO
      refine rb hG 7 3 12 [.iload 5, .aload 0, .instanceof 706, .getfield 105] [] [] [(0, .ref 57), (1, .int x1), (2, .int x2), (3, .int x3), (4, .int x4), (5, .int x5)] [.int (h.1 (Int32.toNatClampNeg (h.1 57 6)) 5), .int x5] h [kd 57 = 7, kd (Int32.toNatClampNeg (h.1 57 6)) = 1] (by decide +kernel) rfl ⟨kd_57, g1⟩ ?_
      refine rj hG .ge (56) 68 12 (by decide +kernel) (by decide) (fun c2 => ?_) (fun c2 => ?_)
      · have hO := ok_pos c2 hO
        refine rs hG [] [] rfl ?_
        exact j68 (ok_inr hO)
      · have hO := ok_neg c2 hO
        refine rb hG 8 15 22 [.aload 0, .iload 1, .iload 2, .iload 5, .iload 4] [] [] [(0, .ref 57), (1, .int x1), (2, .int x2), (3, .int x3), (4, .int x4), (5, .int x5)] [.int x4, .int x5, .int x2, .int x1, .ref 57] h [] (by decide +kernel) rfl trivial ?_
        refine rv hG z_S_gainOf 231 4 22 57 [.int x1, .int x2, .int x5, .int x4] [] (by decide +kernel) mk_S_gainOf lk_7_231 rcv_57 rfl ⟨rfl, Nat.le_of_ble_eq_true rfl⟩ (c_S_gainOf (d := d) h x1 x2 x5 x4 (ok_bind hO)) ?_
        rintro _ _ ⟨r3, rfl, rfl, hO⟩
        refine rb hG 8 25 31 [.aload 0, .iload 1, .iload 2, .iload 3, .iload 4] [] [] [(0, .ref 57), (1, .int x1), (2, .int x2), (3, .int x3), (4, .int x4), (5, .int x5)] [.int x4, .int x3, .int x2, .int x1, .ref 57, .int r3] h [] (by decide +kernel) rfl trivial ?_
        refine rv hG z_S_gainOf 231 4 31 57 [.int x1, .int x2, .int x3, .int x4] [.int r3] (by decide +kernel) mk_S_gainOf lk_7_231 rcv_57 rfl ⟨rfl, Nat.le_of_ble_eq_true rfl⟩ (c_S_gainOf (d := d) h x1 x2 x3 x4 (ok_bind hO)) ?_
        rintro _ _ ⟨r4, rfl, rfl, hO⟩
        refine rj hG .le (5) 39 34 (by decide +kernel) (by decide) (fun c5 => ?_) (fun c5 => ?_)
        · have hO := ok_pos c5 hO
          refine rb hG 8 39 45 [.aload 0, .iload 2, .iload 1, .iload 5, .iload 3] [] [] [(0, .ref 57), (1, .int x1), (2, .int x2), (3, .int x3), (4, .int x4), (5, .int x5)] [.int x3, .int x5, .int x1, .int x2, .ref 57] h [] (by decide +kernel) rfl trivial ?_
          refine rv hG z_S_gainOf 231 4 45 57 [.int x2, .int x1, .int x5, .int x3] [] (by decide +kernel) mk_S_gainOf lk_7_231 rcv_57 rfl ⟨rfl, Nat.le_of_ble_eq_true rfl⟩ (c_S_gainOf (d := d) h x2 x1 x5 x3 (ok_bind hO)) ?_
          rintro _ _ ⟨r6, rfl, rfl, hO⟩
          refine rb hG 8 48 54 [.aload 0, .iload 2, .iload 1, .iload 4, .iload 3] [] [] [(0, .ref 57), (1, .int x1), (2, .int x2), (3, .int x3), (4, .int x4), (5, .int x5)] [.int x3, .int x4, .int x1, .int x2, .ref 57, .int r6] h [] (by decide +kernel) rfl trivial ?_
          refine rv hG z_S_gainOf 231 4 54 57 [.int x2, .int x1, .int x4, .int x3] [.int r6] (by decide +kernel) mk_S_gainOf lk_7_231 rcv_57 rfl ⟨rfl, Nat.le_of_ble_eq_true rfl⟩ (c_S_gainOf (d := d) h x2 x1 x4 x3 (ok_bind hO)) ?_
          rintro _ _ ⟨r7, rfl, rfl, hO⟩
          refine rj hG .le (5) 62 57 (by decide +kernel) (by decide) (fun c8 => ?_) (fun c8 => ?_)
          · have hO := ok_pos c8 hO
            refine rbx hG 4 62 65 [.iinc 5 0] [1] [] ((x5 + (1 : Int32))) (fun y9 => [(5, .int y9), (0, .ref 57), (1, .int x1), (2, .int x2), (3, .int x3), (4, .int x4)]) (fun y9 => []) (fun y9 => h) [] (by decide +kernel) rfl trivial hO (fun y9 hO => ?_)
            refine rb hG 4 65 3 [] [] [] [(5, .int y9), (0, .ref 57), (1, .int x1), (2, .int x2), (3, .int x3), (4, .int x4)] [] h [] (by decide +kernel) rfl trivial ?_
            refine rs hG [(0, .ref 57), (1, .int x1), (2, .int x2), (3, .int x3), (4, .int x4), (5, .int y9)] [1, 2, 3, 4, 5, 0] rfl ?_
            exact k3 y9 (ok_some (Q := (Sum.elim H3 P)) hO)
          · have hO := ok_neg c8 hO
            refine rs hG [] [] rfl ?_
            exact j60 (ok_inr hO)
        · have hO := ok_neg c5 hO
          refine rs hG [] [] rfl ?_
          exact j37 (ok_inr hO)
    rw [eH3] at w9
    exact w9
  refine rb hG 5 0 3 [.ldc_w 0, .istore 5] [0] [] [(5, .int (0 : Int32)), (0, .ref 57), (1, .int x1), (2, .int x2), (3, .int x3), (4, .int x4)] [] h [] (by decide +kernel) rfl trivial ?_
  refine rs hG [(0, .ref 57), (1, .int x1), (2, .int x2), (3, .int x3), (4, .int x4), (5, .int (0 : Int32))] [1, 2, 3, 4, 5, 0] rfl ?_
  exact l3 (0 : Int32) hO
/-! GrainInn.rest(IIIIII)I -/
noncomputable def K_rest_j29 (h : Hp) : Option (Int32 × Hp) := some ((-1 : Int32), h)
noncomputable def K_rest_j123 (s0 : Int32) (h : Hp) : Option (Int32 × Hp) := some (s0, h)
noncomputable def K_rest_j111 (x6 : Int32) (x9 : Int32) (h : Hp) : Option (Int32 × Hp) := if x6 = (-1 : Int32) then ((K_rest_j123 x9 h)) else ((K_rest_j123 (-1 : Int32) h))
noncomputable def K_rest_j105 (x4 : Int32) (x5 : Int32) (x6 : Int32) (x7 : Nat) (x8 : Int32) (x9 : Int32) (x10 : Int32) (h : Hp) : Option ((Int32 × Int32) ⊕ (Int32 × Hp)) := bnd ((x10 + (1 : Int32))) fun y2 => some (.inl (x9, y2))
noncomputable def K_rest_j99 (x4 : Int32) (x5 : Int32) (x6 : Int32) (x7 : Nat) (x8 : Int32) (x9 : Int32) (x10 : Int32) (x11 : Int32) (h : Hp) : Option ((Int32 × Int32) ⊕ ((Int32 × Int32) ⊕ (Int32 × Hp))) := bnd ((x11 + (1 : Int32))) fun y3 => some (.inl (x9, y3))
noncomputable def K_rest_j87 (x8 : Int32) (x10 : Int32) (x11 : Int32) (h : Hp) : Option (Int32 × Hp) := some (((x8 * x10) + x11), h)
noncomputable def K_rest_b57 (x4 : Int32) (x5 : Int32) (x6 : Int32) (x7 : Nat) (x8 : Int32) (x9 : Int32) (x10 : Int32) (x11 : Int32) (h : Hp) : Option ((Int32 × Int32) ⊕ ((Int32 × Int32) ⊕ (Int32 × Hp))) := if x8 ≤ x11 then (((K_rest_j105 x4 x5 x6 x7 x8 x9 x10 h).map Sum.inr)) else (if x7 = 57 then ((S_isRest h x4 x5 x10 x11).bind fun r6 => if r6 = 0 then ((K_rest_j99 x4 x5 x6 57 x8 x9 x10 x11 h)) else (if x9 = x6 then ((((K_rest_j87 x8 x10 x11 h).map Sum.inr).map Sum.inr)) else (bnd ((x9 + (1 : Int32))) fun y9 => (K_rest_j99 x4 x5 x6 57 x8 y9 x10 x11 h)))) else none)
noncomputable def K_rest_l57 (x4 : Int32) (x5 : Int32) (x6 : Int32) (x7 : Nat) (x8 : Int32) (x9 : Int32) (x10 : Int32) (x11 : Int32) (h : Hp) : Option ((Int32 × Int32) ⊕ (Int32 × Hp)) := lp (fun s : (Int32 × Int32) => K_rest_b57 x4 x5 x6 x7 x8 s.1 x10 s.2 h) (x9, x11)
theorem K_rest_l57_eq (x4 : Int32) (x5 : Int32) (x6 : Int32) (x7 : Nat) (x8 : Int32) (x9 : Int32) (x10 : Int32) (x11 : Int32) (h : Hp) : K_rest_l57 x4 x5 x6 x7 x8 x9 x10 x11 h = (K_rest_b57 x4 x5 x6 x7 x8 x9 x10 x11 h).bind (Sum.elim (fun q : (Int32 × Int32) => K_rest_l57 x4 x5 x6 x7 x8 q.1 x10 q.2 h) some) := lp_eq _ _
noncomputable def K_rest_b47 (x4 : Int32) (x5 : Int32) (x6 : Int32) (x7 : Nat) (x8 : Int32) (x9 : Int32) (x10 : Int32) (h : Hp) : Option ((Int32 × Int32) ⊕ (Int32 × Hp)) := if x8 ≤ x10 then (((K_rest_j111 x6 x9 h).map Sum.inr)) else ((K_rest_l57 x4 x5 x6 x7 x8 x9 x10 (0 : Int32) h))
noncomputable def K_rest_l47 (x4 : Int32) (x5 : Int32) (x6 : Int32) (x7 : Nat) (x8 : Int32) (x9 : Int32) (x10 : Int32) (h : Hp) : Option (Int32 × Hp) := lp (fun s : (Int32 × Int32) => K_rest_b47 x4 x5 x6 x7 x8 s.1 s.2 h) (x9, x10)
theorem K_rest_l47_eq (x4 : Int32) (x5 : Int32) (x6 : Int32) (x7 : Nat) (x8 : Int32) (x9 : Int32) (x10 : Int32) (h : Hp) : K_rest_l47 x4 x5 x6 x7 x8 x9 x10 h = (K_rest_b47 x4 x5 x6 x7 x8 x9 x10 h).bind (Sum.elim (fun q : (Int32 × Int32) => K_rest_l47 x4 x5 x6 x7 x8 q.1 q.2 h) some) := lp_eq _ _
noncomputable def K_rest (h : Hp) (x1 : Int32) (x2 : Int32) (x3 : Int32) (x4 : Int32) (x5 : Int32) (x6 : Int32) : Option (Int32 × Hp) := (K_reach h x1 x2 x3).bind fun (r11, h12) => if r11 = 0 then ((K_rest_j29 h12)) else (if r11 = 57 then (if kd (Int32.toNatClampNeg (h12.1 57 6)) = 1 then ((H_hasCouple h12 (Int32.toNatClampNeg (h12.1 57 6)) x4 x5).bind fun r16 => if r16 = 0 then ((K_rest_j29 h12)) else (bnd ((h12.1 (Int32.toNatClampNeg (h12.1 57 6)) 5)) fun y18 => (K_rest_l47 x4 x5 x6 57 y18 (0 : Int32) (0 : Int32) h12))) else none) else none)
set_option maxRecDepth 100000 in
set_option maxHeartbeats 4000000 in
theorem c_K_rest {E : En} {d : Nat} (h : Hp) (x1 : Int32) (x2 : Int32) (x3 : Int32) (x4 : Int32) (x5 : Int32) (x6 : Int32) {P : (Int32 × Hp) → Prop} (hO : Okk (K_rest h x1 x2 x3 x4 x5 x6) P) : Cn E (d + 8) z_K_rest [.ref 1, .int x1, .int x2, .int x3, .int x4, .int x5, .int x6] h (RI P) := by
  refine cn_of (on := 11) (d := d + 7) ⟨rfl, by decide +kernel, Nat.le_of_ble_eq_true rfl⟩ (fun G hG => ?_)
  unfold K_rest at hO
  show G 0 [(0, .ref 1), (1, .int x1), (2, .int x2), (3, .int x3), (4, .int x4), (5, .int x5), (6, .int x6)] [] h
  have j29 : ∀ (h : Hp), Okk (K_rest_j29 h) P → G 29 [] [] h := by
    intro h hO
    unfold K_rest_j29 at hO
    refine rb hG 4 29 30 [.ldc_w 0] [-1] [] [] [.int (-1 : Int32)] h [] (by decide +kernel) rfl trivial ?_
    exact eI hG 30 (by decide +kernel) rfl ⟨(-1 : Int32), rfl, ok_some (Q := P) hO⟩
  have j123 : ∀ (s0 : Int32) (h : Hp), Okk (K_rest_j123 s0 h) P → G 123 [] [.int s0] h := by
    intro s0 h hO
    unfold K_rest_j123 at hO
    exact eI hG 123 (by decide +kernel) rfl ⟨s0, rfl, ok_some (Q := P) hO⟩
  have j111 : ∀ (x9 : Int32) (h : Hp), Okk (K_rest_j111 x6 x9 h) P → G 111 [(6, .int x6), (9, .int x9)] [] h := by
    intro x9 h hO
    unfold K_rest_j111 at hO
    refine rb hG 5 111 114 [.iload 6, .ldc_w 0] [-1] [] [(6, .int x6), (9, .int x9)] [.int (-1 : Int32), .int x6] h [] (by decide +kernel) rfl trivial ?_
    refine rjN hG (8) 122 114 (by decide +kernel) (by decide) (fun c1 => ?_) (fun c1 => ?_)
    · have hO := ok_pos c1 hO
      refine rb hG 5 117 123 [.iload 9] [] [] [(6, .int x6), (9, .int x9)] [.int x9] h [] (by decide +kernel) rfl trivial ?_
      refine rs hG [] [] rfl ?_
      exact j123 x9 h hO
    · have hO := ok_neg c1 hO
      refine rb hG 4 122 123 [.ldc_w 0] [-1] [] [(6, .int x6), (9, .int x9)] [.int (-1 : Int32)] h [] (by decide +kernel) rfl trivial ?_
      refine rs hG [] [] rfl ?_
      exact j123 (-1 : Int32) h hO
  have j87 : ∀ (x8 : Int32) (x10 : Int32) (x11 : Int32) (h : Hp), Okk (K_rest_j87 x8 x10 x11 h) P → G 87 [(8, .int x8), (10, .int x10), (11, .int x11)] [] h := by
    intro x8 x10 x11 h hO
    unfold K_rest_j87 at hO
    refine rb hG 8 87 95 [.iload 8, .iload 10, .imul, .iload 11, .iadd] [] [] [(8, .int x8), (10, .int x10), (11, .int x11)] [.int ((x8 * x10) + x11)] h [] (by decide +kernel) rfl trivial ?_
    exact eI hG 95 (by decide +kernel) rfl ⟨((x8 * x10) + x11), rfl, ok_some (Q := P) hO⟩
  have l47 : ∀ (x7 : Nat) (x8 : Int32) (x9 : Int32) (x10 : Int32) (h : Hp), Okk (K_rest_l47 x4 x5 x6 x7 x8 x9 x10 h) P → G 47 [(4, .int x4), (5, .int x5), (6, .int x6), (7, .ref x7), (8, .int x8), (9, .int x9), (10, .int x10)] [] h := by
    intro x7 x8 x9 x10 h hO
    obtain ⟨H47, eH47⟩ : ∃ q : (Int32 × Int32) → Prop, q = fun s => G 47 [(4, .int x4), (5, .int x5), (6, .int x6), (7, .ref x7), (8, .int x8), (9, .int (s.1)), (10, .int (s.2))] [] (h) := ⟨_, rfl⟩
    have w9 : H47 (x9, x10) := by
      refine lp_wp (f := fun s : (Int32 × Int32) => K_rest_b47 x4 x5 x6 x7 x8 s.1 s.2 h) (H := H47) (Q := P) ?_ (x9, x10) hO
      rintro ⟨x9, x10⟩ hO
      rw [eH47]
      show G 47 [(4, .int x4), (5, .int x5), (6, .int x6), (7, .ref x7), (8, .int x8), (9, .int x9), (10, .int x10)] [] h
      have k47 : ∀ s : (Int32 × Int32), H47 s → G 47 [(4, .int x4), (5, .int x5), (6, .int x6), (7, .ref x7), (8, .int x8), (9, .int (s.1)), (10, .int (s.2))] [] (h) := fun s q => by rw [eH47] at q; exact q
      replace hO : Okk (K_rest_b47 x4 x5 x6 x7 x8 x9 x10 h) (Sum.elim H47 P) := hO
      clear eH47
      have j105 : ∀ (x9 : Int32) (x10 : Int32), Okk (K_rest_j105 x4 x5 x6 x7 x8 x9 x10 h) (Sum.elim H47 P) → G 105 [(4, .int x4), (5, .int x5), (6, .int x6), (7, .ref x7), (8, .int x8), (9, .int x9), (10, .int x10)] [] h := by
        intro x9 x10 hO
        unfold K_rest_j105 at hO
        refine rbx hG 4 105 108 [.iinc 10 0] [1] [] ((x10 + (1 : Int32))) (fun y2 => [(10, .int y2), (4, .int x4), (5, .int x5), (6, .int x6), (7, .ref x7), (8, .int x8), (9, .int x9)]) (fun y2 => []) (fun y2 => h) [] (by decide +kernel) rfl trivial hO (fun y2 hO => ?_)
        refine rb hG 4 108 47 [] [] [] [(10, .int y2), (4, .int x4), (5, .int x5), (6, .int x6), (7, .ref x7), (8, .int x8), (9, .int x9)] [] h [] (by decide +kernel) rfl trivial ?_
        refine rs hG [(4, .int x4), (5, .int x5), (6, .int x6), (7, .ref x7), (8, .int x8), (9, .int x9), (10, .int y2)] [1, 2, 3, 4, 5, 6, 0] rfl ?_
        exact k47 (x9, y2) (ok_some (Q := (Sum.elim H47 P)) hO)
      have l57 : ∀ (x9 : Int32) (x10 : Int32) (x11 : Int32), Okk (K_rest_l57 x4 x5 x6 x7 x8 x9 x10 x11 h) (Sum.elim H47 P) → G 57 [(4, .int x4), (5, .int x5), (6, .int x6), (7, .ref x7), (8, .int x8), (9, .int x9), (10, .int x10), (11, .int x11)] [] h := by
        intro x9 x10 x11 hO
        obtain ⟨H57, eH57⟩ : ∃ q : (Int32 × Int32) → Prop, q = fun s => G 57 [(4, .int x4), (5, .int x5), (6, .int x6), (7, .ref x7), (8, .int x8), (9, .int (s.1)), (10, .int x10), (11, .int (s.2))] [] (h) := ⟨_, rfl⟩
        have w9 : H57 (x9, x11) := by
          refine lp_wp (f := fun s : (Int32 × Int32) => K_rest_b57 x4 x5 x6 x7 x8 s.1 x10 s.2 h) (H := H57) (Q := (Sum.elim H47 P)) ?_ (x9, x11) hO
          rintro ⟨x9, x11⟩ hO
          rw [eH57]
          show G 57 [(4, .int x4), (5, .int x5), (6, .int x6), (7, .ref x7), (8, .int x8), (9, .int x9), (10, .int x10), (11, .int x11)] [] h
          have k57 : ∀ s : (Int32 × Int32), H57 s → G 57 [(4, .int x4), (5, .int x5), (6, .int x6), (7, .ref x7), (8, .int x8), (9, .int (s.1)), (10, .int x10), (11, .int (s.2))] [] (h) := fun s q => by rw [eH57] at q; exact q
          replace hO : Okk (K_rest_b57 x4 x5 x6 x7 x8 x9 x10 x11 h) (Sum.elim H57 (Sum.elim H47 P)) := hO
          clear eH57
          have j99 : ∀ (x9 : Int32) (x11 : Int32), Okk (K_rest_j99 x4 x5 x6 x7 x8 x9 x10 x11 h) (Sum.elim H57 (Sum.elim H47 P)) → G 99 [(4, .int x4), (5, .int x5), (6, .int x6), (7, .ref x7), (8, .int x8), (9, .int x9), (10, .int x10), (11, .int x11)] [] h := by
            intro x9 x11 hO
            unfold K_rest_j99 at hO
            refine rbx hG 4 99 102 [.iinc 11 0] [1] [] ((x11 + (1 : Int32))) (fun y3 => [(11, .int y3), (4, .int x4), (5, .int x5), (6, .int x6), (7, .ref x7), (8, .int x8), (9, .int x9), (10, .int x10)]) (fun y3 => []) (fun y3 => h) [] (by decide +kernel) rfl trivial hO (fun y3 hO => ?_)
            refine rb hG 4 102 57 [] [] [] [(11, .int y3), (4, .int x4), (5, .int x5), (6, .int x6), (7, .ref x7), (8, .int x8), (9, .int x9), (10, .int x10)] [] h [] (by decide +kernel) rfl trivial ?_
            refine rs hG [(4, .int x4), (5, .int x5), (6, .int x6), (7, .ref x7), (8, .int x8), (9, .int x9), (10, .int x10), (11, .int y3)] [1, 2, 3, 4, 5, 6, 7, 0] rfl ?_
            exact k57 (x9, y3) (ok_some (Q := (Sum.elim H57 (Sum.elim H47 P))) hO)
          unfold K_rest_b57 at hO
          refine rb hG 5 57 61 [.iload 11, .iload 8] [] [] [(4, .int x4), (5, .int x5), (6, .int x6), (7, .ref x7), (8, .int x8), (9, .int x9), (10, .int x10), (11, .int x11)] [.int x8, .int x11] h [] (by decide +kernel) rfl trivial ?_
          refine rj hG .ge (44) 105 61 (by decide +kernel) (by decide) (fun c4 => ?_) (fun c4 => ?_)
          · have hO := ok_pos c4 hO
            refine rs hG [(4, .int x4), (5, .int x5), (6, .int x6), (7, .ref x7), (8, .int x8), (9, .int x9), (10, .int x10)] [0, 1, 2, 3, 4, 5, 6] rfl ?_
            exact j105 x9 x10 (ok_inr hO)
          · have hO := ok_neg c4 hO
            obtain ⟨g5, hOg5⟩ := ok_if hO
            subst g5
            have hO := hOg5
            refine rb hG 8 64 74 [.aload 7, .iload 4, .iload 5, .iload 10, .iload 11] [] [] [(4, .int x4), (5, .int x5), (6, .int x6), (7, .ref 57), (8, .int x8), (9, .int x9), (10, .int x10), (11, .int x11)] [.int x11, .int x10, .int x5, .int x4, .ref 57] h [] (by decide +kernel) rfl trivial ?_
            refine rv hG z_S_isRest 299 4 74 57 [.int x4, .int x5, .int x10, .int x11] [] (by decide +kernel) mk_S_isRest lk_11_299 rcv_57 rfl ⟨rfl, Nat.le_of_ble_eq_true rfl⟩ (c_S_isRest (d := d + 3) h x4 x5 x10 x11 (ok_bind hO)) ?_
            rintro _ _ ⟨r6, rfl, rfl, hO⟩
            refine ri hG .eq (22) 99 77 (by decide +kernel) (by decide) (fun c7 => ?_) (fun c7 => ?_)
            · have hO := ok_pos c7 hO
              exact j99 x9 x11 hO
            · have hO := ok_neg c7 hO
              refine rb hG 5 80 84 [.iload 9, .iload 6] [] [] [(4, .int x4), (5, .int x5), (6, .int x6), (7, .ref 57), (8, .int x8), (9, .int x9), (10, .int x10), (11, .int x11)] [.int x6, .int x9] h [] (by decide +kernel) rfl trivial ?_
              refine rjN hG (12) 96 84 (by decide +kernel) (by decide) (fun c8 => ?_) (fun c8 => ?_)
              · have hO := ok_pos c8 hO
                refine rs hG [(8, .int x8), (10, .int x10), (11, .int x11)] [4, 6, 7] rfl ?_
                exact j87 x8 x10 x11 h (ok_inr (ok_inr hO))
              · have hO := ok_neg c8 hO
                refine rbx hG 4 96 99 [.iinc 9 0] [1] [] ((x9 + (1 : Int32))) (fun y9 => [(9, .int y9), (4, .int x4), (5, .int x5), (6, .int x6), (7, .ref 57), (8, .int x8), (10, .int x10), (11, .int x11)]) (fun y9 => []) (fun y9 => h) [] (by decide +kernel) rfl trivial hO (fun y9 hO => ?_)
                refine rs hG [(4, .int x4), (5, .int x5), (6, .int x6), (7, .ref 57), (8, .int x8), (9, .int y9), (10, .int x10), (11, .int x11)] [1, 2, 3, 4, 5, 0, 6, 7] rfl ?_
                exact j99 y9 x11 hO
        rw [eH57] at w9
        exact w9
      unfold K_rest_b47 at hO
      refine rb hG 5 47 51 [.iload 10, .iload 8] [] [] [(4, .int x4), (5, .int x5), (6, .int x6), (7, .ref x7), (8, .int x8), (9, .int x9), (10, .int x10)] [.int x8, .int x10] h [] (by decide +kernel) rfl trivial ?_
      refine rj hG .ge (60) 111 51 (by decide +kernel) (by decide) (fun c10 => ?_) (fun c10 => ?_)
      · have hO := ok_pos c10 hO
        refine rs hG [(6, .int x6), (9, .int x9)] [2, 5] rfl ?_
        exact j111 x9 h (ok_inr hO)
      · have hO := ok_neg c10 hO
        refine rb hG 5 54 57 [.ldc_w 0, .istore 11] [0] [] [(11, .int (0 : Int32)), (4, .int x4), (5, .int x5), (6, .int x6), (7, .ref x7), (8, .int x8), (9, .int x9), (10, .int x10)] [] h [] (by decide +kernel) rfl trivial ?_
        refine rs hG [(4, .int x4), (5, .int x5), (6, .int x6), (7, .ref x7), (8, .int x8), (9, .int x9), (10, .int x10), (11, .int (0 : Int32))] [1, 2, 3, 4, 5, 6, 7, 0] rfl ?_
        exact l57 x9 x10 (0 : Int32) hO
    rw [eH47] at w9
    exact w9
  refine rb hG 7 0 4 [.aload 0, .iload 1, .iload 2, .iload 3] [] [] [(0, .ref 1), (1, .int x1), (2, .int x2), (3, .int x3), (4, .int x4), (5, .int x5), (6, .int x6)] [.int x3, .int x2, .int x1, .ref 1] h [] (by decide +kernel) rfl trivial ?_
  refine rv hG z_K_reach 155 3 4 1 [.int x1, .int x2, .int x3] [] (by decide +kernel) mk_K_reach lk_11_155 rcv_1 rfl ⟨rfl, Nat.le_of_ble_eq_true rfl⟩ (c_K_reach (d := d) h x1 x2 x3 (ok_bind hO)) ?_
  rintro _ h12 ⟨r11, rfl, hO⟩
  refine rb hG 5 7 11 [.astore 7, .aload 7] [] [] [(7, .ref r11), (0, .ref 1), (1, .int x1), (2, .int x2), (3, .int x3), (4, .int x4), (5, .int x5), (6, .int x6)] [.ref r11] h12 [] (by decide +kernel) rfl trivial ?_
  refine rn hG (18) 29 11 (by decide +kernel) (by decide) (fun c13 => ?_) (fun c13 => ?_)
  · have hO := ok_pos c13 hO
    refine rs hG [] [] rfl ?_
    exact j29 h12 hO
  · have hO := ok_neg c13 hO
    obtain ⟨g14, hOg14⟩ := ok_if hO
    subst g14
    have hO := hOg14
    obtain ⟨g15, hO⟩ := ok_if hO
    refine rb hG 7 14 23 [.aload 7, .instanceof 706, .iload 4, .iload 5] [] [] [(7, .ref 57), (0, .ref 1), (1, .int x1), (2, .int x2), (3, .int x3), (4, .int x4), (5, .int x5), (6, .int x6)] [.int x5, .int x4, .ref (Int32.toNatClampNeg (h12.1 57 6))] h12 [kd 57 = 7] (by decide +kernel) rfl kd_57 ?_
    refine rv hG z_H_hasCouple 292 2 23 (Int32.toNatClampNeg (h12.1 57 6)) [.int x4, .int x5] [] (by decide +kernel) mk_H_hasCouple lk_11_292 (rcv_H g15) rfl ⟨rfl, Nat.le_of_ble_eq_true rfl⟩ (c_H_hasCouple (d := d + 5) h12 (Int32.toNatClampNeg (h12.1 57 6)) x4 x5 (ok_bind hO)) ?_
    rintro _ _ ⟨r16, rfl, rfl, hO⟩
    refine riN hG (5) 31 26 (by decide +kernel) (by decide) (fun c17 => ?_) (fun c17 => ?_)
    · have hO := ok_pos c17 hO
      refine rs hG [] [] rfl ?_
      exact j29 h12 hO
    · have hO := ok_neg c17 hO
      refine rbx hG 7 31 41 [.aload 7, .instanceof 706, .getfield 105, .istore 8] [] [] ((h12.1 (Int32.toNatClampNeg (h12.1 57 6)) 5)) (fun y18 => [(8, .int y18), (7, .ref 57), (0, .ref 1), (1, .int x1), (2, .int x2), (3, .int x3), (4, .int x4), (5, .int x5), (6, .int x6)]) (fun y18 => []) (fun y18 => h12) [kd 57 = 7, kd (Int32.toNatClampNeg (h12.1 57 6)) = 1] (by decide +kernel) rfl ⟨kd_57, g15⟩ hO (fun y18 hO => ?_)
      refine rb hG 7 41 47 [.ldc_w 0, .istore 9, .ldc_w 0, .istore 10] [0] [] [(10, .int (0 : Int32)), (9, .int (0 : Int32)), (8, .int y18), (7, .ref 57), (0, .ref 1), (1, .int x1), (2, .int x2), (3, .int x3), (4, .int x4), (5, .int x5), (6, .int x6)] [] h12 [] (by decide +kernel) rfl trivial ?_
      refine rs hG [(4, .int x4), (5, .int x5), (6, .int x6), (7, .ref 57), (8, .int y18), (9, .int (0 : Int32)), (10, .int (0 : Int32))] [8, 9, 10, 3, 2, 1, 0] rfl ?_
      exact l47 57 y18 (0 : Int32) (0 : Int32) h12 hO
/-! GrainInnModel.isRest(IIII)Z -/
noncomputable def M_isRest_j63 (h : Hp) : Option Int32 := some (1 : Int32)
noncomputable def M_isRest_j55 (h : Hp) : Option Int32 := some (0 : Int32)
noncomputable def M_isRest_b3 (x1 : Int32) (x2 : Int32) (x3 : Int32) (x4 : Int32) (x5 : Int32) (h : Hp) : Option ((Int32) ⊕ Int32) := if (h.1 251 24) ≤ x5 then (((M_isRest_j63 h).map Sum.inr)) else ((M_gainOf h x1 x2 x5 x4).bind fun r2 => (M_gainOf h x1 x2 x3 x4).bind fun r3 => if r3 < r2 then (((M_isRest_j55 h).map Sum.inr)) else ((M_gainOf h x2 x1 x5 x3).bind fun r5 => (M_gainOf h x2 x1 x4 x3).bind fun r6 => if r5 ≤ r6 then (bnd ((x5 + (1 : Int32))) fun y8 => some (.inl y8)) else (((M_isRest_j55 h).map Sum.inr))))
noncomputable def M_isRest_l3 (x1 : Int32) (x2 : Int32) (x3 : Int32) (x4 : Int32) (x5 : Int32) (h : Hp) : Option Int32 := lp (fun s : (Int32) => M_isRest_b3 x1 x2 x3 x4 s h) (x5)
theorem M_isRest_l3_eq (x1 : Int32) (x2 : Int32) (x3 : Int32) (x4 : Int32) (x5 : Int32) (h : Hp) : M_isRest_l3 x1 x2 x3 x4 x5 h = (M_isRest_b3 x1 x2 x3 x4 x5 h).bind (Sum.elim (fun q : (Int32) => M_isRest_l3 x1 x2 x3 x4 q h) some) := lp_eq _ _
noncomputable def M_isRest (h : Hp) (x1 : Int32) (x2 : Int32) (x3 : Int32) (x4 : Int32) : Option Int32 := (M_isRest_l3 x1 x2 x3 x4 (0 : Int32) h)
set_option maxRecDepth 100000 in
set_option maxHeartbeats 4000000 in
theorem c_M_isRest {E : En} {d : Nat} (h : Hp) (x1 : Int32) (x2 : Int32) (x3 : Int32) (x4 : Int32) {P : Int32 → Prop} (hO : Okk (M_isRest h x1 x2 x3 x4) P) : Cn E (d + 5) z_M_isRest [.ref 251, .int x1, .int x2, .int x3, .int x4] h (RIp h P) := by
  refine cn_of (on := 12) (d := d + 4) ⟨rfl, by decide +kernel, Nat.le_of_ble_eq_true rfl⟩ (fun G hG => ?_)
  unfold M_isRest at hO
  show G 0 [(0, .ref 251), (1, .int x1), (2, .int x2), (3, .int x3), (4, .int x4)] [] h
  have j63 : Okk (M_isRest_j63 h) P → G 63 [] [] h := by
    intro hO
    unfold M_isRest_j63 at hO
    refine rb hG 4 63 64 [.ldc_w 0] [1] [] [] [.int (1 : Int32)] h [] (by decide +kernel) rfl trivial ?_
    exact eZ hG 64 (by decide +kernel) rfl (Or.inr rfl) ⟨(1 : Int32), rfl, rfl, ok_some (Q := P) hO⟩
  have j55 : Okk (M_isRest_j55 h) P → G 55 [] [] h := by
    intro hO
    unfold M_isRest_j55 at hO
    refine rb hG 4 55 56 [.ldc_w 0] [0] [] [] [.int (0 : Int32)] h [] (by decide +kernel) rfl trivial ?_
    exact eZ hG 56 (by decide +kernel) rfl (Or.inl rfl) ⟨(0 : Int32), rfl, rfl, ok_some (Q := P) hO⟩
  have l3 : ∀ (x5 : Int32), Okk (M_isRest_l3 x1 x2 x3 x4 x5 h) P → G 3 [(0, .ref 251), (1, .int x1), (2, .int x2), (3, .int x3), (4, .int x4), (5, .int x5)] [] h := by
    intro x5 hO
    obtain ⟨H3, eH3⟩ : ∃ q : (Int32) → Prop, q = fun s => G 3 [(0, .ref 251), (1, .int x1), (2, .int x2), (3, .int x3), (4, .int x4), (5, .int (s))] [] (h) := ⟨_, rfl⟩
    have w9 : H3 (x5) := by
      refine lp_wp (f := fun s : (Int32) => M_isRest_b3 x1 x2 x3 x4 s h) (H := H3) (Q := P) ?_ (x5) hO
      intro x5 hO
      rw [eH3]
      show G 3 [(0, .ref 251), (1, .int x1), (2, .int x2), (3, .int x3), (4, .int x4), (5, .int x5)] [] h
      have k3 : ∀ s : (Int32), H3 s → G 3 [(0, .ref 251), (1, .int x1), (2, .int x2), (3, .int x3), (4, .int x4), (5, .int (s))] [] (h) := fun s q => by rw [eH3] at q; exact q
      replace hO : Okk (M_isRest_b3 x1 x2 x3 x4 x5 h) (Sum.elim H3 P) := hO
      clear eH3
      unfold M_isRest_b3 at hO
      refine rb hG 6 3 9 [.iload 5, .aload 0, .getfield 1224] [] [] [(0, .ref 251), (1, .int x1), (2, .int x2), (3, .int x3), (4, .int x4), (5, .int x5)] [.int (h.1 251 24), .int x5] h [kd 251 = 12] (by decide +kernel) rfl kd_251 ?_
      refine rj hG .ge (54) 63 9 (by decide +kernel) (by decide) (fun c1 => ?_) (fun c1 => ?_)
      · have hO := ok_pos c1 hO
        refine rs hG [] [] rfl ?_
        exact j63 (ok_inr hO)
      · have hO := ok_neg c1 hO
        refine rb hG 8 12 19 [.aload 0, .iload 1, .iload 2, .iload 5, .iload 4] [] [] [(0, .ref 251), (1, .int x1), (2, .int x2), (3, .int x3), (4, .int x4), (5, .int x5)] [.int x4, .int x5, .int x2, .int x1, .ref 251] h [] (by decide +kernel) rfl trivial ?_
        refine rv hG z_M_gainOf 484 4 19 251 [.int x1, .int x2, .int x5, .int x4] [] (by decide +kernel) mk_M_gainOf lk_12_484 rcv_251 rfl ⟨rfl, Nat.le_of_ble_eq_true rfl⟩ (c_M_gainOf (d := d) h x1 x2 x5 x4 (ok_bind hO)) ?_
        rintro _ _ ⟨r2, rfl, rfl, hO⟩
        refine rb hG 8 22 28 [.aload 0, .iload 1, .iload 2, .iload 3, .iload 4] [] [] [(0, .ref 251), (1, .int x1), (2, .int x2), (3, .int x3), (4, .int x4), (5, .int x5)] [.int x4, .int x3, .int x2, .int x1, .ref 251, .int r2] h [] (by decide +kernel) rfl trivial ?_
        refine rv hG z_M_gainOf 484 4 28 251 [.int x1, .int x2, .int x3, .int x4] [.int r2] (by decide +kernel) mk_M_gainOf lk_12_484 rcv_251 rfl ⟨rfl, Nat.le_of_ble_eq_true rfl⟩ (c_M_gainOf (d := d) h x1 x2 x3 x4 (ok_bind hO)) ?_
        rintro _ _ ⟨r3, rfl, rfl, hO⟩
        refine rj hG .gt (24) 55 31 (by decide +kernel) (by decide) (fun c4 => ?_) (fun c4 => ?_)
        · have hO := ok_pos c4 hO
          refine rs hG [] [] rfl ?_
          exact j55 (ok_inr hO)
        · have hO := ok_neg c4 hO
          refine rb hG 8 34 40 [.aload 0, .iload 2, .iload 1, .iload 5, .iload 3] [] [] [(0, .ref 251), (1, .int x1), (2, .int x2), (3, .int x3), (4, .int x4), (5, .int x5)] [.int x3, .int x5, .int x1, .int x2, .ref 251] h [] (by decide +kernel) rfl trivial ?_
          refine rv hG z_M_gainOf 484 4 40 251 [.int x2, .int x1, .int x5, .int x3] [] (by decide +kernel) mk_M_gainOf lk_12_484 rcv_251 rfl ⟨rfl, Nat.le_of_ble_eq_true rfl⟩ (c_M_gainOf (d := d) h x2 x1 x5 x3 (ok_bind hO)) ?_
          rintro _ _ ⟨r5, rfl, rfl, hO⟩
          refine rb hG 8 43 49 [.aload 0, .iload 2, .iload 1, .iload 4, .iload 3] [] [] [(0, .ref 251), (1, .int x1), (2, .int x2), (3, .int x3), (4, .int x4), (5, .int x5)] [.int x3, .int x4, .int x1, .int x2, .ref 251, .int r5] h [] (by decide +kernel) rfl trivial ?_
          refine rv hG z_M_gainOf 484 4 49 251 [.int x2, .int x1, .int x4, .int x3] [.int r5] (by decide +kernel) mk_M_gainOf lk_12_484 rcv_251 rfl ⟨rfl, Nat.le_of_ble_eq_true rfl⟩ (c_M_gainOf (d := d) h x2 x1 x4 x3 (ok_bind hO)) ?_
          rintro _ _ ⟨r6, rfl, rfl, hO⟩
          refine rj hG .le (5) 57 52 (by decide +kernel) (by decide) (fun c7 => ?_) (fun c7 => ?_)
          · have hO := ok_pos c7 hO
            refine rbx hG 4 57 60 [.iinc 5 0] [1] [] ((x5 + (1 : Int32))) (fun y8 => [(5, .int y8), (0, .ref 251), (1, .int x1), (2, .int x2), (3, .int x3), (4, .int x4)]) (fun y8 => []) (fun y8 => h) [] (by decide +kernel) rfl trivial hO (fun y8 hO => ?_)
            refine rb hG 4 60 3 [] [] [] [(5, .int y8), (0, .ref 251), (1, .int x1), (2, .int x2), (3, .int x3), (4, .int x4)] [] h [] (by decide +kernel) rfl trivial ?_
            refine rs hG [(0, .ref 251), (1, .int x1), (2, .int x2), (3, .int x3), (4, .int x4), (5, .int y8)] [1, 2, 3, 4, 5, 0] rfl ?_
            exact k3 y8 (ok_some (Q := (Sum.elim H3 P)) hO)
          · have hO := ok_neg c7 hO
            refine rs hG [] [] rfl ?_
            exact j55 (ok_inr hO)
    rw [eH3] at w9
    exact w9
  refine rb hG 5 0 3 [.ldc_w 0, .istore 5] [0] [] [(5, .int (0 : Int32)), (0, .ref 251), (1, .int x1), (2, .int x2), (3, .int x3), (4, .int x4)] [] h [] (by decide +kernel) rfl trivial ?_
  refine rs hG [(0, .ref 251), (1, .int x1), (2, .int x2), (3, .int x3), (4, .int x4), (5, .int (0 : Int32))] [1, 2, 3, 4, 5, 0] rfl ?_
  exact l3 (0 : Int32) hO
/-! GrainInnModel.rest(IIIIII)I -/
noncomputable def M_rest_j40 (h : Hp) : Option (Int32 × Hp) := some ((-1 : Int32), h)
noncomputable def M_rest_j118 (s0 : Int32) (h : Hp) : Option (Int32 × Hp) := some (s0, h)
noncomputable def M_rest_j106 (x6 : Int32) (x7 : Int32) (h : Hp) : Option (Int32 × Hp) := if x6 = (-1 : Int32) then ((M_rest_j118 x7 h)) else ((M_rest_j118 (-1 : Int32) h))
noncomputable def M_rest_j100 (x4 : Int32) (x5 : Int32) (x6 : Int32) (x7 : Int32) (x8 : Int32) (h : Hp) : Option ((Int32 × Int32) ⊕ (Int32 × Hp)) := bnd ((x8 + (1 : Int32))) fun y2 => some (.inl (x7, y2))
noncomputable def M_rest_j94 (x8 : Int32) (h : Hp) : Option (Int32 × Hp) := some (x8, h)
noncomputable def M_rest_b48 (x4 : Int32) (x5 : Int32) (x6 : Int32) (x7 : Int32) (x8 : Int32) (h : Hp) : Option ((Int32 × Int32) ⊕ (Int32 × Hp)) := if ((h.1 251 24) * (h.1 251 24)) ≤ x8 then (((M_rest_j106 x6 x7 h).map Sum.inr)) else (if ¬ (h.1 251 24) = 0 then (if ¬ (h.1 251 24) = 0 then ((M_isRest h x4 x5 (x8 / (h.1 251 24)) (rm x8 (h.1 251 24))).bind fun r6 => if r6 = 0 then ((M_rest_j100 x4 x5 x6 x7 x8 h)) else (if x7 = x6 then (((M_rest_j94 x8 h).map Sum.inr)) else (bnd ((x7 + (1 : Int32))) fun y9 => (M_rest_j100 x4 x5 x6 y9 x8 h)))) else none) else none)
noncomputable def M_rest_l48 (x4 : Int32) (x5 : Int32) (x6 : Int32) (x7 : Int32) (x8 : Int32) (h : Hp) : Option (Int32 × Hp) := lp (fun s : (Int32 × Int32) => M_rest_b48 x4 x5 x6 s.1 s.2 h) (x7, x8)
theorem M_rest_l48_eq (x4 : Int32) (x5 : Int32) (x6 : Int32) (x7 : Int32) (x8 : Int32) (h : Hp) : M_rest_l48 x4 x5 x6 x7 x8 h = (M_rest_b48 x4 x5 x6 x7 x8 h).bind (Sum.elim (fun q : (Int32 × Int32) => M_rest_l48 x4 x5 x6 q.1 q.2 h) some) := lp_eq _ _
noncomputable def M_rest (h : Hp) (x1 : Int32) (x2 : Int32) (x3 : Int32) (x4 : Int32) (x5 : Int32) (x6 : Int32) : Option (Int32 × Hp) := bnd (wr h 251 0 (0 : Int32)) fun h10 => (M_layState h10 x1 x2 x3).bind fun (r11, h12) => if r11 = 0 then ((M_rest_j40 h12)) else ((M_isGuest h12 x4).bind fun r14 => if r14 = 0 then ((M_rest_j40 h12)) else ((M_isGuest h12 x5).bind fun r16 => if r16 = 0 then ((M_rest_j40 h12)) else (if x4 = x5 then ((M_rest_j40 h12)) else ((M_rest_l48 x4 x5 x6 (0 : Int32) (0 : Int32) h12)))))
set_option maxRecDepth 100000 in
set_option maxHeartbeats 4000000 in
theorem c_M_rest {E : En} {d : Nat} (h : Hp) (x1 : Int32) (x2 : Int32) (x3 : Int32) (x4 : Int32) (x5 : Int32) (x6 : Int32) {P : (Int32 × Hp) → Prop} (hO : Okk (M_rest h x1 x2 x3 x4 x5 x6) P) : Cn E (d + 9) z_M_rest [.ref 251, .int x1, .int x2, .int x3, .int x4, .int x5, .int x6] h (RI P) := by
  refine cn_of (on := 12) (d := d + 8) ⟨rfl, by decide +kernel, Nat.le_of_ble_eq_true rfl⟩ (fun G hG => ?_)
  unfold M_rest at hO
  show G 0 [(0, .ref 251), (1, .int x1), (2, .int x2), (3, .int x3), (4, .int x4), (5, .int x5), (6, .int x6)] [] h
  have j40 : ∀ (h : Hp), Okk (M_rest_j40 h) P → G 40 [] [] h := by
    intro h hO
    unfold M_rest_j40 at hO
    refine rb hG 4 40 41 [.ldc_w 0] [-1] [] [] [.int (-1 : Int32)] h [] (by decide +kernel) rfl trivial ?_
    exact eI hG 41 (by decide +kernel) rfl ⟨(-1 : Int32), rfl, ok_some (Q := P) hO⟩
  have j118 : ∀ (s0 : Int32) (h : Hp), Okk (M_rest_j118 s0 h) P → G 118 [] [.int s0] h := by
    intro s0 h hO
    unfold M_rest_j118 at hO
    exact eI hG 118 (by decide +kernel) rfl ⟨s0, rfl, ok_some (Q := P) hO⟩
  have j106 : ∀ (x7 : Int32) (h : Hp), Okk (M_rest_j106 x6 x7 h) P → G 106 [(6, .int x6), (7, .int x7)] [] h := by
    intro x7 h hO
    unfold M_rest_j106 at hO
    refine rb hG 5 106 109 [.iload 6, .ldc_w 0] [-1] [] [(6, .int x6), (7, .int x7)] [.int (-1 : Int32), .int x6] h [] (by decide +kernel) rfl trivial ?_
    refine rjN hG (8) 117 109 (by decide +kernel) (by decide) (fun c1 => ?_) (fun c1 => ?_)
    · have hO := ok_pos c1 hO
      refine rb hG 5 112 118 [.iload 7] [] [] [(6, .int x6), (7, .int x7)] [.int x7] h [] (by decide +kernel) rfl trivial ?_
      refine rs hG [] [] rfl ?_
      exact j118 x7 h hO
    · have hO := ok_neg c1 hO
      refine rb hG 4 117 118 [.ldc_w 0] [-1] [] [(6, .int x6), (7, .int x7)] [.int (-1 : Int32)] h [] (by decide +kernel) rfl trivial ?_
      refine rs hG [] [] rfl ?_
      exact j118 (-1 : Int32) h hO
  have j94 : ∀ (x8 : Int32) (h : Hp), Okk (M_rest_j94 x8 h) P → G 94 [(8, .int x8)] [] h := by
    intro x8 h hO
    unfold M_rest_j94 at hO
    refine rb hG 4 94 96 [.iload 8] [] [] [(8, .int x8)] [.int x8] h [] (by decide +kernel) rfl trivial ?_
    exact eI hG 96 (by decide +kernel) rfl ⟨x8, rfl, ok_some (Q := P) hO⟩
  have l48 : ∀ (x7 : Int32) (x8 : Int32) (h : Hp), Okk (M_rest_l48 x4 x5 x6 x7 x8 h) P → G 48 [(0, .ref 251), (4, .int x4), (5, .int x5), (6, .int x6), (7, .int x7), (8, .int x8)] [] h := by
    intro x7 x8 h hO
    obtain ⟨H48, eH48⟩ : ∃ q : (Int32 × Int32) → Prop, q = fun s => G 48 [(0, .ref 251), (4, .int x4), (5, .int x5), (6, .int x6), (7, .int (s.1)), (8, .int (s.2))] [] (h) := ⟨_, rfl⟩
    have w9 : H48 (x7, x8) := by
      refine lp_wp (f := fun s : (Int32 × Int32) => M_rest_b48 x4 x5 x6 s.1 s.2 h) (H := H48) (Q := P) ?_ (x7, x8) hO
      rintro ⟨x7, x8⟩ hO
      rw [eH48]
      show G 48 [(0, .ref 251), (4, .int x4), (5, .int x5), (6, .int x6), (7, .int x7), (8, .int x8)] [] h
      have k48 : ∀ s : (Int32 × Int32), H48 s → G 48 [(0, .ref 251), (4, .int x4), (5, .int x5), (6, .int x6), (7, .int (s.1)), (8, .int (s.2))] [] (h) := fun s q => by rw [eH48] at q; exact q
      replace hO : Okk (M_rest_b48 x4 x5 x6 x7 x8 h) (Sum.elim H48 P) := hO
      clear eH48
      have j100 : ∀ (x7 : Int32) (x8 : Int32), Okk (M_rest_j100 x4 x5 x6 x7 x8 h) (Sum.elim H48 P) → G 100 [(0, .ref 251), (4, .int x4), (5, .int x5), (6, .int x6), (7, .int x7), (8, .int x8)] [] h := by
        intro x7 x8 hO
        unfold M_rest_j100 at hO
        refine rbx hG 4 100 103 [.iinc 8 0] [1] [] ((x8 + (1 : Int32))) (fun y2 => [(8, .int y2), (0, .ref 251), (4, .int x4), (5, .int x5), (6, .int x6), (7, .int x7)]) (fun y2 => []) (fun y2 => h) [] (by decide +kernel) rfl trivial hO (fun y2 hO => ?_)
        refine rb hG 4 103 48 [] [] [] [(8, .int y2), (0, .ref 251), (4, .int x4), (5, .int x5), (6, .int x6), (7, .int x7)] [] h [] (by decide +kernel) rfl trivial ?_
        refine rs hG [(0, .ref 251), (4, .int x4), (5, .int x5), (6, .int x6), (7, .int x7), (8, .int y2)] [1, 2, 3, 4, 5, 0] rfl ?_
        exact k48 (x7, y2) (ok_some (Q := (Sum.elim H48 P)) hO)
      unfold M_rest_b48 at hO
      refine rb hG 9 48 59 [.iload 8, .aload 0, .getfield 1224, .aload 0, .getfield 1224, .imul] [] [] [(0, .ref 251), (4, .int x4), (5, .int x5), (6, .int x6), (7, .int x7), (8, .int x8)] [.int ((h.1 251 24) * (h.1 251 24)), .int x8] h [kd 251 = 12, kd 251 = 12] (by decide +kernel) rfl ⟨kd_251, kd_251⟩ ?_
      refine rj hG .ge (47) 106 59 (by decide +kernel) (by decide) (fun c3 => ?_) (fun c3 => ?_)
      · have hO := ok_pos c3 hO
        refine rs hG [(6, .int x6), (7, .int x7)] [3, 4] rfl ?_
        exact j106 x7 h (ok_inr hO)
      · have hO := ok_neg c3 hO
        obtain ⟨g4, hO⟩ := ok_if hO
        obtain ⟨g5, hO⟩ := ok_if hO
        refine rb hG 14 62 81 [.aload 0, .iload 4, .iload 5, .iload 8, .aload 0, .getfield 1224, .idiv, .iload 8, .aload 0, .getfield 1224, .irem] [] [] [(0, .ref 251), (4, .int x4), (5, .int x5), (6, .int x6), (7, .int x7), (8, .int x8)] [.int (rm x8 (h.1 251 24)), .int (x8 / (h.1 251 24)), .int x5, .int x4, .ref 251] h [kd 251 = 12, ¬ (h.1 251 24) = 0, kd 251 = 12, ¬ (h.1 251 24) = 0] (by decide +kernel) rfl ⟨kd_251, g4, kd_251, g5⟩ ?_
        refine rv hG z_M_isRest 488 4 81 251 [.int x4, .int x5, .int (x8 / (h.1 251 24)), .int (rm x8 (h.1 251 24))] [] (by decide +kernel) mk_M_isRest lk_12_488 rcv_251 rfl ⟨rfl, Nat.le_of_ble_eq_true rfl⟩ (c_M_isRest (d := d + 3) h x4 x5 (x8 / (h.1 251 24)) (rm x8 (h.1 251 24)) (ok_bind hO)) ?_
        rintro _ _ ⟨r6, rfl, rfl, hO⟩
        refine ri hG .eq (16) 100 84 (by decide +kernel) (by decide) (fun c7 => ?_) (fun c7 => ?_)
        · have hO := ok_pos c7 hO
          exact j100 x7 x8 hO
        · have hO := ok_neg c7 hO
          refine rb hG 5 87 91 [.iload 7, .iload 6] [] [] [(0, .ref 251), (4, .int x4), (5, .int x5), (6, .int x6), (7, .int x7), (8, .int x8)] [.int x6, .int x7] h [] (by decide +kernel) rfl trivial ?_
          refine rjN hG (6) 97 91 (by decide +kernel) (by decide) (fun c8 => ?_) (fun c8 => ?_)
          · have hO := ok_pos c8 hO
            refine rs hG [(8, .int x8)] [5] rfl ?_
            exact j94 x8 h (ok_inr hO)
          · have hO := ok_neg c8 hO
            refine rbx hG 4 97 100 [.iinc 7 0] [1] [] ((x7 + (1 : Int32))) (fun y9 => [(7, .int y9), (0, .ref 251), (4, .int x4), (5, .int x5), (6, .int x6), (8, .int x8)]) (fun y9 => []) (fun y9 => h) [] (by decide +kernel) rfl trivial hO (fun y9 hO => ?_)
            refine rs hG [(0, .ref 251), (4, .int x4), (5, .int x5), (6, .int x6), (7, .int y9), (8, .int x8)] [1, 2, 3, 4, 0, 5] rfl ?_
            exact j100 y9 x8 hO
    rw [eH48] at w9
    exact w9
  refine rbx hG 6 0 5 [.aload 0, .ldc_w 0, .putfield 1200] [0] [] (wr h 251 0 (0 : Int32)) (fun h10 => [(0, .ref 251), (1, .int x1), (2, .int x2), (3, .int x3), (4, .int x4), (5, .int x5), (6, .int x6)]) (fun h10 => []) (fun h10 => h10) [kd 251 = 12] (by decide +kernel) rfl kd_251 hO (fun h10 hO => ?_)
  refine rb hG 7 5 9 [.aload 0, .iload 1, .iload 2, .iload 3] [] [] [(0, .ref 251), (1, .int x1), (2, .int x2), (3, .int x3), (4, .int x4), (5, .int x5), (6, .int x6)] [.int x3, .int x2, .int x1, .ref 251] h10 [] (by decide +kernel) rfl trivial ?_
  refine rv hG z_M_layState 380 3 9 251 [.int x1, .int x2, .int x3] [] (by decide +kernel) mk_M_layState lk_12_380 rcv_251 rfl ⟨rfl, Nat.le_of_ble_eq_true rfl⟩ (c_M_layState (d := d) h10 x1 x2 x3 (ok_bind hO)) ?_
  rintro _ h12 ⟨r11, rfl, hO⟩
  refine ri hG .eq (28) 40 12 (by decide +kernel) (by decide) (fun c13 => ?_) (fun c13 => ?_)
  · have hO := ok_pos c13 hO
    refine rs hG [] [] rfl ?_
    exact j40 h12 hO
  · have hO := ok_neg c13 hO
    refine rb hG 5 15 18 [.aload 0, .iload 4] [] [] [(0, .ref 251), (1, .int x1), (2, .int x2), (3, .int x3), (4, .int x4), (5, .int x5), (6, .int x6)] [.int x4, .ref 251] h12 [] (by decide +kernel) rfl trivial ?_
    refine rv hG z_M_isGuest 332 1 18 251 [.int x4] [] (by decide +kernel) mk_M_isGuest lk_12_332 rcv_251 rfl ⟨rfl, Nat.le_of_ble_eq_true rfl⟩ (c_M_isGuest (d := d + 6) h12 x4 (ok_bind hO)) ?_
    rintro _ _ ⟨r14, rfl, rfl, hO⟩
    refine ri hG .eq (19) 40 21 (by decide +kernel) (by decide) (fun c15 => ?_) (fun c15 => ?_)
    · have hO := ok_pos c15 hO
      refine rs hG [] [] rfl ?_
      exact j40 h12 hO
    · have hO := ok_neg c15 hO
      refine rb hG 5 24 27 [.aload 0, .iload 5] [] [] [(0, .ref 251), (1, .int x1), (2, .int x2), (3, .int x3), (4, .int x4), (5, .int x5), (6, .int x6)] [.int x5, .ref 251] h12 [] (by decide +kernel) rfl trivial ?_
      refine rv hG z_M_isGuest 332 1 27 251 [.int x5] [] (by decide +kernel) mk_M_isGuest lk_12_332 rcv_251 rfl ⟨rfl, Nat.le_of_ble_eq_true rfl⟩ (c_M_isGuest (d := d + 6) h12 x5 (ok_bind hO)) ?_
      rintro _ _ ⟨r16, rfl, rfl, hO⟩
      refine ri hG .eq (10) 40 30 (by decide +kernel) (by decide) (fun c17 => ?_) (fun c17 => ?_)
      · have hO := ok_pos c17 hO
        refine rs hG [] [] rfl ?_
        exact j40 h12 hO
      · have hO := ok_neg c17 hO
        refine rb hG 5 33 37 [.iload 4, .iload 5] [] [] [(0, .ref 251), (1, .int x1), (2, .int x2), (3, .int x3), (4, .int x4), (5, .int x5), (6, .int x6)] [.int x5, .int x4] h12 [] (by decide +kernel) rfl trivial ?_
        refine rjN hG (5) 42 37 (by decide +kernel) (by decide) (fun c18 => ?_) (fun c18 => ?_)
        · have hO := ok_pos c18 hO
          refine rs hG [] [] rfl ?_
          exact j40 h12 hO
        · have hO := ok_neg c18 hO
          refine rb hG 7 42 48 [.ldc_w 0, .istore 7, .ldc_w 0, .istore 8] [0] [] [(8, .int (0 : Int32)), (7, .int (0 : Int32)), (0, .ref 251), (1, .int x1), (2, .int x2), (3, .int x3), (4, .int x4), (5, .int x5), (6, .int x6)] [] h12 [] (by decide +kernel) rfl trivial ?_
          refine rs hG [(0, .ref 251), (4, .int x4), (5, .int x5), (6, .int x6), (7, .int (0 : Int32)), (8, .int (0 : Int32))] [2, 6, 7, 8, 1, 0] rfl ?_
          exact l48 (0 : Int32) (0 : Int32) h12 hO
/-! GrainInn.whisper(IIIIZ)I -/
noncomputable def K_whisper_j25 (h : Hp) : Option (Int32 × Hp) := some ((-1 : Int32), h)
noncomputable def K_whisper_j122 (s0 : Int32) (h : Hp) : Option (Int32 × Hp) := some (s0, h)
noncomputable def K_whisper_j110 (x5 : Int32) (x7 : Int32) (x8 : Int32) (h : Hp) : Option (Int32 × Hp) := if x5 = 0 then ((K_whisper_j122 x7 h)) else ((K_whisper_j122 x8 h))
noncomputable def K_whisper_j104 (x4 : Int32) (x5 : Int32) (x6 : Nat) (x7 : Int32) (x8 : Int32) (x9 : Int32) (h : Hp) : Option ((Int32 × Int32 × Int32 × Hp) ⊕ (Int32 × Hp)) := bnd ((x9 + (1 : Int32))) fun y2 => some (.inl (x7, x8, y2, h))
noncomputable def K_whisper_j91 (x4 : Int32) (x5 : Int32) (x6 : Nat) (x9 : Int32) (h : Hp) : Option ((Int32 × Int32 × Int32 × Hp) ⊕ (Int32 × Hp)) := bnd ((h.1 90 5)) fun y3 => (K_whisper_j104 x4 x5 x6 y3 x9 x9 h)
noncomputable def K_whisper_b36 (x4 : Int32) (x5 : Int32) (x6 : Nat) (x7 : Int32) (x8 : Int32) (x9 : Int32) (h : Hp) : Option ((Int32 × Int32 × Int32 × Hp) ⊕ (Int32 × Hp)) := if x6 = 57 then (if kd (Int32.toNatClampNeg (h.1 57 6)) = 1 then (if (h.1 (Int32.toNatClampNeg (h.1 57 6)) 5) ≤ x9 then (((K_whisper_j110 x5 x7 x8 h).map Sum.inr)) else ((N_awaitWord h 57 x9 x4).bind fun h7 => if (h7.1 90 5) = (-1 : Int32) then ((K_whisper_j104 x4 x5 57 x7 x8 x9 h7)) else (if x7 = (-1 : Int32) then ((K_whisper_j91 x4 x5 57 x9 h7)) else (if x7 ≤ (h7.1 90 5) then ((K_whisper_j104 x4 x5 57 x7 x8 x9 h7)) else ((K_whisper_j91 x4 x5 57 x9 h7)))))) else none) else none
noncomputable def K_whisper_l36 (x4 : Int32) (x5 : Int32) (x6 : Nat) (x7 : Int32) (x8 : Int32) (x9 : Int32) (h : Hp) : Option (Int32 × Hp) := lp (fun s : (Int32 × Int32 × Int32 × Hp) => K_whisper_b36 x4 x5 x6 s.1 s.2.1 s.2.2.1 s.2.2.2) (x7, x8, x9, h)
theorem K_whisper_l36_eq (x4 : Int32) (x5 : Int32) (x6 : Nat) (x7 : Int32) (x8 : Int32) (x9 : Int32) (h : Hp) : K_whisper_l36 x4 x5 x6 x7 x8 x9 h = (K_whisper_b36 x4 x5 x6 x7 x8 x9 h).bind (Sum.elim (fun q : (Int32 × Int32 × Int32 × Hp) => K_whisper_l36 x4 x5 x6 q.1 q.2.1 q.2.2.1 q.2.2.2) some) := lp_eq _ _
noncomputable def K_whisper (h : Hp) (x1 : Int32) (x2 : Int32) (x3 : Int32) (x4 : Int32) (x5 : Int32) : Option (Int32 × Hp) := (K_reach h x1 x2 x3).bind fun (r11, h12) => if r11 = 0 then ((K_whisper_j25 h12)) else ((K_isOf x4 (0 : Int32) (10 : Int32)).bind fun r14 => if r14 = 0 then ((K_whisper_j25 h12)) else ((K_whisper_l36 x4 x5 r11 (-1 : Int32) (-1 : Int32) (0 : Int32) h12)))
set_option maxRecDepth 100000 in
set_option maxHeartbeats 4000000 in
theorem c_K_whisper {E : En} {d : Nat} (h : Hp) (x1 : Int32) (x2 : Int32) (x3 : Int32) (x4 : Int32) (x5 : Int32) {P : (Int32 × Hp) → Prop} (hO : Okk (K_whisper h x1 x2 x3 x4 x5) P) : Cn E (d + 8) z_K_whisper [.ref 1, .int x1, .int x2, .int x3, .int x4, .int x5] h (RI P) := by
  refine cn_of (on := 11) (d := d + 7) ⟨rfl, by decide +kernel, Nat.le_of_ble_eq_true rfl⟩ (fun G hG => ?_)
  unfold K_whisper at hO
  show G 0 [(0, .ref 1), (1, .int x1), (2, .int x2), (3, .int x3), (4, .int x4), (5, .int x5)] [] h
  have j25 : ∀ (h : Hp), Okk (K_whisper_j25 h) P → G 25 [] [] h := by
    intro h hO
    unfold K_whisper_j25 at hO
    refine rb hG 4 25 26 [.ldc_w 0] [-1] [] [] [.int (-1 : Int32)] h [] (by decide +kernel) rfl trivial ?_
    exact eI hG 26 (by decide +kernel) rfl ⟨(-1 : Int32), rfl, ok_some (Q := P) hO⟩
  have j122 : ∀ (s0 : Int32) (h : Hp), Okk (K_whisper_j122 s0 h) P → G 122 [] [.int s0] h := by
    intro s0 h hO
    unfold K_whisper_j122 at hO
    exact eI hG 122 (by decide +kernel) rfl ⟨s0, rfl, ok_some (Q := P) hO⟩
  have j110 : ∀ (x7 : Int32) (x8 : Int32) (h : Hp), Okk (K_whisper_j110 x5 x7 x8 h) P → G 110 [(5, .int x5), (7, .int x7), (8, .int x8)] [] h := by
    intro x7 x8 h hO
    unfold K_whisper_j110 at hO
    refine rb hG 4 110 112 [.iload 5] [] [] [(5, .int x5), (7, .int x7), (8, .int x8)] [.int x5] h [] (by decide +kernel) rfl trivial ?_
    refine ri hG .eq (8) 120 112 (by decide +kernel) (by decide) (fun c1 => ?_) (fun c1 => ?_)
    · have hO := ok_pos c1 hO
      refine rb hG 4 120 122 [.iload 7] [] [] [(5, .int x5), (7, .int x7), (8, .int x8)] [.int x7] h [] (by decide +kernel) rfl trivial ?_
      refine rs hG [] [] rfl ?_
      exact j122 x7 h hO
    · have hO := ok_neg c1 hO
      refine rb hG 5 115 122 [.iload 8] [] [] [(5, .int x5), (7, .int x7), (8, .int x8)] [.int x8] h [] (by decide +kernel) rfl trivial ?_
      refine rs hG [] [] rfl ?_
      exact j122 x8 h hO
  have l36 : ∀ (x6 : Nat) (x7 : Int32) (x8 : Int32) (x9 : Int32) (h : Hp), Okk (K_whisper_l36 x4 x5 x6 x7 x8 x9 h) P → G 36 [(0, .ref 1), (4, .int x4), (5, .int x5), (6, .ref x6), (7, .int x7), (8, .int x8), (9, .int x9)] [] h := by
    intro x6 x7 x8 x9 h hO
    obtain ⟨H36, eH36⟩ : ∃ q : (Int32 × Int32 × Int32 × Hp) → Prop, q = fun s => G 36 [(0, .ref 1), (4, .int x4), (5, .int x5), (6, .ref x6), (7, .int (s.1)), (8, .int (s.2.1)), (9, .int (s.2.2.1))] [] (s.2.2.2) := ⟨_, rfl⟩
    have w9 : H36 (x7, x8, x9, h) := by
      refine lp_wp (f := fun s : (Int32 × Int32 × Int32 × Hp) => K_whisper_b36 x4 x5 x6 s.1 s.2.1 s.2.2.1 s.2.2.2) (H := H36) (Q := P) ?_ (x7, x8, x9, h) hO
      rintro ⟨x7, x8, x9, h⟩ hO
      rw [eH36]
      show G 36 [(0, .ref 1), (4, .int x4), (5, .int x5), (6, .ref x6), (7, .int x7), (8, .int x8), (9, .int x9)] [] h
      have k36 : ∀ s : (Int32 × Int32 × Int32 × Hp), H36 s → G 36 [(0, .ref 1), (4, .int x4), (5, .int x5), (6, .ref x6), (7, .int (s.1)), (8, .int (s.2.1)), (9, .int (s.2.2.1))] [] (s.2.2.2) := fun s q => by rw [eH36] at q; exact q
      replace hO : Okk (K_whisper_b36 x4 x5 x6 x7 x8 x9 h) (Sum.elim H36 P) := hO
      clear eH36
      have j104 : ∀ (x7 : Int32) (x8 : Int32) (x9 : Int32) (h : Hp), Okk (K_whisper_j104 x4 x5 x6 x7 x8 x9 h) (Sum.elim H36 P) → G 104 [(0, .ref 1), (4, .int x4), (5, .int x5), (6, .ref x6), (7, .int x7), (8, .int x8), (9, .int x9)] [] h := by
        intro x7 x8 x9 h hO
        unfold K_whisper_j104 at hO
        refine rbx hG 4 104 107 [.iinc 9 0] [1] [] ((x9 + (1 : Int32))) (fun y2 => [(9, .int y2), (0, .ref 1), (4, .int x4), (5, .int x5), (6, .ref x6), (7, .int x7), (8, .int x8)]) (fun y2 => []) (fun y2 => h) [] (by decide +kernel) rfl trivial hO (fun y2 hO => ?_)
        refine rb hG 4 107 36 [] [] [] [(9, .int y2), (0, .ref 1), (4, .int x4), (5, .int x5), (6, .ref x6), (7, .int x7), (8, .int x8)] [] h [] (by decide +kernel) rfl trivial ?_
        refine rs hG [(0, .ref 1), (4, .int x4), (5, .int x5), (6, .ref x6), (7, .int x7), (8, .int x8), (9, .int y2)] [1, 2, 3, 4, 5, 6, 0] rfl ?_
        exact k36 (x7, x8, y2, h) (ok_some (Q := (Sum.elim H36 P)) hO)
      have j91 : ∀ (x9 : Int32) (h : Hp), Okk (K_whisper_j91 x4 x5 x6 x9 h) (Sum.elim H36 P) → G 91 [(0, .ref 1), (4, .int x4), (5, .int x5), (6, .ref x6), (9, .int x9)] [] h := by
        intro x9 h hO
        unfold K_whisper_j91 at hO
        refine rbx hG 7 91 100 [.aload 0, .invokeinterface 1105 89, .getfield 505, .istore 7] [] [] ((h.1 90 5)) (fun y3 => [(7, .int y3), (0, .ref 1), (4, .int x4), (5, .int x5), (6, .ref x6), (9, .int x9)]) (fun y3 => []) (fun y3 => h) [kd 1 = 11, kd 90 = 5] (by decide +kernel) rfl ⟨kd_1, kd_90⟩ hO (fun y3 hO => ?_)
        refine rb hG 5 100 104 [.iload 9, .istore 8] [] [] [(8, .int x9), (7, .int y3), (0, .ref 1), (4, .int x4), (5, .int x5), (6, .ref x6), (9, .int x9)] [] h [] (by decide +kernel) rfl trivial ?_
        refine rs hG [(0, .ref 1), (4, .int x4), (5, .int x5), (6, .ref x6), (7, .int y3), (8, .int x9), (9, .int x9)] [2, 3, 4, 5, 1, 0, 6] rfl ?_
        exact j104 y3 x9 x9 h hO
      unfold K_whisper_b36 at hO
      obtain ⟨g4, hOg4⟩ := ok_if hO
      subst g4
      have hO := hOg4
      obtain ⟨g5, hO⟩ := ok_if hO
      refine rb hG 7 36 46 [.iload 9, .aload 6, .instanceof 706, .getfield 105] [] [] [(0, .ref 1), (4, .int x4), (5, .int x5), (6, .ref 57), (7, .int x7), (8, .int x8), (9, .int x9)] [.int (h.1 (Int32.toNatClampNeg (h.1 57 6)) 5), .int x9] h [kd 57 = 7, kd (Int32.toNatClampNeg (h.1 57 6)) = 1] (by decide +kernel) rfl ⟨kd_57, g5⟩ ?_
      refine rj hG .ge (64) 110 46 (by decide +kernel) (by decide) (fun c6 => ?_) (fun c6 => ?_)
      · have hO := ok_pos c6 hO
        refine rs hG [(5, .int x5), (7, .int x7), (8, .int x8)] [2, 4, 5] rfl ?_
        exact j110 x7 x8 h (ok_inr hO)
      · have hO := ok_neg c6 hO
        refine rb hG 8 49 59 [.aload 0, .invokeinterface 1105 89, .aload 6, .iload 9, .iload 4] [] [] [(0, .ref 1), (4, .int x4), (5, .int x5), (6, .ref 57), (7, .int x7), (8, .int x8), (9, .int x9)] [.int x4, .int x9, .ref 57, .ref 90] h [kd 1 = 11] (by decide +kernel) rfl kd_1 ?_
        refine rv hG z_N_awaitWord 248 3 59 90 [.ref 57, .int x9, .int x4] [] (by decide +kernel) mk_N_awaitWord lk_11_248 rcv_90 rfl ⟨rfl, Nat.le_of_ble_eq_true rfl⟩ (c_N_awaitWord (d := d + 3) h 57 x9 x4 (ok_bind hO)) ?_
        rintro _ h7 ⟨rfl, hO⟩
        refine rb hG 7 62 70 [.aload 0, .invokeinterface 1105 89, .getfield 505, .ldc_w 0] [-1] [] [(0, .ref 1), (4, .int x4), (5, .int x5), (6, .ref 57), (7, .int x7), (8, .int x8), (9, .int x9)] [.int (-1 : Int32), .int (h7.1 90 5)] h7 [kd 1 = 11, kd 90 = 5] (by decide +kernel) rfl ⟨kd_1, kd_90⟩ ?_
        refine rj hG .eq (34) 104 70 (by decide +kernel) (by decide) (fun c8 => ?_) (fun c8 => ?_)
        · have hO := ok_pos c8 hO
          exact j104 x7 x8 x9 h7 hO
        · have hO := ok_neg c8 hO
          refine rb hG 5 73 76 [.iload 7, .ldc_w 0] [-1] [] [(0, .ref 1), (4, .int x4), (5, .int x5), (6, .ref 57), (7, .int x7), (8, .int x8), (9, .int x9)] [.int (-1 : Int32), .int x7] h7 [] (by decide +kernel) rfl trivial ?_
          refine rj hG .eq (15) 91 76 (by decide +kernel) (by decide) (fun c9 => ?_) (fun c9 => ?_)
          · have hO := ok_pos c9 hO
            refine rs hG [(0, .ref 1), (4, .int x4), (5, .int x5), (6, .ref 57), (9, .int x9)] [0, 1, 2, 3, 6] rfl ?_
            exact j91 x9 h7 hO
          · have hO := ok_neg c9 hO
            refine rb hG 7 79 88 [.aload 0, .invokeinterface 1105 89, .getfield 505, .iload 7] [] [] [(0, .ref 1), (4, .int x4), (5, .int x5), (6, .ref 57), (7, .int x7), (8, .int x8), (9, .int x9)] [.int x7, .int (h7.1 90 5)] h7 [kd 1 = 11, kd 90 = 5] (by decide +kernel) rfl ⟨kd_1, kd_90⟩ ?_
            refine rj hG .ge (16) 104 88 (by decide +kernel) (by decide) (fun c10 => ?_) (fun c10 => ?_)
            · have hO := ok_pos c10 hO
              exact j104 x7 x8 x9 h7 hO
            · have hO := ok_neg c10 hO
              refine rs hG [(0, .ref 1), (4, .int x4), (5, .int x5), (6, .ref 57), (9, .int x9)] [0, 1, 2, 3, 6] rfl ?_
              exact j91 x9 h7 hO
    rw [eH36] at w9
    exact w9
  refine rb hG 7 0 4 [.aload 0, .iload 1, .iload 2, .iload 3] [] [] [(0, .ref 1), (1, .int x1), (2, .int x2), (3, .int x3), (4, .int x4), (5, .int x5)] [.int x3, .int x2, .int x1, .ref 1] h [] (by decide +kernel) rfl trivial ?_
  refine rv hG z_K_reach 155 3 4 1 [.int x1, .int x2, .int x3] [] (by decide +kernel) mk_K_reach lk_11_155 rcv_1 rfl ⟨rfl, Nat.le_of_ble_eq_true rfl⟩ (c_K_reach (d := d) h x1 x2 x3 (ok_bind hO)) ?_
  rintro _ h12 ⟨r11, rfl, hO⟩
  refine rb hG 5 7 11 [.astore 6, .aload 6] [] [] [(6, .ref r11), (0, .ref 1), (1, .int x1), (2, .int x2), (3, .int x3), (4, .int x4), (5, .int x5)] [.ref r11] h12 [] (by decide +kernel) rfl trivial ?_
  refine rn hG (14) 25 11 (by decide +kernel) (by decide) (fun c13 => ?_) (fun c13 => ?_)
  · have hO := ok_pos c13 hO
    refine rs hG [] [] rfl ?_
    exact j25 h12 hO
  · have hO := ok_neg c13 hO
    refine rb hG 6 14 19 [.iload 4, .ldc_w 0, .ldc_w 1] [0, 10] [] [(6, .ref r11), (0, .ref 1), (1, .int x1), (2, .int x2), (3, .int x3), (4, .int x4), (5, .int x5)] [.int (10 : Int32), .int (0 : Int32), .int x4] h12 [] (by decide +kernel) rfl trivial ?_
    refine rt hG z_K_isOf 119 3 19 [.int x4, .int (0 : Int32), .int (10 : Int32)] [] (by decide +kernel) mk_K_isOf lk_11_119 rfl ⟨rfl, Nat.le_of_ble_eq_true rfl⟩ (c_K_isOf (d := d + 6) h12 x4 (0 : Int32) (10 : Int32) (ok_bind hO)) ?_
    rintro _ _ ⟨r14, rfl, rfl, hO⟩
    refine riN hG (5) 27 22 (by decide +kernel) (by decide) (fun c15 => ?_) (fun c15 => ?_)
    · have hO := ok_pos c15 hO
      refine rs hG [] [] rfl ?_
      exact j25 h12 hO
    · have hO := ok_neg c15 hO
      refine rb hG 9 27 36 [.ldc_w 0, .istore 7, .ldc_w 0, .istore 8, .ldc_w 1, .istore 9] [-1, 0] [] [(9, .int (0 : Int32)), (8, .int (-1 : Int32)), (7, .int (-1 : Int32)), (6, .ref r11), (0, .ref 1), (1, .int x1), (2, .int x2), (3, .int x3), (4, .int x4), (5, .int x5)] [] h12 [] (by decide +kernel) rfl trivial ?_
      refine rs hG [(0, .ref 1), (4, .int x4), (5, .int x5), (6, .ref r11), (7, .int (-1 : Int32)), (8, .int (-1 : Int32)), (9, .int (0 : Int32))] [4, 8, 9, 3, 2, 1, 0] rfl ?_
      exact l36 r11 (-1 : Int32) (-1 : Int32) (0 : Int32) h12 hO
/-! GrainInnModel.whisper(IIIIZ)I -/
noncomputable def M_whisper_j26 (h : Hp) : Option (Int32 × Hp) := some ((-1 : Int32), h)
noncomputable def M_whisper_j134 (s0 : Int32) (h : Hp) : Option (Int32 × Hp) := some (s0, h)
noncomputable def M_whisper_j127 (x6 : Int32) (h : Hp) : Option (Int32 × Hp) := (M_whisper_j134 x6 h)
noncomputable def M_whisper_j116 (x5 : Int32) (x6 : Int32) (x7 : Int32) (h : Hp) : Option (Int32 × Hp) := if x6 = (-1 : Int32) then ((M_whisper_j127 x6 h)) else (if x5 = 0 then ((M_whisper_j134 x7 h)) else ((M_whisper_j127 x6 h)))
noncomputable def M_whisper_j108 (x4 : Int32) (x5 : Int32) (x6 : Int32) (x8 : Int32) (s0 : Int32) (h : Hp) : Option ((Int32 × Int32 × Int32 × Hp) ⊕ (Int32 × Hp)) := bnd ((x8 + (1 : Int32))) fun y3 => some (.inl (x6, s0, y3, h))
noncomputable def M_whisper_j92 (x4 : Int32) (x5 : Int32) (x7 : Int32) (x8 : Int32) (x9 : Int32) (s0 : Int32) (h : Hp) : Option ((Int32 × Int32 × Int32 × Hp) ⊕ (Int32 × Hp)) := if x9 = 0 then ((M_whisper_j108 x4 x5 s0 x8 x7 h)) else ((M_whisper_j108 x4 x5 s0 x8 (h.1 251 46) h))
noncomputable def M_whisper_j78 (x4 : Int32) (x5 : Int32) (x6 : Int32) (x7 : Int32) (x8 : Int32) (s0 : Int32) (h : Hp) : Option ((Int32 × Int32 × Int32 × Hp) ⊕ (Int32 × Hp)) := if s0 = 0 then ((M_whisper_j92 x4 x5 x7 x8 s0 x6 h)) else ((M_whisper_j92 x4 x5 x7 x8 s0 x8 h))
noncomputable def M_whisper_j77 (x4 : Int32) (x5 : Int32) (x6 : Int32) (x7 : Int32) (x8 : Int32) (h : Hp) : Option ((Int32 × Int32 × Int32 × Hp) ⊕ (Int32 × Hp)) := (M_whisper_j78 x4 x5 x6 x7 x8 (0 : Int32) h)
noncomputable def M_whisper_b39 (x4 : Int32) (x5 : Int32) (x6 : Int32) (x7 : Int32) (x8 : Int32) (h : Hp) : Option ((Int32 × Int32 × Int32 × Hp) ⊕ (Int32 × Hp)) := if (h.1 251 24) ≤ x8 then (((M_whisper_j116 x5 x6 x7 h).map Sum.inr)) else ((M_findComes h x8 x4).bind fun h7 => if (h7.1 251 46) = (-1 : Int32) then ((M_whisper_j77 x4 x5 x6 x7 x8 h7)) else (if x7 ≤ (h7.1 251 46) then ((M_whisper_j77 x4 x5 x6 x7 x8 h7)) else ((M_whisper_j78 x4 x5 x6 x7 x8 (1 : Int32) h7))))
noncomputable def M_whisper_l39 (x4 : Int32) (x5 : Int32) (x6 : Int32) (x7 : Int32) (x8 : Int32) (h : Hp) : Option (Int32 × Hp) := lp (fun s : (Int32 × Int32 × Int32 × Hp) => M_whisper_b39 x4 x5 s.1 s.2.1 s.2.2.1 s.2.2.2) (x6, x7, x8, h)
theorem M_whisper_l39_eq (x4 : Int32) (x5 : Int32) (x6 : Int32) (x7 : Int32) (x8 : Int32) (h : Hp) : M_whisper_l39 x4 x5 x6 x7 x8 h = (M_whisper_b39 x4 x5 x6 x7 x8 h).bind (Sum.elim (fun q : (Int32 × Int32 × Int32 × Hp) => M_whisper_l39 x4 x5 q.1 q.2.1 q.2.2.1 q.2.2.2) some) := lp_eq _ _
noncomputable def M_whisper (h : Hp) (x1 : Int32) (x2 : Int32) (x3 : Int32) (x4 : Int32) (x5 : Int32) : Option (Int32 × Hp) := bnd (wr h 251 0 (0 : Int32)) fun h10 => (M_in x4 (0 : Int32) (9 : Int32)).bind fun r11 => if r11 = 0 then ((M_whisper_j26 h10)) else ((M_layState h10 x1 x2 x3).bind fun (r13, h14) => if r13 = 0 then ((M_whisper_j26 h14)) else ((M_whisper_l39 x4 x5 (-1 : Int32) (1000000 : Int32) (0 : Int32) h14)))
set_option maxRecDepth 100000 in
set_option maxHeartbeats 4000000 in
theorem c_M_whisper {E : En} {d : Nat} (h : Hp) (x1 : Int32) (x2 : Int32) (x3 : Int32) (x4 : Int32) (x5 : Int32) {P : (Int32 × Hp) → Prop} (hO : Okk (M_whisper h x1 x2 x3 x4 x5) P) : Cn E (d + 9) z_M_whisper [.ref 251, .int x1, .int x2, .int x3, .int x4, .int x5] h (RI P) := by
  refine cn_of (on := 12) (d := d + 8) ⟨rfl, by decide +kernel, Nat.le_of_ble_eq_true rfl⟩ (fun G hG => ?_)
  unfold M_whisper at hO
  show G 0 [(0, .ref 251), (1, .int x1), (2, .int x2), (3, .int x3), (4, .int x4), (5, .int x5)] [] h
  have j26 : ∀ (h : Hp), Okk (M_whisper_j26 h) P → G 26 [] [] h := by
    intro h hO
    unfold M_whisper_j26 at hO
    refine rb hG 4 26 27 [.ldc_w 0] [-1] [] [] [.int (-1 : Int32)] h [] (by decide +kernel) rfl trivial ?_
    exact eI hG 27 (by decide +kernel) rfl ⟨(-1 : Int32), rfl, ok_some (Q := P) hO⟩
  have j134 : ∀ (s0 : Int32) (h : Hp), Okk (M_whisper_j134 s0 h) P → G 134 [] [.int s0] h := by
    intro s0 h hO
    unfold M_whisper_j134 at hO
    exact eI hG 134 (by decide +kernel) rfl ⟨s0, rfl, ok_some (Q := P) hO⟩
  have j127 : ∀ (x6 : Int32) (h : Hp), Okk (M_whisper_j127 x6 h) P → G 127 [(6, .int x6)] [] h := by
    intro x6 h hO
    unfold M_whisper_j127 at hO
    refine rb hG 5 127 134 [.iload 6] [] [] [(6, .int x6)] [.int x6] h [] (by decide +kernel) rfl trivial ?_
    refine rs hG [] [] rfl ?_
    exact j134 x6 h hO
  have j116 : ∀ (x6 : Int32) (x7 : Int32) (h : Hp), Okk (M_whisper_j116 x5 x6 x7 h) P → G 116 [(5, .int x5), (6, .int x6), (7, .int x7)] [] h := by
    intro x6 x7 h hO
    unfold M_whisper_j116 at hO
    refine rb hG 5 116 119 [.iload 6, .ldc_w 0] [-1] [] [(5, .int x5), (6, .int x6), (7, .int x7)] [.int (-1 : Int32), .int x6] h [] (by decide +kernel) rfl trivial ?_
    refine rj hG .eq (8) 127 119 (by decide +kernel) (by decide) (fun c1 => ?_) (fun c1 => ?_)
    · have hO := ok_pos c1 hO
      refine rs hG [(6, .int x6)] [1] rfl ?_
      exact j127 x6 h hO
    · have hO := ok_neg c1 hO
      refine rb hG 4 122 124 [.iload 5] [] [] [(5, .int x5), (6, .int x6), (7, .int x7)] [.int x5] h [] (by decide +kernel) rfl trivial ?_
      refine ri hG .eq (8) 132 124 (by decide +kernel) (by decide) (fun c2 => ?_) (fun c2 => ?_)
      · have hO := ok_pos c2 hO
        refine rb hG 4 132 134 [.iload 7] [] [] [(5, .int x5), (6, .int x6), (7, .int x7)] [.int x7] h [] (by decide +kernel) rfl trivial ?_
        refine rs hG [] [] rfl ?_
        exact j134 x7 h hO
      · have hO := ok_neg c2 hO
        refine rs hG [(6, .int x6)] [1] rfl ?_
        exact j127 x6 h hO
  have l39 : ∀ (x6 : Int32) (x7 : Int32) (x8 : Int32) (h : Hp), Okk (M_whisper_l39 x4 x5 x6 x7 x8 h) P → G 39 [(0, .ref 251), (4, .int x4), (5, .int x5), (6, .int x6), (7, .int x7), (8, .int x8)] [] h := by
    intro x6 x7 x8 h hO
    obtain ⟨H39, eH39⟩ : ∃ q : (Int32 × Int32 × Int32 × Hp) → Prop, q = fun s => G 39 [(0, .ref 251), (4, .int x4), (5, .int x5), (6, .int (s.1)), (7, .int (s.2.1)), (8, .int (s.2.2.1))] [] (s.2.2.2) := ⟨_, rfl⟩
    have w9 : H39 (x6, x7, x8, h) := by
      refine lp_wp (f := fun s : (Int32 × Int32 × Int32 × Hp) => M_whisper_b39 x4 x5 s.1 s.2.1 s.2.2.1 s.2.2.2) (H := H39) (Q := P) ?_ (x6, x7, x8, h) hO
      rintro ⟨x6, x7, x8, h⟩ hO
      rw [eH39]
      show G 39 [(0, .ref 251), (4, .int x4), (5, .int x5), (6, .int x6), (7, .int x7), (8, .int x8)] [] h
      have k39 : ∀ s : (Int32 × Int32 × Int32 × Hp), H39 s → G 39 [(0, .ref 251), (4, .int x4), (5, .int x5), (6, .int (s.1)), (7, .int (s.2.1)), (8, .int (s.2.2.1))] [] (s.2.2.2) := fun s q => by rw [eH39] at q; exact q
      replace hO : Okk (M_whisper_b39 x4 x5 x6 x7 x8 h) (Sum.elim H39 P) := hO
      clear eH39
      have j108 : ∀ (x6 : Int32) (x8 : Int32) (s0 : Int32) (h : Hp), Okk (M_whisper_j108 x4 x5 x6 x8 s0 h) (Sum.elim H39 P) → G 108 [(0, .ref 251), (4, .int x4), (5, .int x5), (6, .int x6), (8, .int x8)] [.int s0] h := by
        intro x6 x8 s0 h hO
        unfold M_whisper_j108 at hO
        refine rbx hG 5 108 113 [.istore 7, .iinc 8 0] [1] [] ((x8 + (1 : Int32))) (fun y3 => [(8, .int y3), (7, .int s0), (0, .ref 251), (4, .int x4), (5, .int x5), (6, .int x6)]) (fun y3 => []) (fun y3 => h) [] (by decide +kernel) rfl trivial hO (fun y3 hO => ?_)
        refine rb hG 4 113 39 [] [] [] [(8, .int y3), (7, .int s0), (0, .ref 251), (4, .int x4), (5, .int x5), (6, .int x6)] [] h [] (by decide +kernel) rfl trivial ?_
        refine rs hG [(0, .ref 251), (4, .int x4), (5, .int x5), (6, .int x6), (7, .int s0), (8, .int y3)] [2, 3, 4, 5, 1, 0] rfl ?_
        exact k39 (x6, s0, y3, h) (ok_some (Q := (Sum.elim H39 P)) hO)
      have j92 : ∀ (x7 : Int32) (x8 : Int32) (x9 : Int32) (s0 : Int32) (h : Hp), Okk (M_whisper_j92 x4 x5 x7 x8 x9 s0 h) (Sum.elim H39 P) → G 92 [(0, .ref 251), (4, .int x4), (5, .int x5), (7, .int x7), (8, .int x8), (9, .int x9)] [.int s0] h := by
        intro x7 x8 x9 s0 h hO
        unfold M_whisper_j92 at hO
        refine rb hG 5 92 96 [.istore 6, .iload 9] [] [] [(6, .int s0), (0, .ref 251), (4, .int x4), (5, .int x5), (7, .int x7), (8, .int x8), (9, .int x9)] [.int x9] h [] (by decide +kernel) rfl trivial ?_
        refine ri hG .eq (10) 106 96 (by decide +kernel) (by decide) (fun c4 => ?_) (fun c4 => ?_)
        · have hO := ok_pos c4 hO
          refine rb hG 4 106 108 [.iload 7] [] [] [(6, .int s0), (0, .ref 251), (4, .int x4), (5, .int x5), (7, .int x7), (8, .int x8), (9, .int x9)] [.int x7] h [] (by decide +kernel) rfl trivial ?_
          refine rs hG [(0, .ref 251), (4, .int x4), (5, .int x5), (6, .int s0), (8, .int x8)] [1, 2, 3, 0, 5] rfl ?_
          exact j108 s0 x8 x7 h hO
        · have hO := ok_neg c4 hO
          refine rb hG 6 99 108 [.aload 0, .getfield 1246] [] [] [(6, .int s0), (0, .ref 251), (4, .int x4), (5, .int x5), (7, .int x7), (8, .int x8), (9, .int x9)] [.int (h.1 251 46)] h [kd 251 = 12] (by decide +kernel) rfl kd_251 ?_
          refine rs hG [(0, .ref 251), (4, .int x4), (5, .int x5), (6, .int s0), (8, .int x8)] [1, 2, 3, 0, 5] rfl ?_
          exact j108 s0 x8 (h.1 251 46) h hO
      have j78 : ∀ (x6 : Int32) (x7 : Int32) (x8 : Int32) (s0 : Int32) (h : Hp), Okk (M_whisper_j78 x4 x5 x6 x7 x8 s0 h) (Sum.elim H39 P) → G 78 [(0, .ref 251), (4, .int x4), (5, .int x5), (6, .int x6), (7, .int x7), (8, .int x8)] [.int s0] h := by
        intro x6 x7 x8 s0 h hO
        unfold M_whisper_j78 at hO
        refine rb hG 5 78 82 [.istore 9, .iload 9] [] [] [(9, .int s0), (0, .ref 251), (4, .int x4), (5, .int x5), (6, .int x6), (7, .int x7), (8, .int x8)] [.int s0] h [] (by decide +kernel) rfl trivial ?_
        refine ri hG .eq (8) 90 82 (by decide +kernel) (by decide) (fun c5 => ?_) (fun c5 => ?_)
        · have hO := ok_pos c5 hO
          refine rb hG 4 90 92 [.iload 6] [] [] [(9, .int s0), (0, .ref 251), (4, .int x4), (5, .int x5), (6, .int x6), (7, .int x7), (8, .int x8)] [.int x6] h [] (by decide +kernel) rfl trivial ?_
          refine rs hG [(0, .ref 251), (4, .int x4), (5, .int x5), (7, .int x7), (8, .int x8), (9, .int s0)] [1, 2, 3, 5, 6, 0] rfl ?_
          exact j92 x7 x8 s0 x6 h hO
        · have hO := ok_neg c5 hO
          refine rb hG 5 85 92 [.iload 8] [] [] [(9, .int s0), (0, .ref 251), (4, .int x4), (5, .int x5), (6, .int x6), (7, .int x7), (8, .int x8)] [.int x8] h [] (by decide +kernel) rfl trivial ?_
          refine rs hG [(0, .ref 251), (4, .int x4), (5, .int x5), (7, .int x7), (8, .int x8), (9, .int s0)] [1, 2, 3, 5, 6, 0] rfl ?_
          exact j92 x7 x8 s0 x8 h hO
      have j77 : ∀ (x6 : Int32) (x7 : Int32) (x8 : Int32) (h : Hp), Okk (M_whisper_j77 x4 x5 x6 x7 x8 h) (Sum.elim H39 P) → G 77 [(0, .ref 251), (4, .int x4), (5, .int x5), (6, .int x6), (7, .int x7), (8, .int x8)] [] h := by
        intro x6 x7 x8 h hO
        unfold M_whisper_j77 at hO
        refine rb hG 4 77 78 [.ldc_w 0] [0] [] [(0, .ref 251), (4, .int x4), (5, .int x5), (6, .int x6), (7, .int x7), (8, .int x8)] [.int (0 : Int32)] h [] (by decide +kernel) rfl trivial ?_
        exact j78 x6 x7 x8 (0 : Int32) h hO
      unfold M_whisper_b39 at hO
      refine rb hG 6 39 45 [.iload 8, .aload 0, .getfield 1224] [] [] [(0, .ref 251), (4, .int x4), (5, .int x5), (6, .int x6), (7, .int x7), (8, .int x8)] [.int (h.1 251 24), .int x8] h [kd 251 = 12] (by decide +kernel) rfl kd_251 ?_
      refine rj hG .ge (71) 116 45 (by decide +kernel) (by decide) (fun c6 => ?_) (fun c6 => ?_)
      · have hO := ok_pos c6 hO
        refine rs hG [(5, .int x5), (6, .int x6), (7, .int x7)] [2, 3, 4] rfl ?_
        exact j116 x6 x7 h (ok_inr hO)
      · have hO := ok_neg c6 hO
        refine rb hG 6 48 53 [.aload 0, .iload 8, .iload 4] [] [] [(0, .ref 251), (4, .int x4), (5, .int x5), (6, .int x6), (7, .int x7), (8, .int x8)] [.int x4, .int x8, .ref 251] h [] (by decide +kernel) rfl trivial ?_
        refine rv hG z_M_findComes 442 2 53 251 [.int x8, .int x4] [] (by decide +kernel) mk_M_findComes lk_12_442 rcv_251 rfl ⟨rfl, Nat.le_of_ble_eq_true rfl⟩ (c_M_findComes (d := d + 5) h x8 x4 (ok_bind hO)) ?_
        rintro _ h7 ⟨rfl, hO⟩
        refine rb hG 6 56 61 [.aload 0, .getfield 1246, .ldc_w 0] [-1] [] [(0, .ref 251), (4, .int x4), (5, .int x5), (6, .int x6), (7, .int x7), (8, .int x8)] [.int (-1 : Int32), .int (h7.1 251 46)] h7 [kd 251 = 12] (by decide +kernel) rfl kd_251 ?_
        refine rj hG .eq (16) 77 61 (by decide +kernel) (by decide) (fun c8 => ?_) (fun c8 => ?_)
        · have hO := ok_pos c8 hO
          exact j77 x6 x7 x8 h7 hO
        · have hO := ok_neg c8 hO
          refine rb hG 6 64 70 [.aload 0, .getfield 1246, .iload 7] [] [] [(0, .ref 251), (4, .int x4), (5, .int x5), (6, .int x6), (7, .int x7), (8, .int x8)] [.int x7, .int (h7.1 251 46)] h7 [kd 251 = 12] (by decide +kernel) rfl kd_251 ?_
          refine rj hG .ge (7) 77 70 (by decide +kernel) (by decide) (fun c9 => ?_) (fun c9 => ?_)
          · have hO := ok_pos c9 hO
            exact j77 x6 x7 x8 h7 hO
          · have hO := ok_neg c9 hO
            refine rb hG 5 73 78 [.ldc_w 0] [1] [] [(0, .ref 251), (4, .int x4), (5, .int x5), (6, .int x6), (7, .int x7), (8, .int x8)] [.int (1 : Int32)] h7 [] (by decide +kernel) rfl trivial ?_
            exact j78 x6 x7 x8 (1 : Int32) h7 hO
    rw [eH39] at w9
    exact w9
  refine rbx hG 6 0 5 [.aload 0, .ldc_w 0, .putfield 1200] [0] [] (wr h 251 0 (0 : Int32)) (fun h10 => [(0, .ref 251), (1, .int x1), (2, .int x2), (3, .int x3), (4, .int x4), (5, .int x5)]) (fun h10 => []) (fun h10 => h10) [kd 251 = 12] (by decide +kernel) rfl kd_251 hO (fun h10 hO => ?_)
  refine rb hG 6 5 10 [.iload 4, .ldc_w 0, .ldc_w 1] [0, 9] [] [(0, .ref 251), (1, .int x1), (2, .int x2), (3, .int x3), (4, .int x4), (5, .int x5)] [.int (9 : Int32), .int (0 : Int32), .int x4] h10 [] (by decide +kernel) rfl trivial ?_
  refine rt hG z_M_in 111 3 10 [.int x4, .int (0 : Int32), .int (9 : Int32)] [] (by decide +kernel) mk_M_in lk_12_111 rfl ⟨rfl, Nat.le_of_ble_eq_true rfl⟩ (c_M_in (d := d + 7) h10 x4 (0 : Int32) (9 : Int32) (ok_bind hO)) ?_
  rintro _ _ ⟨r11, rfl, rfl, hO⟩
  refine ri hG .eq (13) 26 13 (by decide +kernel) (by decide) (fun c12 => ?_) (fun c12 => ?_)
  · have hO := ok_pos c12 hO
    refine rs hG [] [] rfl ?_
    exact j26 h10 hO
  · have hO := ok_neg c12 hO
    refine rb hG 7 16 20 [.aload 0, .iload 1, .iload 2, .iload 3] [] [] [(0, .ref 251), (1, .int x1), (2, .int x2), (3, .int x3), (4, .int x4), (5, .int x5)] [.int x3, .int x2, .int x1, .ref 251] h10 [] (by decide +kernel) rfl trivial ?_
    refine rv hG z_M_layState 380 3 20 251 [.int x1, .int x2, .int x3] [] (by decide +kernel) mk_M_layState lk_12_380 rcv_251 rfl ⟨rfl, Nat.le_of_ble_eq_true rfl⟩ (c_M_layState (d := d) h10 x1 x2 x3 (ok_bind hO)) ?_
    rintro _ h14 ⟨r13, rfl, hO⟩
    refine riN hG (5) 28 23 (by decide +kernel) (by decide) (fun c15 => ?_) (fun c15 => ?_)
    · have hO := ok_pos c15 hO
      refine rs hG [] [] rfl ?_
      exact j26 h14 hO
    · have hO := ok_neg c15 hO
      refine rb hG 9 28 39 [.ldc_w 0, .istore 6, .ldc_w 1, .istore 7, .ldc_w 2, .istore 8] [-1, 1000000, 0] [] [(8, .int (0 : Int32)), (7, .int (1000000 : Int32)), (6, .int (-1 : Int32)), (0, .ref 251), (1, .int x1), (2, .int x2), (3, .int x3), (4, .int x4), (5, .int x5)] [] h14 [] (by decide +kernel) rfl trivial ?_
      refine rs hG [(0, .ref 251), (4, .int x4), (5, .int x5), (6, .int (-1 : Int32)), (7, .int (1000000 : Int32)), (8, .int (0 : Int32))] [3, 7, 8, 2, 1, 0] rfl ?_
      exact l39 (-1 : Int32) (1000000 : Int32) (0 : Int32) h14 hO
/-! GrainInn.Parting.fewestTables(LGrainInn$House;)I -/
noncomputable def P_fewestTables_j108 (x1 : Nat) (x2 : Int32) (h : Hp) : Option (Int32 × Hp) := if inb (x2 - (1 : Int32)) (ln 124) then (some ((h.1 124 (Int32.toNatClampNeg (x2 - (1 : Int32)))), h)) else none
noncomputable def P_fewestTables_j102 (x1 : Nat) (x2 : Int32) (x3 : Int32) (h : Hp) : Option ((Int32 × Hp) ⊕ (Int32 × Hp)) := bnd ((x3 + (1 : Int32))) fun y2 => some (.inl (y2, h))
noncomputable def P_fewestTables_j91 (x1 : Nat) (x2 : Int32) (x3 : Int32) (x4 : Int32) (h : Hp) : Option ((Int32 × Hp) ⊕ ((Int32 × Hp) ⊕ (Int32 × Hp))) := bnd (((x4 - (1 : Int32)) &&& x3)) fun y3 => some (.inl (y3, h))
noncomputable def P_fewestTables_b40 (x1 : Nat) (x2 : Int32) (x3 : Int32) (x4 : Int32) (h : Hp) : Option ((Int32 × Hp) ⊕ ((Int32 × Hp) ⊕ (Int32 × Hp))) := if x4 ≤ 0 then (((P_fewestTables_j102 x1 x2 x3 h).map Sum.inr)) else (if inb (x3 ^^^ x4) (ln 124) then (if inb x3 (ln 124) then (if (h.1 124 (Int32.toNatClampNeg x3)) ≤ ((h.1 124 (Int32.toNatClampNeg (x3 ^^^ x4))) + (1 : Int32)) then ((P_fewestTables_j91 x1 x2 x3 x4 h)) else (if kd x1 = 1 then ((H_isPeaceful h x1 x4).bind fun r9 => if r9 = 0 then ((P_fewestTables_j91 x1 x2 x3 x4 h)) else (if inb (x3 ^^^ x4) (ln 124) then (if inb x3 (ln 124) then (bnd (wr h 124 (Int32.toNatClampNeg x3) ((h.1 124 (Int32.toNatClampNeg (x3 ^^^ x4))) + (1 : Int32))) fun h13 => (P_fewestTables_j91 x1 x2 x3 x4 h13)) else none) else none)) else none)) else none) else none)
noncomputable def P_fewestTables_l40 (x1 : Nat) (x2 : Int32) (x3 : Int32) (x4 : Int32) (h : Hp) : Option ((Int32 × Hp) ⊕ (Int32 × Hp)) := lp (fun s : (Int32 × Hp) => P_fewestTables_b40 x1 x2 x3 s.1 s.2) (x4, h)
theorem P_fewestTables_l40_eq (x1 : Nat) (x2 : Int32) (x3 : Int32) (x4 : Int32) (h : Hp) : P_fewestTables_l40 x1 x2 x3 x4 h = (P_fewestTables_b40 x1 x2 x3 x4 h).bind (Sum.elim (fun q : (Int32 × Hp) => P_fewestTables_l40 x1 x2 x3 q.1 q.2) some) := lp_eq _ _
noncomputable def P_fewestTables_b24 (x1 : Nat) (x2 : Int32) (x3 : Int32) (h : Hp) : Option ((Int32 × Hp) ⊕ (Int32 × Hp)) := if x2 ≤ x3 then (((P_fewestTables_j108 x1 x2 h).map Sum.inr)) else (if inb x3 (ln 124) then (bnd (wr h 124 (Int32.toNatClampNeg x3) (8 : Int32)) fun h16 => (P_fewestTables_l40 x1 x2 x3 x3 h16)) else none)
noncomputable def P_fewestTables_l24 (x1 : Nat) (x2 : Int32) (x3 : Int32) (h : Hp) : Option (Int32 × Hp) := lp (fun s : (Int32 × Hp) => P_fewestTables_b24 x1 x2 s.1 s.2) (x3, h)
theorem P_fewestTables_l24_eq (x1 : Nat) (x2 : Int32) (x3 : Int32) (h : Hp) : P_fewestTables_l24 x1 x2 x3 h = (P_fewestTables_b24 x1 x2 x3 h).bind (Sum.elim (fun q : (Int32 × Hp) => P_fewestTables_l24 x1 x2 q.1 q.2) some) := lp_eq _ _
noncomputable def P_fewestTables (h : Hp) (x1 : Nat) : Option (Int32 × Hp) := if kd x1 = 1 then (bnd ((mn (sh (1 : Int32) (h.1 x1 6)) (Int32.ofNat (ln 124)))) fun y18 => bnd (wr h 124 (Int32.toNatClampNeg (0 : Int32)) (0 : Int32)) fun h19 => (P_fewestTables_l24 x1 y18 (1 : Int32) h19)) else none
set_option maxRecDepth 100000 in
set_option maxHeartbeats 4000000 in
theorem c_P_fewestTables {E : En} {d : Nat} (h : Hp) (x1 : Nat) {P : (Int32 × Hp) → Prop} (hO : Okk (P_fewestTables h x1) P) : Cn E (d + 5) z_P_fewestTables [.ref 123, .ref x1] h (RI P) := by
  refine cn_of (on := 3) (d := d + 4) ⟨rfl, by decide +kernel, Nat.le_of_ble_eq_true rfl⟩ (fun G hG => ?_)
  unfold P_fewestTables at hO
  show G 0 [(0, .ref 123), (1, .ref x1)] [] h
  have j108 : ∀ (x2 : Int32) (h : Hp), Okk (P_fewestTables_j108 x1 x2 h) P → G 108 [(0, .ref 123), (2, .int x2)] [] h := by
    intro x2 h hO
    unfold P_fewestTables_j108 at hO
    obtain ⟨g1, hO⟩ := ok_if hO
    refine rb hG 9 108 116 [.aload 0, .invokeinterface 300 1, .iload 2, .ldc_w 0, .isub, .iaload] [1] [] [(0, .ref 123), (2, .int x2)] [.int (h.1 124 (Int32.toNatClampNeg (x2 - (1 : Int32))))] h [kd 123 = 3, kd 124 = 20 ∧ inb (x2 - (1 : Int32)) (ln 124)] (by decide +kernel) rfl ⟨kd_123, ⟨kd_124, g1⟩⟩ ?_
    exact eI hG 116 (by decide +kernel) rfl ⟨(h.1 124 (Int32.toNatClampNeg (x2 - (1 : Int32)))), rfl, ok_some (Q := P) hO⟩
  have l24 : ∀ (x2 : Int32) (x3 : Int32) (h : Hp), Okk (P_fewestTables_l24 x1 x2 x3 h) P → G 24 [(0, .ref 123), (1, .ref x1), (2, .int x2), (3, .int x3)] [] h := by
    intro x2 x3 h hO
    obtain ⟨H24, eH24⟩ : ∃ q : (Int32 × Hp) → Prop, q = fun s => G 24 [(0, .ref 123), (1, .ref x1), (2, .int x2), (3, .int (s.1))] [] (s.2) := ⟨_, rfl⟩
    have w9 : H24 (x3, h) := by
      refine lp_wp (f := fun s : (Int32 × Hp) => P_fewestTables_b24 x1 x2 s.1 s.2) (H := H24) (Q := P) ?_ (x3, h) hO
      rintro ⟨x3, h⟩ hO
      rw [eH24]
      show G 24 [(0, .ref 123), (1, .ref x1), (2, .int x2), (3, .int x3)] [] h
      have k24 : ∀ s : (Int32 × Hp), H24 s → G 24 [(0, .ref 123), (1, .ref x1), (2, .int x2), (3, .int (s.1))] [] (s.2) := fun s q => by rw [eH24] at q; exact q
      replace hO : Okk (P_fewestTables_b24 x1 x2 x3 h) (Sum.elim H24 P) := hO
      clear eH24
      have j102 : ∀ (x3 : Int32) (h : Hp), Okk (P_fewestTables_j102 x1 x2 x3 h) (Sum.elim H24 P) → G 102 [(0, .ref 123), (1, .ref x1), (2, .int x2), (3, .int x3)] [] h := by
        intro x3 h hO
        unfold P_fewestTables_j102 at hO
        refine rbx hG 4 102 105 [.iinc 3 0] [1] [] ((x3 + (1 : Int32))) (fun y2 => [(3, .int y2), (0, .ref 123), (1, .ref x1), (2, .int x2)]) (fun y2 => []) (fun y2 => h) [] (by decide +kernel) rfl trivial hO (fun y2 hO => ?_)
        refine rb hG 4 105 24 [] [] [] [(3, .int y2), (0, .ref 123), (1, .ref x1), (2, .int x2)] [] h [] (by decide +kernel) rfl trivial ?_
        refine rs hG [(0, .ref 123), (1, .ref x1), (2, .int x2), (3, .int y2)] [1, 2, 3, 0] rfl ?_
        exact k24 (y2, h) (ok_some (Q := (Sum.elim H24 P)) hO)
      have l40 : ∀ (x3 : Int32) (x4 : Int32) (h : Hp), Okk (P_fewestTables_l40 x1 x2 x3 x4 h) (Sum.elim H24 P) → G 40 [(0, .ref 123), (1, .ref x1), (2, .int x2), (3, .int x3), (4, .int x4)] [] h := by
        intro x3 x4 h hO
        obtain ⟨H40, eH40⟩ : ∃ q : (Int32 × Hp) → Prop, q = fun s => G 40 [(0, .ref 123), (1, .ref x1), (2, .int x2), (3, .int x3), (4, .int (s.1))] [] (s.2) := ⟨_, rfl⟩
        have w9 : H40 (x4, h) := by
          refine lp_wp (f := fun s : (Int32 × Hp) => P_fewestTables_b40 x1 x2 x3 s.1 s.2) (H := H40) (Q := (Sum.elim H24 P)) ?_ (x4, h) hO
          rintro ⟨x4, h⟩ hO
          rw [eH40]
          show G 40 [(0, .ref 123), (1, .ref x1), (2, .int x2), (3, .int x3), (4, .int x4)] [] h
          have k40 : ∀ s : (Int32 × Hp), H40 s → G 40 [(0, .ref 123), (1, .ref x1), (2, .int x2), (3, .int x3), (4, .int (s.1))] [] (s.2) := fun s q => by rw [eH40] at q; exact q
          replace hO : Okk (P_fewestTables_b40 x1 x2 x3 x4 h) (Sum.elim H40 (Sum.elim H24 P)) := hO
          clear eH40
          have j91 : ∀ (x4 : Int32) (h : Hp), Okk (P_fewestTables_j91 x1 x2 x3 x4 h) (Sum.elim H40 (Sum.elim H24 P)) → G 91 [(0, .ref 123), (1, .ref x1), (2, .int x2), (3, .int x3), (4, .int x4)] [] h := by
            intro x4 h hO
            unfold P_fewestTables_j91 at hO
            refine rbx hG 9 91 99 [.iload 4, .ldc_w 0, .isub, .iload 3, .iand, .istore 4] [1] [] (((x4 - (1 : Int32)) &&& x3)) (fun y3 => [(4, .int y3), (0, .ref 123), (1, .ref x1), (2, .int x2), (3, .int x3)]) (fun y3 => []) (fun y3 => h) [] (by decide +kernel) rfl trivial hO (fun y3 hO => ?_)
            refine rb hG 4 99 40 [] [] [] [(4, .int y3), (0, .ref 123), (1, .ref x1), (2, .int x2), (3, .int x3)] [] h [] (by decide +kernel) rfl trivial ?_
            refine rs hG [(0, .ref 123), (1, .ref x1), (2, .int x2), (3, .int x3), (4, .int y3)] [1, 2, 3, 4, 0] rfl ?_
            exact k40 (y3, h) (ok_some (Q := (Sum.elim H40 (Sum.elim H24 P))) hO)
          unfold P_fewestTables_b40 at hO
          refine rb hG 4 40 42 [.iload 4] [] [] [(0, .ref 123), (1, .ref x1), (2, .int x2), (3, .int x3), (4, .int x4)] [.int x4] h [] (by decide +kernel) rfl trivial ?_
          refine ri hG .le (60) 102 42 (by decide +kernel) (by decide) (fun c4 => ?_) (fun c4 => ?_)
          · have hO := ok_pos c4 hO
            refine rs hG [(0, .ref 123), (1, .ref x1), (2, .int x2), (3, .int x3)] [0, 1, 2, 3] rfl ?_
            exact j102 x3 h (ok_inr hO)
          · have hO := ok_neg c4 hO
            obtain ⟨g5, hO⟩ := ok_if hO
            obtain ⟨g6, hO⟩ := ok_if hO
            refine rb hG 15 45 62 [.aload 0, .invokeinterface 300 1, .iload 3, .iload 4, .ixor, .iaload, .ldc_w 0, .iadd, .aload 0, .invokeinterface 300 1, .iload 3, .iaload] [1] [] [(0, .ref 123), (1, .ref x1), (2, .int x2), (3, .int x3), (4, .int x4)] [.int (h.1 124 (Int32.toNatClampNeg x3)), .int ((h.1 124 (Int32.toNatClampNeg (x3 ^^^ x4))) + (1 : Int32))] h [kd 123 = 3, kd 124 = 20 ∧ inb (x3 ^^^ x4) (ln 124), kd 123 = 3, kd 124 = 20 ∧ inb x3 (ln 124)] (by decide +kernel) rfl ⟨kd_123, ⟨kd_124, g5⟩, kd_123, ⟨kd_124, g6⟩⟩ ?_
            refine rj hG .ge (29) 91 62 (by decide +kernel) (by decide) (fun c7 => ?_) (fun c7 => ?_)
            · have hO := ok_pos c7 hO
              exact j91 x4 h hO
            · have hO := ok_neg c7 hO
              obtain ⟨g8, hO⟩ := ok_if hO
              refine rb hG 5 65 68 [.aload 1, .iload 4] [] [] [(0, .ref 123), (1, .ref x1), (2, .int x2), (3, .int x3), (4, .int x4)] [.int x4, .ref x1] h [] (by decide +kernel) rfl trivial ?_
              refine rv hG z_H_isPeaceful 25 1 68 x1 [.int x4] [] (by decide +kernel) mk_H_isPeaceful lk_3_25 (rcv_H g8) rfl ⟨rfl, Nat.le_of_ble_eq_true rfl⟩ (c_H_isPeaceful (d := d) h x1 x4 (ok_bind hO)) ?_
              rintro _ _ ⟨r9, rfl, rfl, hO⟩
              refine ri hG .eq (20) 91 71 (by decide +kernel) (by decide) (fun c10 => ?_) (fun c10 => ?_)
              · have hO := ok_pos c10 hO
                exact j91 x4 h hO
              · have hO := ok_neg c10 hO
                obtain ⟨g11, hO⟩ := ok_if hO
                obtain ⟨g12, hO⟩ := ok_if hO
                refine rbx hG 15 74 91 [.aload 0, .invokeinterface 300 1, .iload 3, .aload 0, .invokeinterface 300 1, .iload 3, .iload 4, .ixor, .iaload, .ldc_w 0, .iadd, .iastore] [1] [] (wr h 124 (Int32.toNatClampNeg x3) ((h.1 124 (Int32.toNatClampNeg (x3 ^^^ x4))) + (1 : Int32))) (fun h13 => [(0, .ref 123), (1, .ref x1), (2, .int x2), (3, .int x3), (4, .int x4)]) (fun h13 => []) (fun h13 => h13) [kd 123 = 3, kd 123 = 3, kd 124 = 20 ∧ inb (x3 ^^^ x4) (ln 124), kd 124 = 20 ∧ inb x3 (ln 124)] (by decide +kernel) rfl ⟨kd_123, kd_123, ⟨kd_124, g11⟩, ⟨kd_124, g12⟩⟩ hO (fun h13 hO => ?_)
                exact j91 x4 h13 hO
        rw [eH40] at w9
        exact w9
      unfold P_fewestTables_b24 at hO
      refine rb hG 5 24 26 [.iload 3, .iload 2] [] [] [(0, .ref 123), (1, .ref x1), (2, .int x2), (3, .int x3)] [.int x2, .int x3] h [] (by decide +kernel) rfl trivial ?_
      refine rj hG .ge (82) 108 26 (by decide +kernel) (by decide) (fun c14 => ?_) (fun c14 => ?_)
      · have hO := ok_pos c14 hO
        refine rs hG [(0, .ref 123), (2, .int x2)] [0, 2] rfl ?_
        exact j108 x2 h (ok_inr hO)
      · have hO := ok_neg c14 hO
        obtain ⟨g15, hO⟩ := ok_if hO
        refine rbx hG 8 29 37 [.aload 0, .invokeinterface 300 1, .iload 3, .ldc_w 0, .iastore] [8] [] (wr h 124 (Int32.toNatClampNeg x3) (8 : Int32)) (fun h16 => [(0, .ref 123), (1, .ref x1), (2, .int x2), (3, .int x3)]) (fun h16 => []) (fun h16 => h16) [kd 123 = 3, kd 124 = 20 ∧ inb x3 (ln 124)] (by decide +kernel) rfl ⟨kd_123, ⟨kd_124, g15⟩⟩ hO (fun h16 hO => ?_)
        refine rb hG 5 37 40 [.iload 3, .istore 4] [] [] [(4, .int x3), (0, .ref 123), (1, .ref x1), (2, .int x2), (3, .int x3)] [] h16 [] (by decide +kernel) rfl trivial ?_
        refine rs hG [(0, .ref 123), (1, .ref x1), (2, .int x2), (3, .int x3), (4, .int x3)] [1, 2, 3, 4, 0] rfl ?_
        exact l40 x3 x3 h16 hO
    rw [eH24] at w9
    exact w9
  obtain ⟨g17, hO⟩ := ok_if hO
  refine rbx hG 12 0 15 [.ldc_w 0, .aload 1, .getfield 106, .ishl, .aload 0, .invokeinterface 300 1, .arraylength, .invokestatic 2, .istore 2] [1] [] ((mn (sh (1 : Int32) (h.1 x1 6)) (Int32.ofNat (ln 124)))) (fun y18 => [(2, .int y18), (0, .ref 123), (1, .ref x1)]) (fun y18 => []) (fun y18 => h) [kd x1 = 1, kd 123 = 3, 20 ≤ kd 124 ∧ kd 124 < 27, sm [] ≤ 8] (by decide +kernel) rfl ⟨g17, kd_123, (show 20 ≤ kd 124 ∧ kd 124 < 27 by decide +kernel), Nat.le_of_ble_eq_true rfl⟩ hO (fun y18 hO => ?_)
  refine rbx hG 8 15 22 [.aload 0, .invokeinterface 300 1, .ldc_w 0, .ldc_w 0, .iastore] [0] [] (wr h 124 (Int32.toNatClampNeg (0 : Int32)) (0 : Int32)) (fun h19 => [(2, .int y18), (0, .ref 123), (1, .ref x1)]) (fun h19 => []) (fun h19 => h19) [kd 123 = 3, kd 124 = 20 ∧ inb (0 : Int32) (ln 124)] (by decide +kernel) rfl ⟨kd_123, ⟨kd_124, (by decide +kernel)⟩⟩ hO (fun h19 hO => ?_)
  refine rb hG 5 22 24 [.ldc_w 0, .istore 3] [1] [] [(3, .int (1 : Int32)), (2, .int y18), (0, .ref 123), (1, .ref x1)] [] h19 [] (by decide +kernel) rfl trivial ?_
  refine rs hG [(0, .ref 123), (1, .ref x1), (2, .int y18), (3, .int (1 : Int32))] [2, 3, 1, 0] rfl ?_
  exact l24 y18 (1 : Int32) h19 hO
/-! GrainInn.Parting.greatestPeace(LGrainInn$House;)I -/
noncomputable def P_greatestPeace_j41 (x1 : Nat) (x2 : Int32) (h : Hp) : Option Int32 := some x2
noncomputable def P_greatestPeace_j35 (x1 : Nat) (x2 : Int32) (x3 : Int32) (h : Hp) : Option ((Int32 × Int32) ⊕ Int32) := bnd ((x3 + (1 : Int32))) fun y1 => some (.inl (x2, y1))
noncomputable def P_greatestPeace_b4 (x1 : Nat) (x2 : Int32) (x3 : Int32) (h : Hp) : Option ((Int32 × Int32) ⊕ Int32) := if kd x1 = 1 then (if (sh (1 : Int32) (h.1 x1 6)) ≤ x3 then (((P_greatestPeace_j41 x1 x2 h).map Sum.inr)) else ((J_bitCount x3).bind fun r4 => (J_bitCount x2).bind fun r5 => if r4 ≤ r5 then ((P_greatestPeace_j35 x1 x2 x3 h)) else ((H_isPeaceful h x1 x3).bind fun r7 => if r7 = 0 then ((P_greatestPeace_j35 x1 x2 x3 h)) else ((P_greatestPeace_j35 x1 x3 x3 h))))) else none
noncomputable def P_greatestPeace_l4 (x1 : Nat) (x2 : Int32) (x3 : Int32) (h : Hp) : Option Int32 := lp (fun s : (Int32 × Int32) => P_greatestPeace_b4 x1 s.1 s.2 h) (x2, x3)
theorem P_greatestPeace_l4_eq (x1 : Nat) (x2 : Int32) (x3 : Int32) (h : Hp) : P_greatestPeace_l4 x1 x2 x3 h = (P_greatestPeace_b4 x1 x2 x3 h).bind (Sum.elim (fun q : (Int32 × Int32) => P_greatestPeace_l4 x1 q.1 q.2 h) some) := lp_eq _ _
noncomputable def P_greatestPeace (h : Hp) (x1 : Nat) : Option Int32 := (P_greatestPeace_l4 x1 (0 : Int32) (1 : Int32) h)
set_option maxRecDepth 100000 in
set_option maxHeartbeats 4000000 in
theorem c_P_greatestPeace {E : En} {d : Nat} (h : Hp) (x1 : Nat) {P : Int32 → Prop} (hO : Okk (P_greatestPeace h x1) P) : Cn E (d + 5) z_P_greatestPeace [.ref 123, .ref x1] h (RIp h P) := by
  refine cn_of (on := 3) (d := d + 4) ⟨rfl, by decide +kernel, Nat.le_of_ble_eq_true rfl⟩ (fun G hG => ?_)
  unfold P_greatestPeace at hO
  show G 0 [(0, .ref 123), (1, .ref x1)] [] h
  have j41 : ∀ (x2 : Int32), Okk (P_greatestPeace_j41 x1 x2 h) P → G 41 [(2, .int x2)] [] h := by
    intro x2 hO
    unfold P_greatestPeace_j41 at hO
    refine rb hG 4 41 42 [.iload 2] [] [] [(2, .int x2)] [.int x2] h [] (by decide +kernel) rfl trivial ?_
    exact eI hG 42 (by decide +kernel) rfl ⟨x2, rfl, rfl, ok_some (Q := P) hO⟩
  have l4 : ∀ (x2 : Int32) (x3 : Int32), Okk (P_greatestPeace_l4 x1 x2 x3 h) P → G 4 [(1, .ref x1), (2, .int x2), (3, .int x3)] [] h := by
    intro x2 x3 hO
    obtain ⟨H4, eH4⟩ : ∃ q : (Int32 × Int32) → Prop, q = fun s => G 4 [(1, .ref x1), (2, .int (s.1)), (3, .int (s.2))] [] (h) := ⟨_, rfl⟩
    have w9 : H4 (x2, x3) := by
      refine lp_wp (f := fun s : (Int32 × Int32) => P_greatestPeace_b4 x1 s.1 s.2 h) (H := H4) (Q := P) ?_ (x2, x3) hO
      rintro ⟨x2, x3⟩ hO
      rw [eH4]
      show G 4 [(1, .ref x1), (2, .int x2), (3, .int x3)] [] h
      have k4 : ∀ s : (Int32 × Int32), H4 s → G 4 [(1, .ref x1), (2, .int (s.1)), (3, .int (s.2))] [] (h) := fun s q => by rw [eH4] at q; exact q
      replace hO : Okk (P_greatestPeace_b4 x1 x2 x3 h) (Sum.elim H4 P) := hO
      clear eH4
      have j35 : ∀ (x2 : Int32) (x3 : Int32), Okk (P_greatestPeace_j35 x1 x2 x3 h) (Sum.elim H4 P) → G 35 [(1, .ref x1), (2, .int x2), (3, .int x3)] [] h := by
        intro x2 x3 hO
        unfold P_greatestPeace_j35 at hO
        refine rbx hG 4 35 38 [.iinc 3 0] [1] [] ((x3 + (1 : Int32))) (fun y1 => [(3, .int y1), (1, .ref x1), (2, .int x2)]) (fun y1 => []) (fun y1 => h) [] (by decide +kernel) rfl trivial hO (fun y1 hO => ?_)
        refine rb hG 4 38 4 [] [] [] [(3, .int y1), (1, .ref x1), (2, .int x2)] [] h [] (by decide +kernel) rfl trivial ?_
        refine rs hG [(1, .ref x1), (2, .int x2), (3, .int y1)] [1, 2, 0] rfl ?_
        exact k4 (x2, y1) (ok_some (Q := (Sum.elim H4 P)) hO)
      unfold P_greatestPeace_b4 at hO
      obtain ⟨g2, hO⟩ := ok_if hO
      refine rb hG 8 4 11 [.iload 3, .ldc_w 0, .aload 1, .getfield 106, .ishl] [1] [] [(1, .ref x1), (2, .int x2), (3, .int x3)] [.int (sh (1 : Int32) (h.1 x1 6)), .int x3] h [kd x1 = 1] (by decide +kernel) rfl g2 ?_
      refine rj hG .ge (30) 41 11 (by decide +kernel) (by decide) (fun c3 => ?_) (fun c3 => ?_)
      · have hO := ok_pos c3 hO
        refine rs hG [(2, .int x2)] [1] rfl ?_
        exact j41 x2 (ok_inr hO)
      · have hO := ok_neg c3 hO
        refine rb hG 4 14 15 [.iload 3] [] [] [(1, .ref x1), (2, .int x2), (3, .int x3)] [.int x3] h [] (by decide +kernel) rfl trivial ?_
        refine rt hG z_J_bitCount 41 1 15 [.int x3] [] (by decide +kernel) mk_J_bitCount lk_3_41 rfl ⟨rfl, Nat.le_of_ble_eq_true rfl⟩ (c_J_bitCount (d := d + 3) h x3 (ok_bind hO)) ?_
        rintro _ _ ⟨r4, rfl, rfl, hO⟩
        refine rb hG 4 18 19 [.iload 2] [] [] [(1, .ref x1), (2, .int x2), (3, .int x3)] [.int x2, .int r4] h [] (by decide +kernel) rfl trivial ?_
        refine rt hG z_J_bitCount 41 1 19 [.int x2] [.int r4] (by decide +kernel) mk_J_bitCount lk_3_41 rfl ⟨rfl, Nat.le_of_ble_eq_true rfl⟩ (c_J_bitCount (d := d + 3) h x2 (ok_bind hO)) ?_
        rintro _ _ ⟨r5, rfl, rfl, hO⟩
        refine rj hG .le (13) 35 22 (by decide +kernel) (by decide) (fun c6 => ?_) (fun c6 => ?_)
        · have hO := ok_pos c6 hO
          exact j35 x2 x3 hO
        · have hO := ok_neg c6 hO
          refine rb hG 5 25 27 [.aload 1, .iload 3] [] [] [(1, .ref x1), (2, .int x2), (3, .int x3)] [.int x3, .ref x1] h [] (by decide +kernel) rfl trivial ?_
          refine rv hG z_H_isPeaceful 25 1 27 x1 [.int x3] [] (by decide +kernel) mk_H_isPeaceful lk_3_25 (rcv_H g2) rfl ⟨rfl, Nat.le_of_ble_eq_true rfl⟩ (c_H_isPeaceful (d := d) h x1 x3 (ok_bind hO)) ?_
          rintro _ _ ⟨r7, rfl, rfl, hO⟩
          refine ri hG .eq (5) 35 30 (by decide +kernel) (by decide) (fun c8 => ?_) (fun c8 => ?_)
          · have hO := ok_pos c8 hO
            exact j35 x2 x3 hO
          · have hO := ok_neg c8 hO
            refine rb hG 5 33 35 [.iload 3, .istore 2] [] [] [(2, .int x3), (1, .ref x1), (3, .int x3)] [] h [] (by decide +kernel) rfl trivial ?_
            refine rs hG [(1, .ref x1), (2, .int x3), (3, .int x3)] [1, 0, 2] rfl ?_
            exact j35 x3 x3 hO
    rw [eH4] at w9
    exact w9
  refine rb hG 7 0 4 [.ldc_w 0, .istore 2, .ldc_w 1, .istore 3] [0, 1] [] [(3, .int (1 : Int32)), (2, .int (0 : Int32)), (0, .ref 123), (1, .ref x1)] [] h [] (by decide +kernel) rfl trivial ?_
  refine rs hG [(1, .ref x1), (2, .int (0 : Int32)), (3, .int (1 : Int32))] [3, 1, 0] rfl ?_
  exact l4 (0 : Int32) (1 : Int32) hO
/-! GrainInn.council(IZ)I -/
noncomputable def K_council_j38 (s0 : Int32) (h : Hp) : Option (Int32 × Hp) := some (s0, h)
noncomputable def K_council (h : Hp) (x1 : Int32) (x2 : Int32) : Option (Int32 × Hp) := (D_innAt h 2 x1).bind fun r1 => if r1 = 0 then (some ((-1 : Int32), h)) else (if x2 = 0 then ((P_greatestPeace h r1).bind fun r4 => (K_council_j38 r4 h)) else ((P_fewestTables h r1).bind fun (r5, h6) => (K_council_j38 r5 h6)))
set_option maxRecDepth 100000 in
set_option maxHeartbeats 4000000 in
theorem c_K_council {E : En} {d : Nat} (h : Hp) (x1 : Int32) (x2 : Int32) {P : (Int32 × Hp) → Prop} (hO : Okk (K_council h x1 x2) P) : Cn E (d + 6) z_K_council [.ref 1, .int x1, .int x2] h (RI P) := by
  refine cn_of (on := 11) (d := d + 5) ⟨rfl, by decide +kernel, Nat.le_of_ble_eq_true rfl⟩ (fun G hG => ?_)
  unfold K_council at hO
  show G 0 [(0, .ref 1), (1, .int x1), (2, .int x2)] [] h
  have j38 : ∀ (s0 : Int32) (h : Hp), Okk (K_council_j38 s0 h) P → G 38 [] [.int s0] h := by
    intro s0 h hO
    unfold K_council_j38 at hO
    exact eI hG 38 (by decide +kernel) rfl ⟨s0, rfl, ok_some (Q := P) hO⟩
  refine rb hG 6 0 5 [.aload 0, .invokeinterface 1100 1, .iload 1] [] [] [(0, .ref 1), (1, .int x1), (2, .int x2)] [.int x1, .ref 2] h [kd 1 = 11] (by decide +kernel) rfl kd_1 ?_
  refine rv hG z_D_innAt 107 1 5 2 [.int x1] [] (by decide +kernel) mk_D_innAt lk_11_107 rcv_2 rfl ⟨rfl, Nat.le_of_ble_eq_true rfl⟩ (c_D_innAt (d := d + 1) h 2 x1 (ok_bind hO)) ?_
  rintro _ _ ⟨r1, rfl, rfl, hO⟩
  refine rb hG 5 8 10 [.astore 3, .aload 3] [] [] [(3, .ref r1), (0, .ref 1), (1, .int x1), (2, .int x2)] [.ref r1] h [] (by decide +kernel) rfl trivial ?_
  refine rnn hG (5) 15 10 (by decide +kernel) (by decide) (fun c2 => ?_) (fun c2 => ?_)
  · have hO := ok_pos c2 hO
    refine rb hG 4 13 14 [.ldc_w 0] [-1] [] [(3, .ref r1), (0, .ref 1), (1, .int x1), (2, .int x2)] [.int (-1 : Int32)] h [] (by decide +kernel) rfl trivial ?_
    exact eI hG 14 (by decide +kernel) rfl ⟨(-1 : Int32), rfl, ok_some (Q := P) hO⟩
  · have hO := ok_neg c2 hO
    refine rb hG 4 15 16 [.iload 2] [] [] [(3, .ref r1), (0, .ref 1), (1, .int x1), (2, .int x2)] [.int x2] h [] (by decide +kernel) rfl trivial ?_
    refine ri hG .eq (14) 30 16 (by decide +kernel) (by decide) (fun c3 => ?_) (fun c3 => ?_)
    · have hO := ok_pos c3 hO
      refine rb hG 6 30 35 [.aload 0, .invokeinterface 1108 122, .aload 3] [] [] [(3, .ref r1), (0, .ref 1), (1, .int x1), (2, .int x2)] [.ref r1, .ref 123] h [kd 1 = 11] (by decide +kernel) rfl kd_1 ?_
      refine rv hG z_P_greatestPeace 307 1 35 123 [.ref r1] [] (by decide +kernel) mk_P_greatestPeace lk_11_307 rcv_123 rfl ⟨rfl, Nat.le_of_ble_eq_true rfl⟩ (c_P_greatestPeace (d := d) h r1 (ok_bind hO)) ?_
      rintro _ _ ⟨r4, rfl, rfl, hO⟩
      refine rs hG [] [] rfl ?_
      exact j38 r4 h hO
    · have hO := ok_neg c3 hO
      refine rb hG 6 19 24 [.aload 0, .invokeinterface 1108 122, .aload 3] [] [] [(3, .ref r1), (0, .ref 1), (1, .int x1), (2, .int x2)] [.ref r1, .ref 123] h [kd 1 = 11] (by decide +kernel) rfl kd_1 ?_
      refine rv hG z_P_fewestTables 303 1 24 123 [.ref r1] [] (by decide +kernel) mk_P_fewestTables lk_11_303 rcv_123 rfl ⟨rfl, Nat.le_of_ble_eq_true rfl⟩ (c_P_fewestTables (d := d) h r1 (ok_bind hO)) ?_
      rintro _ h6 ⟨r5, rfl, hO⟩
      refine rb hG 4 27 38 [] [] [] [(3, .ref r1), (0, .ref 1), (1, .int x1), (2, .int x2)] [.int r5] h6 [] (by decide +kernel) rfl trivial ?_
      refine rs hG [] [] rfl ?_
      exact j38 r5 h6 hO
/-! GrainInnModel.fewestTables()I -/
noncomputable def M_fewestTables_j95 (h : Hp) : Option (Int32 × Hp) := if inb ((sh (1 : Int32) (h.1 251 25)) - (1 : Int32)) (ln 278) then (some ((h.1 278 (Int32.toNatClampNeg ((sh (1 : Int32) (h.1 251 25)) - (1 : Int32)))), h)) else none
noncomputable def M_fewestTables_j89 (x1 : Int32) (h : Hp) : Option ((Int32 × Hp) ⊕ (Int32 × Hp)) := bnd ((x1 + (1 : Int32))) fun y2 => some (.inl (y2, h))
noncomputable def M_fewestTables_j79 (x1 : Int32) (x2 : Int32) (s1 : Int32) (s2 : Int32) (h : Hp) : Option ((Int32 × Hp) ⊕ ((Int32 × Hp) ⊕ (Int32 × Hp))) := if inb s1 (ln 278) then (bnd (wr h 278 (Int32.toNatClampNeg s1) s2) fun h4 => bnd (((x2 - (1 : Int32)) &&& x1)) fun y5 => some (.inl (y5, h4))) else none
noncomputable def M_fewestTables_j73 (x1 : Int32) (x2 : Int32) (s1 : Int32) (h : Hp) : Option ((Int32 × Hp) ⊕ ((Int32 × Hp) ⊕ (Int32 × Hp))) := if inb x1 (ln 278) then ((M_fewestTables_j79 x1 x2 s1 (h.1 278 (Int32.toNatClampNeg x1)) h)) else none
noncomputable def M_fewestTables_b29 (x1 : Int32) (x2 : Int32) (h : Hp) : Option ((Int32 × Hp) ⊕ ((Int32 × Hp) ⊕ (Int32 × Hp))) := if x2 ≤ 0 then (((M_fewestTables_j89 x1 h).map Sum.inr)) else (if inb (x1 &&& (x2 ^^^ (-1 : Int32))) (ln 278) then (bnd (((h.1 278 (Int32.toNatClampNeg (x1 &&& (x2 ^^^ (-1 : Int32))))) + (1 : Int32))) fun y9 => if inb x1 (ln 278) then (if (h.1 278 (Int32.toNatClampNeg x1)) ≤ y9 then ((M_fewestTables_j73 x1 x2 x1 h)) else ((M_isQuiet h x2).bind fun r12 => if r12 = 0 then ((M_fewestTables_j73 x1 x2 x1 h)) else ((M_fewestTables_j79 x1 x2 x1 y9 h)))) else none) else none)
noncomputable def M_fewestTables_l29 (x1 : Int32) (x2 : Int32) (h : Hp) : Option ((Int32 × Hp) ⊕ (Int32 × Hp)) := lp (fun s : (Int32 × Hp) => M_fewestTables_b29 x1 s.1 s.2) (x2, h)
theorem M_fewestTables_l29_eq (x1 : Int32) (x2 : Int32) (h : Hp) : M_fewestTables_l29 x1 x2 h = (M_fewestTables_b29 x1 x2 h).bind (Sum.elim (fun q : (Int32 × Hp) => M_fewestTables_l29 x1 q.1 q.2) some) := lp_eq _ _
noncomputable def M_fewestTables_b9 (x1 : Int32) (h : Hp) : Option ((Int32 × Hp) ⊕ (Int32 × Hp)) := if (sh (1 : Int32) (h.1 251 25)) ≤ x1 then (((M_fewestTables_j95 h).map Sum.inr)) else (if inb x1 (ln 278) then (bnd (wr h 278 (Int32.toNatClampNeg x1) (8 : Int32)) fun h16 => (M_fewestTables_l29 x1 x1 h16)) else none)
noncomputable def M_fewestTables_l9 (x1 : Int32) (h : Hp) : Option (Int32 × Hp) := lp (fun s : (Int32 × Hp) => M_fewestTables_b9 s.1 s.2) (x1, h)
theorem M_fewestTables_l9_eq (x1 : Int32) (h : Hp) : M_fewestTables_l9 x1 h = (M_fewestTables_b9 x1 h).bind (Sum.elim (fun q : (Int32 × Hp) => M_fewestTables_l9 q.1 q.2) some) := lp_eq _ _
noncomputable def M_fewestTables (h : Hp) : Option (Int32 × Hp) := bnd (wr h 278 (Int32.toNatClampNeg (0 : Int32)) (0 : Int32)) fun h17 => (M_fewestTables_l9 (1 : Int32) h17)
set_option maxRecDepth 100000 in
set_option maxHeartbeats 4000000 in
theorem c_M_fewestTables {E : En} {d : Nat} (h : Hp) {P : (Int32 × Hp) → Prop} (hO : Okk (M_fewestTables h) P) : Cn E (d + 4) z_M_fewestTables [.ref 251] h (RI P) := by
  refine cn_of (on := 12) (d := d + 3) ⟨rfl, by decide +kernel, Nat.le_of_ble_eq_true rfl⟩ (fun G hG => ?_)
  unfold M_fewestTables at hO
  show G 0 [(0, .ref 251)] [] h
  have j95 : ∀ (h : Hp), Okk (M_fewestTables_j95 h) P → G 95 [(0, .ref 251)] [] h := by
    intro h hO
    unfold M_fewestTables_j95 at hO
    obtain ⟨g1, hO⟩ := ok_if hO
    refine rb hG 12 95 108 [.aload 0, .invokeinterface 1254 27, .ldc_w 0, .aload 0, .getfield 1225, .ishl, .ldc_w 0, .isub, .iaload] [1] [] [(0, .ref 251)] [.int (h.1 278 (Int32.toNatClampNeg ((sh (1 : Int32) (h.1 251 25)) - (1 : Int32))))] h [kd 251 = 12, kd 251 = 12, kd 278 = 20 ∧ inb ((sh (1 : Int32) (h.1 251 25)) - (1 : Int32)) (ln 278)] (by decide +kernel) rfl ⟨kd_251, kd_251, ⟨kd_278, g1⟩⟩ ?_
    exact eI hG 108 (by decide +kernel) rfl ⟨(h.1 278 (Int32.toNatClampNeg ((sh (1 : Int32) (h.1 251 25)) - (1 : Int32)))), rfl, ok_some (Q := P) hO⟩
  have l9 : ∀ (x1 : Int32) (h : Hp), Okk (M_fewestTables_l9 x1 h) P → G 9 [(0, .ref 251), (1, .int x1)] [] h := by
    intro x1 h hO
    obtain ⟨H9, eH9⟩ : ∃ q : (Int32 × Hp) → Prop, q = fun s => G 9 [(0, .ref 251), (1, .int (s.1))] [] (s.2) := ⟨_, rfl⟩
    have w9 : H9 (x1, h) := by
      refine lp_wp (f := fun s : (Int32 × Hp) => M_fewestTables_b9 s.1 s.2) (H := H9) (Q := P) ?_ (x1, h) hO
      rintro ⟨x1, h⟩ hO
      rw [eH9]
      show G 9 [(0, .ref 251), (1, .int x1)] [] h
      have k9 : ∀ s : (Int32 × Hp), H9 s → G 9 [(0, .ref 251), (1, .int (s.1))] [] (s.2) := fun s q => by rw [eH9] at q; exact q
      replace hO : Okk (M_fewestTables_b9 x1 h) (Sum.elim H9 P) := hO
      clear eH9
      have j89 : ∀ (x1 : Int32) (h : Hp), Okk (M_fewestTables_j89 x1 h) (Sum.elim H9 P) → G 89 [(0, .ref 251), (1, .int x1)] [] h := by
        intro x1 h hO
        unfold M_fewestTables_j89 at hO
        refine rbx hG 4 89 92 [.iinc 1 0] [1] [] ((x1 + (1 : Int32))) (fun y2 => [(1, .int y2), (0, .ref 251)]) (fun y2 => []) (fun y2 => h) [] (by decide +kernel) rfl trivial hO (fun y2 hO => ?_)
        refine rb hG 4 92 9 [] [] [] [(1, .int y2), (0, .ref 251)] [] h [] (by decide +kernel) rfl trivial ?_
        refine rs hG [(0, .ref 251), (1, .int y2)] [1, 0] rfl ?_
        exact k9 (y2, h) (ok_some (Q := (Sum.elim H9 P)) hO)
      have l29 : ∀ (x1 : Int32) (x2 : Int32) (h : Hp), Okk (M_fewestTables_l29 x1 x2 h) (Sum.elim H9 P) → G 29 [(0, .ref 251), (1, .int x1), (2, .int x2)] [] h := by
        intro x1 x2 h hO
        obtain ⟨H29, eH29⟩ : ∃ q : (Int32 × Hp) → Prop, q = fun s => G 29 [(0, .ref 251), (1, .int x1), (2, .int (s.1))] [] (s.2) := ⟨_, rfl⟩
        have w9 : H29 (x2, h) := by
          refine lp_wp (f := fun s : (Int32 × Hp) => M_fewestTables_b29 x1 s.1 s.2) (H := H29) (Q := (Sum.elim H9 P)) ?_ (x2, h) hO
          rintro ⟨x2, h⟩ hO
          rw [eH29]
          show G 29 [(0, .ref 251), (1, .int x1), (2, .int x2)] [] h
          have k29 : ∀ s : (Int32 × Hp), H29 s → G 29 [(0, .ref 251), (1, .int x1), (2, .int (s.1))] [] (s.2) := fun s q => by rw [eH29] at q; exact q
          replace hO : Okk (M_fewestTables_b29 x1 x2 h) (Sum.elim H29 (Sum.elim H9 P)) := hO
          clear eH29
          have j79 : ∀ (x2 : Int32) (s1 : Int32) (s2 : Int32) (h : Hp), Okk (M_fewestTables_j79 x1 x2 s1 s2 h) (Sum.elim H29 (Sum.elim H9 P)) → G 79 [(0, .ref 251), (1, .int x1), (2, .int x2)] [.int s2, .int s1, .ref 278] h := by
            intro x2 s1 s2 h hO
            unfold M_fewestTables_j79 at hO
            obtain ⟨g3, hO⟩ := ok_if hO
            refine rbx hG 4 79 80 [.iastore] [] [] (wr h 278 (Int32.toNatClampNeg s1) s2) (fun h4 => [(0, .ref 251), (1, .int x1), (2, .int x2)]) (fun h4 => []) (fun h4 => h4) [kd 278 = 20 ∧ inb s1 (ln 278)] (by decide +kernel) rfl ⟨kd_278, g3⟩ hO (fun h4 hO => ?_)
            refine rbx hG 9 80 86 [.iload 2, .ldc_w 0, .isub, .iload 1, .iand, .istore 2] [1] [] (((x2 - (1 : Int32)) &&& x1)) (fun y5 => [(2, .int y5), (0, .ref 251), (1, .int x1)]) (fun y5 => []) (fun y5 => h4) [] (by decide +kernel) rfl trivial hO (fun y5 hO => ?_)
            refine rb hG 4 86 29 [] [] [] [(2, .int y5), (0, .ref 251), (1, .int x1)] [] h4 [] (by decide +kernel) rfl trivial ?_
            refine rs hG [(0, .ref 251), (1, .int x1), (2, .int y5)] [1, 2, 0] rfl ?_
            exact k29 (y5, h4) (ok_some (Q := (Sum.elim H29 (Sum.elim H9 P))) hO)
          have j73 : ∀ (x2 : Int32) (s1 : Int32) (h : Hp), Okk (M_fewestTables_j73 x1 x2 s1 h) (Sum.elim H29 (Sum.elim H9 P)) → G 73 [(0, .ref 251), (1, .int x1), (2, .int x2)] [.int s1, .ref 278] h := by
            intro x2 s1 h hO
            unfold M_fewestTables_j73 at hO
            obtain ⟨g6, hO⟩ := ok_if hO
            refine rb hG 7 73 79 [.aload 0, .invokeinterface 1254 27, .iload 1, .iaload] [] [] [(0, .ref 251), (1, .int x1), (2, .int x2)] [.int (h.1 278 (Int32.toNatClampNeg x1)), .int s1, .ref 278] h [kd 251 = 12, kd 278 = 20 ∧ inb x1 (ln 278)] (by decide +kernel) rfl ⟨kd_251, ⟨kd_278, g6⟩⟩ ?_
            exact j79 x2 s1 (h.1 278 (Int32.toNatClampNeg x1)) h hO
          unfold M_fewestTables_b29 at hO
          refine rb hG 4 29 30 [.iload 2] [] [] [(0, .ref 251), (1, .int x1), (2, .int x2)] [.int x2] h [] (by decide +kernel) rfl trivial ?_
          refine ri hG .le (59) 89 30 (by decide +kernel) (by decide) (fun c7 => ?_) (fun c7 => ?_)
          · have hO := ok_pos c7 hO
            refine rs hG [(0, .ref 251), (1, .int x1)] [0, 1] rfl ?_
            exact j89 x1 h (ok_inr hO)
          · have hO := ok_neg c7 hO
            obtain ⟨g8, hO⟩ := ok_if hO
            refine rbx hG 14 33 46 [.aload 0, .invokeinterface 1254 27, .iload 1, .iload 2, .ldc_w 0, .ixor, .iand, .iaload, .ldc_w 1, .iadd, .istore 3] [-1, 1] [] (((h.1 278 (Int32.toNatClampNeg (x1 &&& (x2 ^^^ (-1 : Int32))))) + (1 : Int32))) (fun y9 => [(3, .int y9), (0, .ref 251), (1, .int x1), (2, .int x2)]) (fun y9 => []) (fun y9 => h) [kd 251 = 12, kd 278 = 20 ∧ inb (x1 &&& (x2 ^^^ (-1 : Int32))) (ln 278)] (by decide +kernel) rfl ⟨kd_251, ⟨kd_278, g8⟩⟩ hO (fun y9 hO => ?_)
            obtain ⟨g10, hO⟩ := ok_if hO
            refine rb hG 11 46 58 [.aload 0, .invokeinterface 1254 27, .iload 1, .iload 3, .aload 0, .invokeinterface 1254 27, .iload 1, .iaload] [] [] [(3, .int y9), (0, .ref 251), (1, .int x1), (2, .int x2)] [.int (h.1 278 (Int32.toNatClampNeg x1)), .int y9, .int x1, .ref 278] h [kd 251 = 12, kd 251 = 12, kd 278 = 20 ∧ inb x1 (ln 278)] (by decide +kernel) rfl ⟨kd_251, kd_251, ⟨kd_278, g10⟩⟩ ?_
            refine rj hG .ge (15) 73 58 (by decide +kernel) (by decide) (fun c11 => ?_) (fun c11 => ?_)
            · have hO := ok_pos c11 hO
              refine rs hG [(0, .ref 251), (1, .int x1), (2, .int x2)] [1, 2, 3] rfl ?_
              exact j73 x2 x1 h hO
            · have hO := ok_neg c11 hO
              refine rb hG 5 61 63 [.aload 0, .iload 2] [] [] [(3, .int y9), (0, .ref 251), (1, .int x1), (2, .int x2)] [.int x2, .ref 251, .int x1, .ref 278] h [] (by decide +kernel) rfl trivial ?_
              refine rv hG z_M_isQuiet 445 1 63 251 [.int x2] [.int x1, .ref 278] (by decide +kernel) mk_M_isQuiet lk_12_445 rcv_251 rfl ⟨rfl, Nat.le_of_ble_eq_true rfl⟩ (c_M_isQuiet (d := d) h x2 (ok_bind hO)) ?_
              rintro _ _ ⟨r12, rfl, rfl, hO⟩
              refine ri hG .eq (7) 73 66 (by decide +kernel) (by decide) (fun c13 => ?_) (fun c13 => ?_)
              · have hO := ok_pos c13 hO
                refine rs hG [(0, .ref 251), (1, .int x1), (2, .int x2)] [1, 2, 3] rfl ?_
                exact j73 x2 x1 h hO
              · have hO := ok_neg c13 hO
                refine rb hG 5 69 79 [.iload 3] [] [] [(3, .int y9), (0, .ref 251), (1, .int x1), (2, .int x2)] [.int y9, .int x1, .ref 278] h [] (by decide +kernel) rfl trivial ?_
                refine rs hG [(0, .ref 251), (1, .int x1), (2, .int x2)] [1, 2, 3] rfl ?_
                exact j79 x2 x1 y9 h hO
        rw [eH29] at w9
        exact w9
      unfold M_fewestTables_b9 at hO
      refine rb hG 8 9 16 [.iload 1, .ldc_w 0, .aload 0, .getfield 1225, .ishl] [1] [] [(0, .ref 251), (1, .int x1)] [.int (sh (1 : Int32) (h.1 251 25)), .int x1] h [kd 251 = 12] (by decide +kernel) rfl kd_251 ?_
      refine rj hG .ge (79) 95 16 (by decide +kernel) (by decide) (fun c14 => ?_) (fun c14 => ?_)
      · have hO := ok_pos c14 hO
        refine rs hG [(0, .ref 251)] [0] rfl ?_
        exact j95 h (ok_inr hO)
      · have hO := ok_neg c14 hO
        obtain ⟨g15, hO⟩ := ok_if hO
        refine rbx hG 8 19 27 [.aload 0, .invokeinterface 1254 27, .iload 1, .ldc_w 0, .iastore] [8] [] (wr h 278 (Int32.toNatClampNeg x1) (8 : Int32)) (fun h16 => [(0, .ref 251), (1, .int x1)]) (fun h16 => []) (fun h16 => h16) [kd 251 = 12, kd 278 = 20 ∧ inb x1 (ln 278)] (by decide +kernel) rfl ⟨kd_251, ⟨kd_278, g15⟩⟩ hO (fun h16 hO => ?_)
        refine rb hG 5 27 29 [.iload 1, .istore 2] [] [] [(2, .int x1), (0, .ref 251), (1, .int x1)] [] h16 [] (by decide +kernel) rfl trivial ?_
        refine rs hG [(0, .ref 251), (1, .int x1), (2, .int x1)] [1, 2, 0] rfl ?_
        exact l29 x1 x1 h16 hO
    rw [eH9] at w9
    exact w9
  refine rbx hG 8 0 7 [.aload 0, .invokeinterface 1254 27, .ldc_w 0, .ldc_w 0, .iastore] [0] [] (wr h 278 (Int32.toNatClampNeg (0 : Int32)) (0 : Int32)) (fun h17 => [(0, .ref 251)]) (fun h17 => []) (fun h17 => h17) [kd 251 = 12, kd 278 = 20 ∧ inb (0 : Int32) (ln 278)] (by decide +kernel) rfl ⟨kd_251, ⟨kd_278, (by decide +kernel)⟩⟩ hO (fun h17 hO => ?_)
  refine rb hG 5 7 9 [.ldc_w 0, .istore 1] [1] [] [(1, .int (1 : Int32)), (0, .ref 251)] [] h17 [] (by decide +kernel) rfl trivial ?_
  refine rs hG [(0, .ref 251), (1, .int (1 : Int32))] [1, 0] rfl ?_
  exact l9 (1 : Int32) h17 hO
/-! GrainInnModel.council(IZ)I -/
noncomputable def M_council_j74 (x3 : Int32) (h : Hp) : Option (Int32 × Hp) := some (x3, h)
noncomputable def M_council_j67 (x4 : Int32) (s0 : Int32) (h : Hp) : Option ((Int32 × Int32) ⊕ (Int32 × Hp)) := bnd ((x4 + (1 : Int32))) fun y1 => some (.inl (s0, y1))
noncomputable def M_council_j66 (x3 : Int32) (x4 : Int32) (h : Hp) : Option ((Int32 × Int32) ⊕ (Int32 × Hp)) := (M_council_j67 x4 x3 h)
noncomputable def M_council_b29 (x3 : Int32) (x4 : Int32) (h : Hp) : Option ((Int32 × Int32) ⊕ (Int32 × Hp)) := if (sh (1 : Int32) (h.1 251 25)) ≤ x4 then (((M_council_j74 x3 h).map Sum.inr)) else ((M_isQuiet h x4).bind fun r3 => if r3 = 0 then ((M_council_j66 x3 x4 h)) else ((M_ones x4).bind fun r5 => (M_ones x3).bind fun r6 => if r5 ≤ r6 then ((M_council_j66 x3 x4 h)) else ((M_council_j67 x4 x4 h))))
noncomputable def M_council_l29 (x3 : Int32) (x4 : Int32) (h : Hp) : Option (Int32 × Hp) := lp (fun s : (Int32 × Int32) => M_council_b29 s.1 s.2 h) (x3, x4)
theorem M_council_l29_eq (x3 : Int32) (x4 : Int32) (h : Hp) : M_council_l29 x3 x4 h = (M_council_b29 x3 x4 h).bind (Sum.elim (fun q : (Int32 × Int32) => M_council_l29 q.1 q.2 h) some) := lp_eq _ _
noncomputable def M_council (h : Hp) (x1 : Int32) (x2 : Int32) : Option (Int32 × Hp) := bnd (wr h 251 0 (0 : Int32)) fun h8 => (M_hand h8 x1).bind fun (r9, h10) => if r9 = 0 then (some ((-1 : Int32), h10)) else (if x2 = 0 then ((M_council_l29 (0 : Int32) (1 : Int32) h10)) else ((M_fewestTables h10).bind fun (r13, h14) => some (r13, h14)))
set_option maxRecDepth 100000 in
set_option maxHeartbeats 4000000 in
theorem c_M_council {E : En} {d : Nat} (h : Hp) (x1 : Int32) (x2 : Int32) {P : (Int32 × Hp) → Prop} (hO : Okk (M_council h x1 x2) P) : Cn E (d + 5) z_M_council [.ref 251, .int x1, .int x2] h (RI P) := by
  refine cn_of (on := 12) (d := d + 4) ⟨rfl, by decide +kernel, Nat.le_of_ble_eq_true rfl⟩ (fun G hG => ?_)
  unfold M_council at hO
  show G 0 [(0, .ref 251), (1, .int x1), (2, .int x2)] [] h
  have j74 : ∀ (x3 : Int32) (h : Hp), Okk (M_council_j74 x3 h) P → G 74 [(3, .int x3)] [] h := by
    intro x3 h hO
    unfold M_council_j74 at hO
    refine rb hG 4 74 75 [.iload 3] [] [] [(3, .int x3)] [.int x3] h [] (by decide +kernel) rfl trivial ?_
    exact eI hG 75 (by decide +kernel) rfl ⟨x3, rfl, ok_some (Q := P) hO⟩
  have l29 : ∀ (x3 : Int32) (x4 : Int32) (h : Hp), Okk (M_council_l29 x3 x4 h) P → G 29 [(0, .ref 251), (3, .int x3), (4, .int x4)] [] h := by
    intro x3 x4 h hO
    obtain ⟨H29, eH29⟩ : ∃ q : (Int32 × Int32) → Prop, q = fun s => G 29 [(0, .ref 251), (3, .int (s.1)), (4, .int (s.2))] [] (h) := ⟨_, rfl⟩
    have w9 : H29 (x3, x4) := by
      refine lp_wp (f := fun s : (Int32 × Int32) => M_council_b29 s.1 s.2 h) (H := H29) (Q := P) ?_ (x3, x4) hO
      rintro ⟨x3, x4⟩ hO
      rw [eH29]
      show G 29 [(0, .ref 251), (3, .int x3), (4, .int x4)] [] h
      have k29 : ∀ s : (Int32 × Int32), H29 s → G 29 [(0, .ref 251), (3, .int (s.1)), (4, .int (s.2))] [] (h) := fun s q => by rw [eH29] at q; exact q
      replace hO : Okk (M_council_b29 x3 x4 h) (Sum.elim H29 P) := hO
      clear eH29
      have j67 : ∀ (x4 : Int32) (s0 : Int32), Okk (M_council_j67 x4 s0 h) (Sum.elim H29 P) → G 67 [(0, .ref 251), (4, .int x4)] [.int s0] h := by
        intro x4 s0 hO
        unfold M_council_j67 at hO
        refine rbx hG 5 67 71 [.istore 3, .iinc 4 0] [1] [] ((x4 + (1 : Int32))) (fun y1 => [(4, .int y1), (3, .int s0), (0, .ref 251)]) (fun y1 => []) (fun y1 => h) [] (by decide +kernel) rfl trivial hO (fun y1 hO => ?_)
        refine rb hG 4 71 29 [] [] [] [(4, .int y1), (3, .int s0), (0, .ref 251)] [] h [] (by decide +kernel) rfl trivial ?_
        refine rs hG [(0, .ref 251), (3, .int s0), (4, .int y1)] [2, 1, 0] rfl ?_
        exact k29 (s0, y1) (ok_some (Q := (Sum.elim H29 P)) hO)
      have j66 : ∀ (x3 : Int32) (x4 : Int32), Okk (M_council_j66 x3 x4 h) (Sum.elim H29 P) → G 66 [(0, .ref 251), (3, .int x3), (4, .int x4)] [] h := by
        intro x3 x4 hO
        unfold M_council_j66 at hO
        refine rb hG 4 66 67 [.iload 3] [] [] [(0, .ref 251), (3, .int x3), (4, .int x4)] [.int x3] h [] (by decide +kernel) rfl trivial ?_
        refine rs hG [(0, .ref 251), (4, .int x4)] [0, 2] rfl ?_
        exact j67 x4 x3 hO
      unfold M_council_b29 at hO
      refine rb hG 8 29 37 [.iload 4, .ldc_w 0, .aload 0, .getfield 1225, .ishl] [1] [] [(0, .ref 251), (3, .int x3), (4, .int x4)] [.int (sh (1 : Int32) (h.1 251 25)), .int x4] h [kd 251 = 12] (by decide +kernel) rfl kd_251 ?_
      refine rj hG .ge (37) 74 37 (by decide +kernel) (by decide) (fun c2 => ?_) (fun c2 => ?_)
      · have hO := ok_pos c2 hO
        refine rs hG [(3, .int x3)] [1] rfl ?_
        exact j74 x3 h (ok_inr hO)
      · have hO := ok_neg c2 hO
        refine rb hG 5 40 43 [.aload 0, .iload 4] [] [] [(0, .ref 251), (3, .int x3), (4, .int x4)] [.int x4, .ref 251] h [] (by decide +kernel) rfl trivial ?_
        refine rv hG z_M_isQuiet 445 1 43 251 [.int x4] [] (by decide +kernel) mk_M_isQuiet lk_12_445 rcv_251 rfl ⟨rfl, Nat.le_of_ble_eq_true rfl⟩ (c_M_isQuiet (d := d + 1) h x4 (ok_bind hO)) ?_
        rintro _ _ ⟨r3, rfl, rfl, hO⟩
        refine ri hG .eq (20) 66 46 (by decide +kernel) (by decide) (fun c4 => ?_) (fun c4 => ?_)
        · have hO := ok_pos c4 hO
          exact j66 x3 x4 hO
        · have hO := ok_neg c4 hO
          refine rb hG 4 49 51 [.iload 4] [] [] [(0, .ref 251), (3, .int x3), (4, .int x4)] [.int x4] h [] (by decide +kernel) rfl trivial ?_
          refine rt hG z_M_ones 347 1 51 [.int x4] [] (by decide +kernel) mk_M_ones lk_12_347 rfl ⟨rfl, Nat.le_of_ble_eq_true rfl⟩ (c_M_ones (d := d + 2) h x4 (ok_bind hO)) ?_
          rintro _ _ ⟨r5, rfl, rfl, hO⟩
          refine rb hG 4 54 55 [.iload 3] [] [] [(0, .ref 251), (3, .int x3), (4, .int x4)] [.int x3, .int r5] h [] (by decide +kernel) rfl trivial ?_
          refine rt hG z_M_ones 347 1 55 [.int x3] [.int r5] (by decide +kernel) mk_M_ones lk_12_347 rfl ⟨rfl, Nat.le_of_ble_eq_true rfl⟩ (c_M_ones (d := d + 2) h x3 (ok_bind hO)) ?_
          rintro _ _ ⟨r6, rfl, rfl, hO⟩
          refine rj hG .le (8) 66 58 (by decide +kernel) (by decide) (fun c7 => ?_) (fun c7 => ?_)
          · have hO := ok_pos c7 hO
            exact j66 x3 x4 hO
          · have hO := ok_neg c7 hO
            refine rb hG 5 61 67 [.iload 4] [] [] [(0, .ref 251), (3, .int x3), (4, .int x4)] [.int x4] h [] (by decide +kernel) rfl trivial ?_
            refine rs hG [(0, .ref 251), (4, .int x4)] [0, 2] rfl ?_
            exact j67 x4 x4 hO
    rw [eH29] at w9
    exact w9
  refine rbx hG 6 0 5 [.aload 0, .ldc_w 0, .putfield 1200] [0] [] (wr h 251 0 (0 : Int32)) (fun h8 => [(0, .ref 251), (1, .int x1), (2, .int x2)]) (fun h8 => []) (fun h8 => h8) [kd 251 = 12] (by decide +kernel) rfl kd_251 hO (fun h8 hO => ?_)
  refine rb hG 5 5 7 [.aload 0, .iload 1] [] [] [(0, .ref 251), (1, .int x1), (2, .int x2)] [.int x1, .ref 251] h8 [] (by decide +kernel) rfl trivial ?_
  refine rv hG z_M_hand 280 1 7 251 [.int x1] [] (by decide +kernel) mk_M_hand lk_12_280 rcv_251 rfl ⟨rfl, Nat.le_of_ble_eq_true rfl⟩ (c_M_hand (d := d + 1) h8 x1 (ok_bind hO)) ?_
  rintro _ h10 ⟨r9, rfl, hO⟩
  refine riN hG (5) 15 10 (by decide +kernel) (by decide) (fun c11 => ?_) (fun c11 => ?_)
  · have hO := ok_pos c11 hO
    refine rb hG 4 13 14 [.ldc_w 0] [-1] [] [(0, .ref 251), (1, .int x1), (2, .int x2)] [.int (-1 : Int32)] h10 [] (by decide +kernel) rfl trivial ?_
    exact eI hG 14 (by decide +kernel) rfl ⟨(-1 : Int32), rfl, ok_some (Q := P) hO⟩
  · have hO := ok_neg c11 hO
    refine rb hG 4 15 16 [.iload 2] [] [] [(0, .ref 251), (1, .int x1), (2, .int x2)] [.int x2] h10 [] (by decide +kernel) rfl trivial ?_
    refine ri hG .eq (8) 24 16 (by decide +kernel) (by decide) (fun c12 => ?_) (fun c12 => ?_)
    · have hO := ok_pos c12 hO
      refine rb hG 7 24 29 [.ldc_w 0, .istore 3, .ldc_w 1, .istore 4] [0, 1] [] [(4, .int (1 : Int32)), (3, .int (0 : Int32)), (0, .ref 251), (1, .int x1), (2, .int x2)] [] h10 [] (by decide +kernel) rfl trivial ?_
      refine rs hG [(0, .ref 251), (3, .int (0 : Int32)), (4, .int (1 : Int32))] [2, 1, 0] rfl ?_
      exact l29 (0 : Int32) (1 : Int32) h10 hO
    · have hO := ok_neg c12 hO
      refine rb hG 4 19 20 [.aload 0] [] [] [(0, .ref 251), (1, .int x1), (2, .int x2)] [.ref 251] h10 [] (by decide +kernel) rfl trivial ?_
      refine rv hG z_M_fewestTables 491 0 20 251 [] [] (by decide +kernel) mk_M_fewestTables lk_12_491 rcv_251 rfl ⟨rfl, Nat.le_of_ble_eq_true rfl⟩ (c_M_fewestTables (d := d) h10 (ok_bind hO)) ?_
      rintro _ h14 ⟨r13, rfl, hO⟩
      exact eI hG 23 (by decide +kernel) rfl ⟨r13, rfl, ok_some (Q := P) hO⟩
