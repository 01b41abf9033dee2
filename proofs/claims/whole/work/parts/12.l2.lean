/-! GrainInn.follow(LGrainInn$House;LGrainInn$Lines;I)I -/
noncomputable def K_follow_j45 (x1 : Nat) (x2 : Nat) (x4 : Int32) (h : Hp) : Option (Int32 × Hp) := some (x4, h)
noncomputable def K_follow_b11 (x1 : Nat) (x2 : Nat) (x3 : Int32) (x4 : Int32) (h : Hp) : Option ((Int32 × Hp) ⊕ (Int32 × Hp)) := if x3 ≤ x4 then (((K_follow_j45 x1 x2 x4 h).map Sum.inr)) else (if kd x2 = 2 then (if (h.1 x2 3) ≤ x4 then (((K_follow_j45 x1 x2 x4 h).map Sum.inr)) else ((S_follows h x2 x4).bind fun (r4, h5) => if r4 = 0 then (((K_follow_j45 x1 x2 x4 h5).map Sum.inr)) else (bnd ((x4 + (1 : Int32))) fun y7 => some (.inl (y7, h5))))) else none)
noncomputable def K_follow_l11 (x1 : Nat) (x2 : Nat) (x3 : Int32) (x4 : Int32) (h : Hp) : Option (Int32 × Hp) := lp (fun s : (Int32 × Hp) => K_follow_b11 x1 x2 x3 s.1 s.2) (x4, h)
theorem K_follow_l11_eq (x1 : Nat) (x2 : Nat) (x3 : Int32) (x4 : Int32) (h : Hp) : K_follow_l11 x1 x2 x3 x4 h = (K_follow_b11 x1 x2 x3 x4 h).bind (Sum.elim (fun q : (Int32 × Hp) => K_follow_l11 x1 x2 x3 q.1 q.2) some) := lp_eq _ _
noncomputable def K_follow (h : Hp) (x1 : Nat) (x2 : Nat) (x3 : Int32) : Option (Int32 × Hp) := (S_begin h x1).bind fun h8 => (K_follow_l11 x1 x2 x3 (0 : Int32) h8)
set_option maxRecDepth 100000 in
set_option maxHeartbeats 4000000 in
theorem c_K_follow {E : En} {d : Nat} (h : Hp) (x1 : Nat) (x2 : Nat) (x3 : Int32) {P : (Int32 × Hp) → Prop} (hO : Okk (K_follow h x1 x2 x3) P) : Cn E (d + 6) z_K_follow [.ref 1, .ref x1, .ref x2, .int x3] h (RI P) := by
  refine cn_of (on := 11) (d := d + 5) ⟨rfl, by decide +kernel, Nat.le_of_ble_eq_true rfl⟩ (fun G hG => ?_)
  unfold K_follow at hO
  show G 0 [(0, .ref 1), (1, .ref x1), (2, .ref x2), (3, .int x3)] [] h
  have j45 : ∀ (x4 : Int32) (h : Hp), Okk (K_follow_j45 x1 x2 x4 h) P → G 45 [(4, .int x4)] [] h := by
    intro x4 h hO
    unfold K_follow_j45 at hO
    refine rb hG 4 45 47 [.iload 4] [] [] [(4, .int x4)] [.int x4] h [] (by decide +kernel) rfl trivial ?_
    exact eI hG 47 (by decide +kernel) rfl ⟨x4, rfl, ok_some (Q := P) hO⟩
  have l11 : ∀ (x4 : Int32) (h : Hp), Okk (K_follow_l11 x1 x2 x3 x4 h) P → G 11 [(0, .ref 1), (2, .ref x2), (3, .int x3), (4, .int x4)] [] h := by
    intro x4 h hO
    obtain ⟨H11, eH11⟩ : ∃ q : (Int32 × Hp) → Prop, q = fun s => G 11 [(0, .ref 1), (2, .ref x2), (3, .int x3), (4, .int (s.1))] [] (s.2) := ⟨_, rfl⟩
    have w9 : H11 (x4, h) := by
      refine lp_wp (f := fun s : (Int32 × Hp) => K_follow_b11 x1 x2 x3 s.1 s.2) (H := H11) (Q := P) ?_ (x4, h) hO
      rintro ⟨x4, h⟩ hO
      rw [eH11]
      show G 11 [(0, .ref 1), (2, .ref x2), (3, .int x3), (4, .int x4)] [] h
      have k11 : ∀ s : (Int32 × Hp), H11 s → G 11 [(0, .ref 1), (2, .ref x2), (3, .int x3), (4, .int (s.1))] [] (s.2) := fun s q => by rw [eH11] at q; exact q
      replace hO : Okk (K_follow_b11 x1 x2 x3 x4 h) (Sum.elim H11 P) := hO
      clear eH11
      unfold K_follow_b11 at hO
      refine rb hG 5 11 14 [.iload 4, .iload 3] [] [] [(0, .ref 1), (2, .ref x2), (3, .int x3), (4, .int x4)] [.int x3, .int x4] h [] (by decide +kernel) rfl trivial ?_
      refine rj hG .ge (31) 45 14 (by decide +kernel) (by decide) (fun c1 => ?_) (fun c1 => ?_)
      · have hO := ok_pos c1 hO
        refine rs hG [(4, .int x4)] [3] rfl ?_
        exact j45 x4 h (ok_inr hO)
      · have hO := ok_neg c1 hO
        obtain ⟨g2, hO⟩ := ok_if hO
        refine rb hG 6 17 23 [.iload 4, .aload 2, .getfield 203] [] [] [(0, .ref 1), (2, .ref x2), (3, .int x3), (4, .int x4)] [.int (h.1 x2 3), .int x4] h [kd x2 = 2] (by decide +kernel) rfl g2 ?_
        refine rj hG .ge (22) 45 23 (by decide +kernel) (by decide) (fun c3 => ?_) (fun c3 => ?_)
        · have hO := ok_pos c3 hO
          refine rs hG [(4, .int x4)] [3] rfl ?_
          exact j45 x4 h (ok_inr hO)
        · have hO := ok_neg c3 hO
          refine rb hG 7 26 33 [.aload 0, .invokeinterface 1104 56, .aload 2, .iload 4] [] [] [(0, .ref 1), (2, .ref x2), (3, .int x3), (4, .int x4)] [.int x4, .ref x2, .ref 57] h [kd 1 = 11] (by decide +kernel) rfl kd_1 ?_
          refine rv hG z_S_follows 377 2 33 57 [.ref x2, .int x4] [] (by decide +kernel) mk_S_follows lk_11_377 rcv_57 rfl ⟨rfl, Nat.le_of_ble_eq_true rfl⟩ (c_S_follows (d := d) h x2 x4 (ok_bind hO)) ?_
          rintro _ h5 ⟨r4, rfl, hO⟩
          refine ri hG .eq (9) 45 36 (by decide +kernel) (by decide) (fun c6 => ?_) (fun c6 => ?_)
          · have hO := ok_pos c6 hO
            refine rs hG [(4, .int x4)] [3] rfl ?_
            exact j45 x4 h5 (ok_inr hO)
          · have hO := ok_neg c6 hO
            refine rbx hG 4 39 42 [.iinc 4 0] [1] [] ((x4 + (1 : Int32))) (fun y7 => [(4, .int y7), (0, .ref 1), (2, .ref x2), (3, .int x3)]) (fun y7 => []) (fun y7 => h5) [] (by decide +kernel) rfl trivial hO (fun y7 hO => ?_)
            refine rb hG 4 42 11 [] [] [] [(4, .int y7), (0, .ref 1), (2, .ref x2), (3, .int x3)] [] h5 [] (by decide +kernel) rfl trivial ?_
            refine rs hG [(0, .ref 1), (2, .ref x2), (3, .int x3), (4, .int y7)] [1, 2, 3, 0] rfl ?_
            exact k11 (y7, h5) (ok_some (Q := (Sum.elim H11 P)) hO)
    rw [eH11] at w9
    exact w9
  refine rb hG 6 0 5 [.aload 0, .invokeinterface 1104 56, .aload 1] [] [] [(0, .ref 1), (1, .ref x1), (2, .ref x2), (3, .int x3)] [.ref x1, .ref 57] h [kd 1 = 11] (by decide +kernel) rfl kd_1 ?_
  refine rv hG z_S_begin 373 1 5 57 [.ref x1] [] (by decide +kernel) mk_S_begin lk_11_373 rcv_57 rfl ⟨rfl, Nat.le_of_ble_eq_true rfl⟩ (c_S_begin (d := d + 3) h x1 (ok_bind hO)) ?_
  rintro _ h8 ⟨rfl, hO⟩
  refine rb hG 5 8 11 [.ldc_w 0, .istore 4] [0] [] [(4, .int (0 : Int32)), (0, .ref 1), (1, .ref x1), (2, .ref x2), (3, .int x3)] [] h8 [] (by decide +kernel) rfl trivial ?_
  refine rs hG [(0, .ref 1), (2, .ref x2), (3, .int x3), (4, .int (0 : Int32))] [1, 3, 4, 0] rfl ?_
  exact l11 (0 : Int32) h8 hO
/-! GrainInn.stop(II)I -/
noncomputable def K_stop_j29 (h : Hp) : Option (Int32 × Hp) := some ((-1 : Int32), h)
noncomputable def K_stop (h : Hp) (x1 : Int32) (x2 : Int32) : Option (Int32 × Hp) := (D_innAt h 2 x1).bind fun r1 => (D_linesAt h 2 (1 : Int32) x2).bind fun r2 => if r1 = 0 then ((K_stop_j29 h)) else (if r2 = 0 then ((K_stop_j29 h)) else (if kd r2 = 2 then ((K_follow h r1 r2 (h.1 r2 3)).bind fun (r6, h7) => some (r6, h7)) else none))
set_option maxRecDepth 100000 in
set_option maxHeartbeats 4000000 in
theorem c_K_stop {E : En} {d : Nat} (h : Hp) (x1 : Int32) (x2 : Int32) {P : (Int32 × Hp) → Prop} (hO : Okk (K_stop h x1 x2) P) : Cn E (d + 7) z_K_stop [.ref 1, .int x1, .int x2] h (RI P) := by
  refine cn_of (on := 11) (d := d + 6) ⟨rfl, by decide +kernel, Nat.le_of_ble_eq_true rfl⟩ (fun G hG => ?_)
  unfold K_stop at hO
  show G 0 [(0, .ref 1), (1, .int x1), (2, .int x2)] [] h
  have j29 : ∀ (h : Hp), Okk (K_stop_j29 h) P → G 29 [] [] h := by
    intro h hO
    unfold K_stop_j29 at hO
    refine rb hG 4 29 30 [.ldc_w 0] [-1] [] [] [.int (-1 : Int32)] h [] (by decide +kernel) rfl trivial ?_
    exact eI hG 30 (by decide +kernel) rfl ⟨(-1 : Int32), rfl, ok_some (Q := P) hO⟩
  refine rb hG 6 0 5 [.aload 0, .invokeinterface 1100 1, .iload 1] [] [] [(0, .ref 1), (1, .int x1), (2, .int x2)] [.int x1, .ref 2] h [kd 1 = 11] (by decide +kernel) rfl kd_1 ?_
  refine rv hG z_D_innAt 107 1 5 2 [.int x1] [] (by decide +kernel) mk_D_innAt lk_11_107 rcv_2 rfl ⟨rfl, Nat.le_of_ble_eq_true rfl⟩ (c_D_innAt (d := d + 2) h 2 x1 (ok_bind hO)) ?_
  rintro _ _ ⟨r1, rfl, rfl, hO⟩
  refine rb hG 8 8 15 [.astore 3, .aload 0, .invokeinterface 1100 1, .ldc_w 0, .iload 2] [1] [] [(3, .ref r1), (0, .ref 1), (1, .int x1), (2, .int x2)] [.int x2, .int (1 : Int32), .ref 2] h [kd 1 = 11] (by decide +kernel) rfl kd_1 ?_
  refine rv hG z_D_linesAt 138 2 15 2 [.int (1 : Int32), .int x2] [] (by decide +kernel) mk_D_linesAt lk_11_138 rcv_2 rfl ⟨rfl, Nat.le_of_ble_eq_true rfl⟩ (c_D_linesAt (d := d + 2) h 2 (1 : Int32) x2 (ok_bind hO)) ?_
  rintro _ _ ⟨r2, rfl, rfl, hO⟩
  refine rb hG 5 18 21 [.astore 4, .aload 3] [] [] [(4, .ref r2), (3, .ref r1), (0, .ref 1), (1, .int x1), (2, .int x2)] [.ref r1] h [] (by decide +kernel) rfl trivial ?_
  refine rn hG (8) 29 21 (by decide +kernel) (by decide) (fun c3 => ?_) (fun c3 => ?_)
  · have hO := ok_pos c3 hO
    refine rs hG [] [] rfl ?_
    exact j29 h hO
  · have hO := ok_neg c3 hO
    refine rb hG 4 24 26 [.aload 4] [] [] [(4, .ref r2), (3, .ref r1), (0, .ref 1), (1, .int x1), (2, .int x2)] [.ref r2] h [] (by decide +kernel) rfl trivial ?_
    refine rnn hG (5) 31 26 (by decide +kernel) (by decide) (fun c4 => ?_) (fun c4 => ?_)
    · have hO := ok_pos c4 hO
      refine rs hG [] [] rfl ?_
      exact j29 h hO
    · have hO := ok_neg c4 hO
      obtain ⟨g5, hO⟩ := ok_if hO
      refine rb hG 8 31 40 [.aload 0, .aload 3, .aload 4, .aload 4, .getfield 203] [] [] [(4, .ref r2), (3, .ref r1), (0, .ref 1), (1, .int x1), (2, .int x2)] [.int (h.1 r2 3), .ref r2, .ref r1, .ref 1] h [kd r2 = 2] (by decide +kernel) rfl g5 ?_
      refine rv hG z_K_follow 151 3 40 1 [.ref r1, .ref r2, .int (h.1 r2 3)] [] (by decide +kernel) mk_K_follow lk_11_151 rcv_1 rfl ⟨rfl, Nat.le_of_ble_eq_true rfl⟩ (c_K_follow (d := d) h r1 r2 (h.1 r2 3) (ok_bind hO)) ?_
      rintro _ h7 ⟨r6, rfl, hO⟩
      exact eI hG 43 (by decide +kernel) rfl ⟨r6, rfl, ok_some (Q := P) hO⟩
/-! GrainInnModel.begin()V -/
noncomputable def M_begin_j97 (h : Hp) : Option Hp := bnd (wr h 251 38 (0 : Int32)) fun h1 => bnd (wr h1 251 39 (0 : Int32)) fun h2 => bnd (wr h2 251 40 (0 : Int32)) fun h3 => some h3
noncomputable def M_begin_b78 (x1 : Int32) (h : Hp) : Option ((Int32 × Hp) ⊕ Hp) := if (64 : Int32) ≤ x1 then (((M_begin_j97 h).map Sum.inr)) else (if inb x1 (ln 272) then (bnd (wr h 272 (Int32.toNatClampNeg x1) (0 : Int32)) fun h6 => bnd ((x1 + (1 : Int32))) fun y7 => some (.inl (y7, h6))) else none)
noncomputable def M_begin_l78 (x1 : Int32) (h : Hp) : Option Hp := lp (fun s : (Int32 × Hp) => M_begin_b78 s.1 s.2) (x1, h)
theorem M_begin_l78_eq (x1 : Int32) (h : Hp) : M_begin_l78 x1 h = (M_begin_b78 x1 h).bind (Sum.elim (fun q : (Int32 × Hp) => M_begin_l78 q.1 q.2) some) := lp_eq _ _
noncomputable def M_begin_j76 (h : Hp) : Option Hp := (M_begin_l78 (0 : Int32) h)
noncomputable def M_begin_b43 (x1 : Int32) (h : Hp) : Option ((Int32 × Hp) ⊕ Hp) := if (8 : Int32) ≤ x1 then (((M_begin_j76 h).map Sum.inr)) else (if inb x1 (ln 270) then (bnd (wr h 270 (Int32.toNatClampNeg x1) (0 : Int32)) fun h10 => if inb x1 (ln 271) then (bnd (wr h10 271 (Int32.toNatClampNeg x1) (0 : Int32)) fun h12 => if inb x1 (ln 273) then (bnd (wr h12 273 (Int32.toNatClampNeg x1) (0 : Int32)) fun h14 => bnd ((x1 + (1 : Int32))) fun y15 => some (.inl (y15, h14))) else none) else none) else none)
noncomputable def M_begin_l43 (x1 : Int32) (h : Hp) : Option Hp := lp (fun s : (Int32 × Hp) => M_begin_b43 s.1 s.2) (x1, h)
theorem M_begin_l43_eq (x1 : Int32) (h : Hp) : M_begin_l43 x1 h = (M_begin_b43 x1 h).bind (Sum.elim (fun q : (Int32 × Hp) => M_begin_l43 q.1 q.2) some) := lp_eq _ _
noncomputable def M_begin_j41 (h : Hp) : Option Hp := (M_begin_l43 (0 : Int32) h)
noncomputable def M_begin_b2 (x1 : Int32) (h : Hp) : Option ((Int32 × Hp) ⊕ Hp) := if (5 : Int32) ≤ x1 then (((M_begin_j41 h).map Sum.inr)) else (if inb x1 (ln 266) then (bnd (wr h 266 (Int32.toNatClampNeg x1) (0 : Int32)) fun h18 => if inb x1 (ln 267) then (bnd (wr h18 267 (Int32.toNatClampNeg x1) (0 : Int32)) fun h20 => if inb x1 (ln 268) then (bnd (wr h20 268 (Int32.toNatClampNeg x1) (0 : Int32)) fun h22 => if inb x1 (ln 269) then (bnd (wr h22 269 (Int32.toNatClampNeg x1) (0 : Int32)) fun h24 => bnd ((x1 + (1 : Int32))) fun y25 => some (.inl (y25, h24))) else none) else none) else none) else none)
noncomputable def M_begin_l2 (x1 : Int32) (h : Hp) : Option Hp := lp (fun s : (Int32 × Hp) => M_begin_b2 s.1 s.2) (x1, h)
theorem M_begin_l2_eq (x1 : Int32) (h : Hp) : M_begin_l2 x1 h = (M_begin_b2 x1 h).bind (Sum.elim (fun q : (Int32 × Hp) => M_begin_l2 q.1 q.2) some) := lp_eq _ _
noncomputable def M_begin (h : Hp) : Option Hp := (M_begin_l2 (0 : Int32) h)
set_option maxRecDepth 100000 in
set_option maxHeartbeats 4000000 in
theorem c_M_begin {E : En} {d : Nat} (h : Hp) {P : Hp → Prop} (hO : Okk (M_begin h) P) : Cn E (d + 1) z_M_begin [.ref 251] h (RV P) := by
  refine cn_of (on := 12) (d := d + 0) ⟨rfl, by decide +kernel, Nat.le_of_ble_eq_true rfl⟩ (fun G hG => ?_)
  unfold M_begin at hO
  show G 0 [(0, .ref 251)] [] h
  have j97 : ∀ (h : Hp), Okk (M_begin_j97 h) P → G 97 [(0, .ref 251)] [] h := by
    intro h hO
    unfold M_begin_j97 at hO
    refine rbx hG 6 97 102 [.aload 0, .ldc_w 0, .putfield 1238] [0] [] (wr h 251 38 (0 : Int32)) (fun h1 => [(0, .ref 251)]) (fun h1 => []) (fun h1 => h1) [kd 251 = 12] (by decide +kernel) rfl kd_251 hO (fun h1 hO => ?_)
    refine rbx hG 6 102 107 [.aload 0, .ldc_w 0, .putfield 1239] [0] [] (wr h1 251 39 (0 : Int32)) (fun h2 => [(0, .ref 251)]) (fun h2 => []) (fun h2 => h2) [kd 251 = 12] (by decide +kernel) rfl kd_251 hO (fun h2 hO => ?_)
    refine rbx hG 6 107 112 [.aload 0, .ldc_w 0, .putfield 1240] [0] [] (wr h2 251 40 (0 : Int32)) (fun h3 => [(0, .ref 251)]) (fun h3 => []) (fun h3 => h3) [kd 251 = 12] (by decide +kernel) rfl kd_251 hO (fun h3 hO => ?_)
    exact eV hG 112 (by decide +kernel) rfl ⟨rfl, ok_some (Q := P) hO⟩
  have l78 : ∀ (x1 : Int32) (h : Hp), Okk (M_begin_l78 x1 h) P → G 78 [(0, .ref 251), (1, .int x1)] [] h := by
    intro x1 h hO
    obtain ⟨H78, eH78⟩ : ∃ q : (Int32 × Hp) → Prop, q = fun s => G 78 [(0, .ref 251), (1, .int (s.1))] [] (s.2) := ⟨_, rfl⟩
    have w9 : H78 (x1, h) := by
      refine lp_wp (f := fun s : (Int32 × Hp) => M_begin_b78 s.1 s.2) (H := H78) (Q := P) ?_ (x1, h) hO
      rintro ⟨x1, h⟩ hO
      rw [eH78]
      show G 78 [(0, .ref 251), (1, .int x1)] [] h
      have k78 : ∀ s : (Int32 × Hp), H78 s → G 78 [(0, .ref 251), (1, .int (s.1))] [] (s.2) := fun s q => by rw [eH78] at q; exact q
      replace hO : Okk (M_begin_b78 x1 h) (Sum.elim H78 P) := hO
      clear eH78
      unfold M_begin_b78 at hO
      refine rb hG 5 78 81 [.iload 1, .ldc_w 0] [64] [] [(0, .ref 251), (1, .int x1)] [.int (64 : Int32), .int x1] h [] (by decide +kernel) rfl trivial ?_
      refine rj hG .ge (16) 97 81 (by decide +kernel) (by decide) (fun c4 => ?_) (fun c4 => ?_)
      · have hO := ok_pos c4 hO
        refine rs hG [(0, .ref 251)] [0] rfl ?_
        exact j97 h (ok_inr hO)
      · have hO := ok_neg c4 hO
        obtain ⟨g5, hO⟩ := ok_if hO
        refine rbx hG 8 84 91 [.aload 0, .invokeinterface 1236 21, .iload 1, .ldc_w 0, .iastore] [0] [] (wr h 272 (Int32.toNatClampNeg x1) (0 : Int32)) (fun h6 => [(0, .ref 251), (1, .int x1)]) (fun h6 => []) (fun h6 => h6) [kd 251 = 12, kd 272 = 20 ∧ inb x1 (ln 272)] (by decide +kernel) rfl ⟨kd_251, ⟨kd_272, g5⟩⟩ hO (fun h6 hO => ?_)
        refine rbx hG 4 91 94 [.iinc 1 0] [1] [] ((x1 + (1 : Int32))) (fun y7 => [(1, .int y7), (0, .ref 251)]) (fun y7 => []) (fun y7 => h6) [] (by decide +kernel) rfl trivial hO (fun y7 hO => ?_)
        refine rb hG 4 94 78 [] [] [] [(1, .int y7), (0, .ref 251)] [] h6 [] (by decide +kernel) rfl trivial ?_
        refine rs hG [(0, .ref 251), (1, .int y7)] [1, 0] rfl ?_
        exact k78 (y7, h6) (ok_some (Q := (Sum.elim H78 P)) hO)
    rw [eH78] at w9
    exact w9
  have j76 : ∀ (h : Hp), Okk (M_begin_j76 h) P → G 76 [(0, .ref 251)] [] h := by
    intro h hO
    unfold M_begin_j76 at hO
    refine rb hG 5 76 78 [.ldc_w 0, .istore 1] [0] [] [(1, .int (0 : Int32)), (0, .ref 251)] [] h [] (by decide +kernel) rfl trivial ?_
    refine rs hG [(0, .ref 251), (1, .int (0 : Int32))] [1, 0] rfl ?_
    exact l78 (0 : Int32) h hO
  have l43 : ∀ (x1 : Int32) (h : Hp), Okk (M_begin_l43 x1 h) P → G 43 [(0, .ref 251), (1, .int x1)] [] h := by
    intro x1 h hO
    obtain ⟨H43, eH43⟩ : ∃ q : (Int32 × Hp) → Prop, q = fun s => G 43 [(0, .ref 251), (1, .int (s.1))] [] (s.2) := ⟨_, rfl⟩
    have w9 : H43 (x1, h) := by
      refine lp_wp (f := fun s : (Int32 × Hp) => M_begin_b43 s.1 s.2) (H := H43) (Q := P) ?_ (x1, h) hO
      rintro ⟨x1, h⟩ hO
      rw [eH43]
      show G 43 [(0, .ref 251), (1, .int x1)] [] h
      have k43 : ∀ s : (Int32 × Hp), H43 s → G 43 [(0, .ref 251), (1, .int (s.1))] [] (s.2) := fun s q => by rw [eH43] at q; exact q
      replace hO : Okk (M_begin_b43 x1 h) (Sum.elim H43 P) := hO
      clear eH43
      unfold M_begin_b43 at hO
      refine rb hG 5 43 46 [.iload 1, .ldc_w 0] [8] [] [(0, .ref 251), (1, .int x1)] [.int (8 : Int32), .int x1] h [] (by decide +kernel) rfl trivial ?_
      refine rj hG .ge (30) 76 46 (by decide +kernel) (by decide) (fun c8 => ?_) (fun c8 => ?_)
      · have hO := ok_pos c8 hO
        refine rs hG [(0, .ref 251)] [0] rfl ?_
        exact j76 h (ok_inr hO)
      · have hO := ok_neg c8 hO
        obtain ⟨g9, hO⟩ := ok_if hO
        refine rbx hG 8 49 56 [.aload 0, .invokeinterface 1234 19, .iload 1, .ldc_w 0, .iastore] [0] [] (wr h 270 (Int32.toNatClampNeg x1) (0 : Int32)) (fun h10 => [(0, .ref 251), (1, .int x1)]) (fun h10 => []) (fun h10 => h10) [kd 251 = 12, kd 270 = 20 ∧ inb x1 (ln 270)] (by decide +kernel) rfl ⟨kd_251, ⟨kd_270, g9⟩⟩ hO (fun h10 hO => ?_)
        obtain ⟨g11, hO⟩ := ok_if hO
        refine rbx hG 8 56 63 [.aload 0, .invokeinterface 1235 20, .iload 1, .ldc_w 0, .iastore] [0] [] (wr h10 271 (Int32.toNatClampNeg x1) (0 : Int32)) (fun h12 => [(0, .ref 251), (1, .int x1)]) (fun h12 => []) (fun h12 => h12) [kd 251 = 12, kd 271 = 20 ∧ inb x1 (ln 271)] (by decide +kernel) rfl ⟨kd_251, ⟨kd_271, g11⟩⟩ hO (fun h12 hO => ?_)
        obtain ⟨g13, hO⟩ := ok_if hO
        refine rbx hG 8 63 70 [.aload 0, .invokeinterface 1237 22, .iload 1, .ldc_w 0, .iastore] [0] [] (wr h12 273 (Int32.toNatClampNeg x1) (0 : Int32)) (fun h14 => [(0, .ref 251), (1, .int x1)]) (fun h14 => []) (fun h14 => h14) [kd 251 = 12, kd 273 = 20 ∧ inb x1 (ln 273)] (by decide +kernel) rfl ⟨kd_251, ⟨kd_273, g13⟩⟩ hO (fun h14 hO => ?_)
        refine rbx hG 4 70 73 [.iinc 1 0] [1] [] ((x1 + (1 : Int32))) (fun y15 => [(1, .int y15), (0, .ref 251)]) (fun y15 => []) (fun y15 => h14) [] (by decide +kernel) rfl trivial hO (fun y15 hO => ?_)
        refine rb hG 4 73 43 [] [] [] [(1, .int y15), (0, .ref 251)] [] h14 [] (by decide +kernel) rfl trivial ?_
        refine rs hG [(0, .ref 251), (1, .int y15)] [1, 0] rfl ?_
        exact k43 (y15, h14) (ok_some (Q := (Sum.elim H43 P)) hO)
    rw [eH43] at w9
    exact w9
  have j41 : ∀ (h : Hp), Okk (M_begin_j41 h) P → G 41 [(0, .ref 251)] [] h := by
    intro h hO
    unfold M_begin_j41 at hO
    refine rb hG 5 41 43 [.ldc_w 0, .istore 1] [0] [] [(1, .int (0 : Int32)), (0, .ref 251)] [] h [] (by decide +kernel) rfl trivial ?_
    refine rs hG [(0, .ref 251), (1, .int (0 : Int32))] [1, 0] rfl ?_
    exact l43 (0 : Int32) h hO
  have l2 : ∀ (x1 : Int32) (h : Hp), Okk (M_begin_l2 x1 h) P → G 2 [(0, .ref 251), (1, .int x1)] [] h := by
    intro x1 h hO
    obtain ⟨H2, eH2⟩ : ∃ q : (Int32 × Hp) → Prop, q = fun s => G 2 [(0, .ref 251), (1, .int (s.1))] [] (s.2) := ⟨_, rfl⟩
    have w9 : H2 (x1, h) := by
      refine lp_wp (f := fun s : (Int32 × Hp) => M_begin_b2 s.1 s.2) (H := H2) (Q := P) ?_ (x1, h) hO
      rintro ⟨x1, h⟩ hO
      rw [eH2]
      show G 2 [(0, .ref 251), (1, .int x1)] [] h
      have k2 : ∀ s : (Int32 × Hp), H2 s → G 2 [(0, .ref 251), (1, .int (s.1))] [] (s.2) := fun s q => by rw [eH2] at q; exact q
      replace hO : Okk (M_begin_b2 x1 h) (Sum.elim H2 P) := hO
      clear eH2
      unfold M_begin_b2 at hO
      refine rb hG 5 2 4 [.iload 1, .ldc_w 0] [5] [] [(0, .ref 251), (1, .int x1)] [.int (5 : Int32), .int x1] h [] (by decide +kernel) rfl trivial ?_
      refine rj hG .ge (37) 41 4 (by decide +kernel) (by decide) (fun c16 => ?_) (fun c16 => ?_)
      · have hO := ok_pos c16 hO
        refine rs hG [(0, .ref 251)] [0] rfl ?_
        exact j41 h (ok_inr hO)
      · have hO := ok_neg c16 hO
        obtain ⟨g17, hO⟩ := ok_if hO
        refine rbx hG 8 7 14 [.aload 0, .invokeinterface 1230 15, .iload 1, .ldc_w 0, .iastore] [0] [] (wr h 266 (Int32.toNatClampNeg x1) (0 : Int32)) (fun h18 => [(0, .ref 251), (1, .int x1)]) (fun h18 => []) (fun h18 => h18) [kd 251 = 12, kd 266 = 20 ∧ inb x1 (ln 266)] (by decide +kernel) rfl ⟨kd_251, ⟨kd_266, g17⟩⟩ hO (fun h18 hO => ?_)
        obtain ⟨g19, hO⟩ := ok_if hO
        refine rbx hG 8 14 21 [.aload 0, .invokeinterface 1231 16, .iload 1, .ldc_w 0, .iastore] [0] [] (wr h18 267 (Int32.toNatClampNeg x1) (0 : Int32)) (fun h20 => [(0, .ref 251), (1, .int x1)]) (fun h20 => []) (fun h20 => h20) [kd 251 = 12, kd 267 = 20 ∧ inb x1 (ln 267)] (by decide +kernel) rfl ⟨kd_251, ⟨kd_267, g19⟩⟩ hO (fun h20 hO => ?_)
        obtain ⟨g21, hO⟩ := ok_if hO
        refine rbx hG 8 21 28 [.aload 0, .invokeinterface 1232 17, .iload 1, .ldc_w 0, .iastore] [0] [] (wr h20 268 (Int32.toNatClampNeg x1) (0 : Int32)) (fun h22 => [(0, .ref 251), (1, .int x1)]) (fun h22 => []) (fun h22 => h22) [kd 251 = 12, kd 268 = 20 ∧ inb x1 (ln 268)] (by decide +kernel) rfl ⟨kd_251, ⟨kd_268, g21⟩⟩ hO (fun h22 hO => ?_)
        obtain ⟨g23, hO⟩ := ok_if hO
        refine rbx hG 8 28 35 [.aload 0, .invokeinterface 1233 18, .iload 1, .ldc_w 0, .iastore] [0] [] (wr h22 269 (Int32.toNatClampNeg x1) (0 : Int32)) (fun h24 => [(0, .ref 251), (1, .int x1)]) (fun h24 => []) (fun h24 => h24) [kd 251 = 12, kd 269 = 20 ∧ inb x1 (ln 269)] (by decide +kernel) rfl ⟨kd_251, ⟨kd_269, g23⟩⟩ hO (fun h24 hO => ?_)
        refine rbx hG 4 35 38 [.iinc 1 0] [1] [] ((x1 + (1 : Int32))) (fun y25 => [(1, .int y25), (0, .ref 251)]) (fun y25 => []) (fun y25 => h24) [] (by decide +kernel) rfl trivial hO (fun y25 hO => ?_)
        refine rb hG 4 38 2 [] [] [] [(1, .int y25), (0, .ref 251)] [] h24 [] (by decide +kernel) rfl trivial ?_
        refine rs hG [(0, .ref 251), (1, .int y25)] [1, 0] rfl ?_
        exact k2 (y25, h24) (ok_some (Q := (Sum.elim H2 P)) hO)
    rw [eH2] at w9
    exact w9
  refine rb hG 5 0 2 [.ldc_w 0, .istore 1] [0] [] [(1, .int (0 : Int32)), (0, .ref 251)] [] h [] (by decide +kernel) rfl trivial ?_
  refine rs hG [(0, .ref 251), (1, .int (0 : Int32))] [1, 0] rfl ?_
  exact l2 (0 : Int32) h hO
/-! GrainInnModel.isTable(I)Z -/
noncomputable def M_isTable (h : Hp) (x1 : Int32) : Option Int32 := (M_in x1 (0 : Int32) ((h.1 251 24) - (1 : Int32))).bind fun r1 => if r1 = 0 ∨ r1 = 1 then (some r1) else none
set_option maxRecDepth 100000 in
set_option maxHeartbeats 4000000 in
theorem c_M_isTable {E : En} {d : Nat} (h : Hp) (x1 : Int32) {P : Int32 → Prop} (hO : Okk (M_isTable h x1) P) : Cn E (d + 2) z_M_isTable [.ref 251, .int x1] h (RIp h P) := by
  refine cn_of (on := 12) (d := d + 1) ⟨rfl, by decide +kernel, Nat.le_of_ble_eq_true rfl⟩ (fun G hG => ?_)
  unfold M_isTable at hO
  show G 0 [(0, .ref 251), (1, .int x1)] [] h
  refine rb hG 9 0 8 [.iload 1, .ldc_w 0, .aload 0, .getfield 1224, .ldc_w 1, .isub] [0, 1] [] [(0, .ref 251), (1, .int x1)] [.int ((h.1 251 24) - (1 : Int32)), .int (0 : Int32), .int x1] h [kd 251 = 12] (by decide +kernel) rfl kd_251 ?_
  refine rt hG z_M_in 111 3 8 [.int x1, .int (0 : Int32), .int ((h.1 251 24) - (1 : Int32))] [] (by decide +kernel) mk_M_in lk_12_111 rfl ⟨rfl, Nat.le_of_ble_eq_true rfl⟩ (c_M_in (d := d) h x1 (0 : Int32) ((h.1 251 24) - (1 : Int32)) (ok_bind hO)) ?_
  rintro _ _ ⟨r1, rfl, rfl, hO⟩
  obtain ⟨g2, hO⟩ := ok_if hO
  exact eZ hG 11 (by decide +kernel) rfl g2 ⟨r1, rfl, rfl, ok_some (Q := P) hO⟩
/-! GrainInnModel.allSeated()I -/
noncomputable def M_allSeated_j24 (x1 : Int32) (h : Hp) : Option Int32 := some x1
noncomputable def M_allSeated_b4 (x1 : Int32) (x2 : Int32) (h : Hp) : Option ((Int32 × Int32) ⊕ Int32) := if (5 : Int32) ≤ x2 then (((M_allSeated_j24 x1 h).map Sum.inr)) else (if inb x2 (ln 268) then (bnd ((x1 ||| (h.1 268 (Int32.toNatClampNeg x2)))) fun y3 => bnd ((x2 + (1 : Int32))) fun y4 => some (.inl (y3, y4))) else none)
noncomputable def M_allSeated_l4 (x1 : Int32) (x2 : Int32) (h : Hp) : Option Int32 := lp (fun s : (Int32 × Int32) => M_allSeated_b4 s.1 s.2 h) (x1, x2)
theorem M_allSeated_l4_eq (x1 : Int32) (x2 : Int32) (h : Hp) : M_allSeated_l4 x1 x2 h = (M_allSeated_b4 x1 x2 h).bind (Sum.elim (fun q : (Int32 × Int32) => M_allSeated_l4 q.1 q.2 h) some) := lp_eq _ _
noncomputable def M_allSeated (h : Hp) : Option Int32 := (M_allSeated_l4 (0 : Int32) (0 : Int32) h)
set_option maxRecDepth 100000 in
set_option maxHeartbeats 4000000 in
theorem c_M_allSeated {E : En} {d : Nat} (h : Hp) {P : Int32 → Prop} (hO : Okk (M_allSeated h) P) : Cn E (d + 1) z_M_allSeated [.ref 251] h (RIp h P) := by
  refine cn_of (on := 12) (d := d + 0) ⟨rfl, by decide +kernel, Nat.le_of_ble_eq_true rfl⟩ (fun G hG => ?_)
  unfold M_allSeated at hO
  show G 0 [(0, .ref 251)] [] h
  have j24 : ∀ (x1 : Int32), Okk (M_allSeated_j24 x1 h) P → G 24 [(1, .int x1)] [] h := by
    intro x1 hO
    unfold M_allSeated_j24 at hO
    refine rb hG 4 24 25 [.iload 1] [] [] [(1, .int x1)] [.int x1] h [] (by decide +kernel) rfl trivial ?_
    exact eI hG 25 (by decide +kernel) rfl ⟨x1, rfl, rfl, ok_some (Q := P) hO⟩
  have l4 : ∀ (x1 : Int32) (x2 : Int32), Okk (M_allSeated_l4 x1 x2 h) P → G 4 [(0, .ref 251), (1, .int x1), (2, .int x2)] [] h := by
    intro x1 x2 hO
    obtain ⟨H4, eH4⟩ : ∃ q : (Int32 × Int32) → Prop, q = fun s => G 4 [(0, .ref 251), (1, .int (s.1)), (2, .int (s.2))] [] (h) := ⟨_, rfl⟩
    have w9 : H4 (x1, x2) := by
      refine lp_wp (f := fun s : (Int32 × Int32) => M_allSeated_b4 s.1 s.2 h) (H := H4) (Q := P) ?_ (x1, x2) hO
      rintro ⟨x1, x2⟩ hO
      rw [eH4]
      show G 4 [(0, .ref 251), (1, .int x1), (2, .int x2)] [] h
      have k4 : ∀ s : (Int32 × Int32), H4 s → G 4 [(0, .ref 251), (1, .int (s.1)), (2, .int (s.2))] [] (h) := fun s q => by rw [eH4] at q; exact q
      replace hO : Okk (M_allSeated_b4 x1 x2 h) (Sum.elim H4 P) := hO
      clear eH4
      unfold M_allSeated_b4 at hO
      refine rb hG 5 4 6 [.iload 2, .ldc_w 0] [5] [] [(0, .ref 251), (1, .int x1), (2, .int x2)] [.int (5 : Int32), .int x2] h [] (by decide +kernel) rfl trivial ?_
      refine rj hG .ge (18) 24 6 (by decide +kernel) (by decide) (fun c1 => ?_) (fun c1 => ?_)
      · have hO := ok_pos c1 hO
        refine rs hG [(1, .int x1)] [1] rfl ?_
        exact j24 x1 (ok_inr hO)
      · have hO := ok_neg c1 hO
        obtain ⟨g2, hO⟩ := ok_if hO
        refine rbx hG 10 9 18 [.iload 1, .aload 0, .invokeinterface 1232 17, .iload 2, .iaload, .ior, .istore 1] [] [] ((x1 ||| (h.1 268 (Int32.toNatClampNeg x2)))) (fun y3 => [(1, .int y3), (0, .ref 251), (2, .int x2)]) (fun y3 => []) (fun y3 => h) [kd 251 = 12, kd 268 = 20 ∧ inb x2 (ln 268)] (by decide +kernel) rfl ⟨kd_251, ⟨kd_268, g2⟩⟩ hO (fun y3 hO => ?_)
        refine rbx hG 4 18 21 [.iinc 2 0] [1] [] ((x2 + (1 : Int32))) (fun y4 => [(2, .int y4), (1, .int y3), (0, .ref 251)]) (fun y4 => []) (fun y4 => h) [] (by decide +kernel) rfl trivial hO (fun y4 hO => ?_)
        refine rb hG 4 21 4 [] [] [] [(2, .int y4), (1, .int y3), (0, .ref 251)] [] h [] (by decide +kernel) rfl trivial ?_
        refine rs hG [(0, .ref 251), (1, .int y3), (2, .int y4)] [2, 1, 0] rfl ?_
        exact k4 (y3, y4) (ok_some (Q := (Sum.elim H4 P)) hO)
    rw [eH4] at w9
    exact w9
  refine rb hG 7 0 4 [.ldc_w 0, .istore 1, .ldc_w 0, .istore 2] [0] [] [(2, .int (0 : Int32)), (1, .int (0 : Int32)), (0, .ref 251)] [] h [] (by decide +kernel) rfl trivial ?_
  refine rs hG [(0, .ref 251), (1, .int (0 : Int32)), (2, .int (0 : Int32))] [2, 1, 0] rfl ?_
  exact l4 (0 : Int32) (0 : Int32) hO
/-! GrainInnModel.ones(I)I -/
noncomputable def M_ones_j32 (x1 : Int32) : Option Int32 := some x1
noncomputable def M_ones_j24 (x0 : Int32) (x2 : Int32) (s0 : Int32) (s1 : Int32) : Option ((Int32 × Int32) ⊕ Int32) := bnd ((s0 + s1)) fun y1 => bnd ((x2 + (1 : Int32))) fun y2 => some (.inl (y1, y2))
noncomputable def M_ones_b4 (x0 : Int32) (x1 : Int32) (x2 : Int32) : Option ((Int32 × Int32) ⊕ Int32) := if (10 : Int32) ≤ x2 then (((M_ones_j32 x1).map Sum.inr)) else ((M_has x0 x2).bind fun r4 => if r4 = 0 then ((M_ones_j24 x0 x2 x1 (0 : Int32))) else ((M_ones_j24 x0 x2 x1 (1 : Int32))))
noncomputable def M_ones_l4 (x0 : Int32) (x1 : Int32) (x2 : Int32) : Option Int32 := lp (fun s : (Int32 × Int32) => M_ones_b4 x0 s.1 s.2) (x1, x2)
theorem M_ones_l4_eq (x0 : Int32) (x1 : Int32) (x2 : Int32) : M_ones_l4 x0 x1 x2 = (M_ones_b4 x0 x1 x2).bind (Sum.elim (fun q : (Int32 × Int32) => M_ones_l4 x0 q.1 q.2) some) := lp_eq _ _
noncomputable def M_ones (x0 : Int32) : Option Int32 := (M_ones_l4 x0 (0 : Int32) (0 : Int32))
set_option maxRecDepth 100000 in
set_option maxHeartbeats 4000000 in
theorem c_M_ones {E : En} {d : Nat} (h : Hp) (x0 : Int32) {P : Int32 → Prop} (hO : Okk (M_ones x0) P) : Cn E (d + 2) z_M_ones [.int x0] h (RIp h P) := by
  refine cn_of (on := 12) (d := d + 1) ⟨rfl, by decide +kernel, Nat.le_of_ble_eq_true rfl⟩ (fun G hG => ?_)
  unfold M_ones at hO
  show G 0 [(0, .int x0)] [] h
  have j32 : ∀ (x1 : Int32), Okk (M_ones_j32 x1) P → G 32 [(1, .int x1)] [] h := by
    intro x1 hO
    unfold M_ones_j32 at hO
    refine rb hG 4 32 33 [.iload 1] [] [] [(1, .int x1)] [.int x1] h [] (by decide +kernel) rfl trivial ?_
    exact eI hG 33 (by decide +kernel) rfl ⟨x1, rfl, rfl, ok_some (Q := P) hO⟩
  have l4 : ∀ (x1 : Int32) (x2 : Int32), Okk (M_ones_l4 x0 x1 x2) P → G 4 [(0, .int x0), (1, .int x1), (2, .int x2)] [] h := by
    intro x1 x2 hO
    obtain ⟨H4, eH4⟩ : ∃ q : (Int32 × Int32) → Prop, q = fun s => G 4 [(0, .int x0), (1, .int (s.1)), (2, .int (s.2))] [] (h) := ⟨_, rfl⟩
    have w9 : H4 (x1, x2) := by
      refine lp_wp (f := fun s : (Int32 × Int32) => M_ones_b4 x0 s.1 s.2) (H := H4) (Q := P) ?_ (x1, x2) hO
      rintro ⟨x1, x2⟩ hO
      rw [eH4]
      show G 4 [(0, .int x0), (1, .int x1), (2, .int x2)] [] h
      have k4 : ∀ s : (Int32 × Int32), H4 s → G 4 [(0, .int x0), (1, .int (s.1)), (2, .int (s.2))] [] (h) := fun s q => by rw [eH4] at q; exact q
      replace hO : Okk (M_ones_b4 x0 x1 x2) (Sum.elim H4 P) := hO
      clear eH4
      have j24 : ∀ (x2 : Int32) (s0 : Int32) (s1 : Int32), Okk (M_ones_j24 x0 x2 s0 s1) (Sum.elim H4 P) → G 24 [(0, .int x0), (2, .int x2)] [.int s1, .int s0] h := by
        intro x2 s0 s1 hO
        unfold M_ones_j24 at hO
        refine rbx hG 5 24 26 [.iadd, .istore 1] [] [] ((s0 + s1)) (fun y1 => [(1, .int y1), (0, .int x0), (2, .int x2)]) (fun y1 => []) (fun y1 => h) [] (by decide +kernel) rfl trivial hO (fun y1 hO => ?_)
        refine rbx hG 4 26 29 [.iinc 2 0] [1] [] ((x2 + (1 : Int32))) (fun y2 => [(2, .int y2), (1, .int y1), (0, .int x0)]) (fun y2 => []) (fun y2 => h) [] (by decide +kernel) rfl trivial hO (fun y2 hO => ?_)
        refine rb hG 4 29 4 [] [] [] [(2, .int y2), (1, .int y1), (0, .int x0)] [] h [] (by decide +kernel) rfl trivial ?_
        refine rs hG [(0, .int x0), (1, .int y1), (2, .int y2)] [2, 1, 0] rfl ?_
        exact k4 (y1, y2) (ok_some (Q := (Sum.elim H4 P)) hO)
      unfold M_ones_b4 at hO
      refine rb hG 5 4 7 [.iload 2, .ldc_w 0] [10] [] [(0, .int x0), (1, .int x1), (2, .int x2)] [.int (10 : Int32), .int x2] h [] (by decide +kernel) rfl trivial ?_
      refine rj hG .ge (25) 32 7 (by decide +kernel) (by decide) (fun c3 => ?_) (fun c3 => ?_)
      · have hO := ok_pos c3 hO
        refine rs hG [(1, .int x1)] [1] rfl ?_
        exact j32 x1 (ok_inr hO)
      · have hO := ok_neg c3 hO
        refine rb hG 6 10 13 [.iload 1, .iload 0, .iload 2] [] [] [(0, .int x0), (1, .int x1), (2, .int x2)] [.int x2, .int x0, .int x1] h [] (by decide +kernel) rfl trivial ?_
        refine rt hG z_M_has 103 2 13 [.int x0, .int x2] [.int x1] (by decide +kernel) mk_M_has lk_12_103 rfl ⟨rfl, Nat.le_of_ble_eq_true rfl⟩ (c_M_has (d := d) h x0 x2 (ok_bind hO)) ?_
        rintro _ _ ⟨r4, rfl, rfl, hO⟩
        refine ri hG .eq (7) 23 16 (by decide +kernel) (by decide) (fun c5 => ?_) (fun c5 => ?_)
        · have hO := ok_pos c5 hO
          refine rb hG 4 23 24 [.ldc_w 0] [0] [] [(0, .int x0), (1, .int x1), (2, .int x2)] [.int (0 : Int32), .int x1] h [] (by decide +kernel) rfl trivial ?_
          refine rs hG [(0, .int x0), (2, .int x2)] [0, 2] rfl ?_
          exact j24 x2 x1 (0 : Int32) hO
        · have hO := ok_neg c5 hO
          refine rb hG 5 19 24 [.ldc_w 0] [1] [] [(0, .int x0), (1, .int x1), (2, .int x2)] [.int (1 : Int32), .int x1] h [] (by decide +kernel) rfl trivial ?_
          refine rs hG [(0, .int x0), (2, .int x2)] [0, 2] rfl ?_
          exact j24 x2 x1 (1 : Int32) hO
    rw [eH4] at w9
    exact w9
  refine rb hG 7 0 4 [.ldc_w 0, .istore 1, .ldc_w 0, .istore 2] [0] [] [(2, .int (0 : Int32)), (1, .int (0 : Int32)), (0, .int x0)] [] h [] (by decide +kernel) rfl trivial ?_
  refine rs hG [(0, .int x0), (1, .int (0 : Int32)), (2, .int (0 : Int32))] [2, 1, 0] rfl ?_
  exact l4 (0 : Int32) (0 : Int32) hO
/-! GrainInnModel.meet(II)V -/
noncomputable def M_meet_j64 (h : Hp) : Option Hp := some h
noncomputable def M_meet_j41 (x1 : Int32) (x2 : Int32) (x3 : Int32) (s1 : Int32) (s2 : Int32) (s3 : Int32) (s4 : Int32) (h : Hp) : Option ((Int32 × Hp) ⊕ Hp) := if inb s1 (ln 273) then (bnd (wr h 273 (Int32.toNatClampNeg s1) (s2 ||| (s3 ||| s4))) fun h2 => if inb x3 (ln 273) then (if inb x3 (ln 273) then (bnd (wr h2 273 (Int32.toNatClampNeg x3) ((h2.1 273 (Int32.toNatClampNeg x3)) &&& ((sh (1 : Int32) x3) ^^^ (-1 : Int32)))) fun h5 => bnd ((x3 + (1 : Int32))) fun y6 => some (.inl (y6, h5))) else none) else none) else none
noncomputable def M_meet_j28 (x1 : Int32) (x2 : Int32) (x3 : Int32) (s1 : Int32) (s2 : Int32) (s3 : Int32) (h : Hp) : Option ((Int32 × Hp) ⊕ Hp) := (M_has x2 x3).bind fun r7 => if r7 = 0 then ((M_meet_j41 x1 x2 x3 s1 s2 s3 (0 : Int32) h)) else ((M_meet_j41 x1 x2 x3 s1 s2 s3 x1 h))
noncomputable def M_meet_b2 (x1 : Int32) (x2 : Int32) (x3 : Int32) (h : Hp) : Option ((Int32 × Hp) ⊕ Hp) := if (8 : Int32) ≤ x3 then (((M_meet_j64 h).map Sum.inr)) else (if inb x3 (ln 273) then ((M_has x1 x3).bind fun r11 => if r11 = 0 then ((M_meet_j28 x1 x2 x3 x3 (h.1 273 (Int32.toNatClampNeg x3)) (0 : Int32) h)) else ((M_meet_j28 x1 x2 x3 x3 (h.1 273 (Int32.toNatClampNeg x3)) x2 h))) else none)
noncomputable def M_meet_l2 (x1 : Int32) (x2 : Int32) (x3 : Int32) (h : Hp) : Option Hp := lp (fun s : (Int32 × Hp) => M_meet_b2 x1 x2 s.1 s.2) (x3, h)
theorem M_meet_l2_eq (x1 : Int32) (x2 : Int32) (x3 : Int32) (h : Hp) : M_meet_l2 x1 x2 x3 h = (M_meet_b2 x1 x2 x3 h).bind (Sum.elim (fun q : (Int32 × Hp) => M_meet_l2 x1 x2 q.1 q.2) some) := lp_eq _ _
noncomputable def M_meet (h : Hp) (x1 : Int32) (x2 : Int32) : Option Hp := (M_meet_l2 x1 x2 (0 : Int32) h)
set_option maxRecDepth 100000 in
set_option maxHeartbeats 4000000 in
theorem c_M_meet {E : En} {d : Nat} (h : Hp) (x1 : Int32) (x2 : Int32) {P : Hp → Prop} (hO : Okk (M_meet h x1 x2) P) : Cn E (d + 2) z_M_meet [.ref 251, .int x1, .int x2] h (RV P) := by
  refine cn_of (on := 12) (d := d + 1) ⟨rfl, by decide +kernel, Nat.le_of_ble_eq_true rfl⟩ (fun G hG => ?_)
  unfold M_meet at hO
  show G 0 [(0, .ref 251), (1, .int x1), (2, .int x2)] [] h
  have j64 : ∀ (h : Hp), Okk (M_meet_j64 h) P → G 64 [] [] h := by
    intro h hO
    unfold M_meet_j64 at hO
    exact eV hG 64 (by decide +kernel) rfl ⟨rfl, ok_some (Q := P) hO⟩
  have l2 : ∀ (x3 : Int32) (h : Hp), Okk (M_meet_l2 x1 x2 x3 h) P → G 2 [(0, .ref 251), (1, .int x1), (2, .int x2), (3, .int x3)] [] h := by
    intro x3 h hO
    obtain ⟨H2, eH2⟩ : ∃ q : (Int32 × Hp) → Prop, q = fun s => G 2 [(0, .ref 251), (1, .int x1), (2, .int x2), (3, .int (s.1))] [] (s.2) := ⟨_, rfl⟩
    have w9 : H2 (x3, h) := by
      refine lp_wp (f := fun s : (Int32 × Hp) => M_meet_b2 x1 x2 s.1 s.2) (H := H2) (Q := P) ?_ (x3, h) hO
      rintro ⟨x3, h⟩ hO
      rw [eH2]
      show G 2 [(0, .ref 251), (1, .int x1), (2, .int x2), (3, .int x3)] [] h
      have k2 : ∀ s : (Int32 × Hp), H2 s → G 2 [(0, .ref 251), (1, .int x1), (2, .int x2), (3, .int (s.1))] [] (s.2) := fun s q => by rw [eH2] at q; exact q
      replace hO : Okk (M_meet_b2 x1 x2 x3 h) (Sum.elim H2 P) := hO
      clear eH2
      have j41 : ∀ (x3 : Int32) (s1 : Int32) (s2 : Int32) (s3 : Int32) (s4 : Int32) (h : Hp), Okk (M_meet_j41 x1 x2 x3 s1 s2 s3 s4 h) (Sum.elim H2 P) → G 41 [(0, .ref 251), (1, .int x1), (2, .int x2), (3, .int x3)] [.int s4, .int s3, .int s2, .int s1, .ref 273] h := by
        intro x3 s1 s2 s3 s4 h hO
        unfold M_meet_j41 at hO
        obtain ⟨g1, hO⟩ := ok_if hO
        refine rbx hG 6 41 44 [.ior, .ior, .iastore] [] [] (wr h 273 (Int32.toNatClampNeg s1) (s2 ||| (s3 ||| s4))) (fun h2 => [(0, .ref 251), (1, .int x1), (2, .int x2), (3, .int x3)]) (fun h2 => []) (fun h2 => h2) [kd 273 = 20 ∧ inb s1 (ln 273)] (by decide +kernel) rfl ⟨kd_273, g1⟩ hO (fun h2 hO => ?_)
        obtain ⟨g3, hO⟩ := ok_if hO
        obtain ⟨g4, hO⟩ := ok_if hO
        refine rbx hG 15 44 58 [.aload 0, .invokeinterface 1237 22, .iload 3, .dup2, .iaload, .ldc_w 0, .iload 3, .ishl, .ldc_w 1, .ixor, .iand, .iastore] [1, -1] [] (wr h2 273 (Int32.toNatClampNeg x3) ((h2.1 273 (Int32.toNatClampNeg x3)) &&& ((sh (1 : Int32) x3) ^^^ (-1 : Int32)))) (fun h5 => [(0, .ref 251), (1, .int x1), (2, .int x2), (3, .int x3)]) (fun h5 => []) (fun h5 => h5) [kd 251 = 12, kd 273 = 20 ∧ inb x3 (ln 273), kd 273 = 20 ∧ inb x3 (ln 273)] (by decide +kernel) rfl ⟨kd_251, ⟨kd_273, g3⟩, ⟨kd_273, g4⟩⟩ hO (fun h5 hO => ?_)
        refine rbx hG 4 58 61 [.iinc 3 0] [1] [] ((x3 + (1 : Int32))) (fun y6 => [(3, .int y6), (0, .ref 251), (1, .int x1), (2, .int x2)]) (fun y6 => []) (fun y6 => h5) [] (by decide +kernel) rfl trivial hO (fun y6 hO => ?_)
        refine rb hG 4 61 2 [] [] [] [(3, .int y6), (0, .ref 251), (1, .int x1), (2, .int x2)] [] h5 [] (by decide +kernel) rfl trivial ?_
        refine rs hG [(0, .ref 251), (1, .int x1), (2, .int x2), (3, .int y6)] [1, 2, 3, 0] rfl ?_
        exact k2 (y6, h5) (ok_some (Q := (Sum.elim H2 P)) hO)
      have j28 : ∀ (x3 : Int32) (s1 : Int32) (s2 : Int32) (s3 : Int32) (h : Hp), Okk (M_meet_j28 x1 x2 x3 s1 s2 s3 h) (Sum.elim H2 P) → G 28 [(0, .ref 251), (1, .int x1), (2, .int x2), (3, .int x3)] [.int s3, .int s2, .int s1, .ref 273] h := by
        intro x3 s1 s2 s3 h hO
        unfold M_meet_j28 at hO
        refine rb hG 5 28 30 [.iload 2, .iload 3] [] [] [(0, .ref 251), (1, .int x1), (2, .int x2), (3, .int x3)] [.int x3, .int x2, .int s3, .int s2, .int s1, .ref 273] h [] (by decide +kernel) rfl trivial ?_
        refine rt hG z_M_has 103 2 30 [.int x2, .int x3] [.int s3, .int s2, .int s1, .ref 273] (by decide +kernel) mk_M_has lk_12_103 rfl ⟨rfl, Nat.le_of_ble_eq_true rfl⟩ (c_M_has (d := d) h x2 x3 (ok_bind hO)) ?_
        rintro _ _ ⟨r7, rfl, rfl, hO⟩
        refine ri hG .eq (7) 40 33 (by decide +kernel) (by decide) (fun c8 => ?_) (fun c8 => ?_)
        · have hO := ok_pos c8 hO
          refine rb hG 4 40 41 [.ldc_w 0] [0] [] [(0, .ref 251), (1, .int x1), (2, .int x2), (3, .int x3)] [.int (0 : Int32), .int s3, .int s2, .int s1, .ref 273] h [] (by decide +kernel) rfl trivial ?_
          exact j41 x3 s1 s2 s3 (0 : Int32) h hO
        · have hO := ok_neg c8 hO
          refine rb hG 5 36 41 [.iload 1] [] [] [(0, .ref 251), (1, .int x1), (2, .int x2), (3, .int x3)] [.int x1, .int s3, .int s2, .int s1, .ref 273] h [] (by decide +kernel) rfl trivial ?_
          exact j41 x3 s1 s2 s3 x1 h hO
      unfold M_meet_b2 at hO
      refine rb hG 5 2 5 [.iload 3, .ldc_w 0] [8] [] [(0, .ref 251), (1, .int x1), (2, .int x2), (3, .int x3)] [.int (8 : Int32), .int x3] h [] (by decide +kernel) rfl trivial ?_
      refine rj hG .ge (59) 64 5 (by decide +kernel) (by decide) (fun c9 => ?_) (fun c9 => ?_)
      · have hO := ok_pos c9 hO
        refine rs hG [] [] rfl ?_
        exact j64 h (ok_inr hO)
      · have hO := ok_neg c9 hO
        obtain ⟨g10, hO⟩ := ok_if hO
        refine rb hG 10 8 17 [.aload 0, .invokeinterface 1237 22, .iload 3, .dup2, .iaload, .iload 1, .iload 3] [] [] [(0, .ref 251), (1, .int x1), (2, .int x2), (3, .int x3)] [.int x3, .int x1, .int (h.1 273 (Int32.toNatClampNeg x3)), .int x3, .ref 273] h [kd 251 = 12, kd 273 = 20 ∧ inb x3 (ln 273)] (by decide +kernel) rfl ⟨kd_251, ⟨kd_273, g10⟩⟩ ?_
        refine rt hG z_M_has 103 2 17 [.int x1, .int x3] [.int (h.1 273 (Int32.toNatClampNeg x3)), .int x3, .ref 273] (by decide +kernel) mk_M_has lk_12_103 rfl ⟨rfl, Nat.le_of_ble_eq_true rfl⟩ (c_M_has (d := d) h x1 x3 (ok_bind hO)) ?_
        rintro _ _ ⟨r11, rfl, rfl, hO⟩
        refine ri hG .eq (7) 27 20 (by decide +kernel) (by decide) (fun c12 => ?_) (fun c12 => ?_)
        · have hO := ok_pos c12 hO
          refine rb hG 4 27 28 [.ldc_w 0] [0] [] [(0, .ref 251), (1, .int x1), (2, .int x2), (3, .int x3)] [.int (0 : Int32), .int (h.1 273 (Int32.toNatClampNeg x3)), .int x3, .ref 273] h [] (by decide +kernel) rfl trivial ?_
          exact j28 x3 x3 (h.1 273 (Int32.toNatClampNeg x3)) (0 : Int32) h hO
        · have hO := ok_neg c12 hO
          refine rb hG 5 23 28 [.iload 2] [] [] [(0, .ref 251), (1, .int x1), (2, .int x2), (3, .int x3)] [.int x2, .int (h.1 273 (Int32.toNatClampNeg x3)), .int x3, .ref 273] h [] (by decide +kernel) rfl trivial ?_
          exact j28 x3 x3 (h.1 273 (Int32.toNatClampNeg x3)) x2 h hO
    rw [eH2] at w9
    exact w9
  refine rb hG 5 0 2 [.ldc_w 0, .istore 3] [0] [] [(3, .int (0 : Int32)), (0, .ref 251), (1, .int x1), (2, .int x2)] [] h [] (by decide +kernel) rfl trivial ?_
  refine rs hG [(0, .ref 251), (1, .int x1), (2, .int x2), (3, .int (0 : Int32))] [1, 2, 3, 0] rfl ?_
  exact l2 (0 : Int32) h hO
/-! GrainInnModel.hears(II)V -/
noncomputable def M_hears_j36 (h : Hp) : Option Hp := some h
noncomputable def M_hears_j28 (x1 : Int32) (x2 : Int32) (x3 : Int32) (s1 : Int32) (s2 : Int32) (s3 : Int32) (h : Hp) : Option ((Int32 × Hp) ⊕ Hp) := if inb s1 (ln 270) then (bnd (wr h 270 (Int32.toNatClampNeg s1) (s2 ||| s3)) fun h2 => bnd ((x3 + (1 : Int32))) fun y3 => some (.inl (y3, h2))) else none
noncomputable def M_hears_b2 (x1 : Int32) (x2 : Int32) (x3 : Int32) (h : Hp) : Option ((Int32 × Hp) ⊕ Hp) := if (8 : Int32) ≤ x3 then (((M_hears_j36 h).map Sum.inr)) else (if inb x3 (ln 270) then ((M_has x1 x3).bind fun r6 => if r6 = 0 then ((M_hears_j28 x1 x2 x3 x3 (h.1 270 (Int32.toNatClampNeg x3)) (0 : Int32) h)) else ((M_hears_j28 x1 x2 x3 x3 (h.1 270 (Int32.toNatClampNeg x3)) x2 h))) else none)
noncomputable def M_hears_l2 (x1 : Int32) (x2 : Int32) (x3 : Int32) (h : Hp) : Option Hp := lp (fun s : (Int32 × Hp) => M_hears_b2 x1 x2 s.1 s.2) (x3, h)
theorem M_hears_l2_eq (x1 : Int32) (x2 : Int32) (x3 : Int32) (h : Hp) : M_hears_l2 x1 x2 x3 h = (M_hears_b2 x1 x2 x3 h).bind (Sum.elim (fun q : (Int32 × Hp) => M_hears_l2 x1 x2 q.1 q.2) some) := lp_eq _ _
noncomputable def M_hears (h : Hp) (x1 : Int32) (x2 : Int32) : Option Hp := (M_hears_l2 x1 x2 (0 : Int32) h)
set_option maxRecDepth 100000 in
set_option maxHeartbeats 4000000 in
theorem c_M_hears {E : En} {d : Nat} (h : Hp) (x1 : Int32) (x2 : Int32) {P : Hp → Prop} (hO : Okk (M_hears h x1 x2) P) : Cn E (d + 2) z_M_hears [.ref 251, .int x1, .int x2] h (RV P) := by
  refine cn_of (on := 12) (d := d + 1) ⟨rfl, by decide +kernel, Nat.le_of_ble_eq_true rfl⟩ (fun G hG => ?_)
  unfold M_hears at hO
  show G 0 [(0, .ref 251), (1, .int x1), (2, .int x2)] [] h
  have j36 : ∀ (h : Hp), Okk (M_hears_j36 h) P → G 36 [] [] h := by
    intro h hO
    unfold M_hears_j36 at hO
    exact eV hG 36 (by decide +kernel) rfl ⟨rfl, ok_some (Q := P) hO⟩
  have l2 : ∀ (x3 : Int32) (h : Hp), Okk (M_hears_l2 x1 x2 x3 h) P → G 2 [(0, .ref 251), (1, .int x1), (2, .int x2), (3, .int x3)] [] h := by
    intro x3 h hO
    obtain ⟨H2, eH2⟩ : ∃ q : (Int32 × Hp) → Prop, q = fun s => G 2 [(0, .ref 251), (1, .int x1), (2, .int x2), (3, .int (s.1))] [] (s.2) := ⟨_, rfl⟩
    have w9 : H2 (x3, h) := by
      refine lp_wp (f := fun s : (Int32 × Hp) => M_hears_b2 x1 x2 s.1 s.2) (H := H2) (Q := P) ?_ (x3, h) hO
      rintro ⟨x3, h⟩ hO
      rw [eH2]
      show G 2 [(0, .ref 251), (1, .int x1), (2, .int x2), (3, .int x3)] [] h
      have k2 : ∀ s : (Int32 × Hp), H2 s → G 2 [(0, .ref 251), (1, .int x1), (2, .int x2), (3, .int (s.1))] [] (s.2) := fun s q => by rw [eH2] at q; exact q
      replace hO : Okk (M_hears_b2 x1 x2 x3 h) (Sum.elim H2 P) := hO
      clear eH2
      have j28 : ∀ (x3 : Int32) (s1 : Int32) (s2 : Int32) (s3 : Int32) (h : Hp), Okk (M_hears_j28 x1 x2 x3 s1 s2 s3 h) (Sum.elim H2 P) → G 28 [(0, .ref 251), (1, .int x1), (2, .int x2), (3, .int x3)] [.int s3, .int s2, .int s1, .ref 270] h := by
        intro x3 s1 s2 s3 h hO
        unfold M_hears_j28 at hO
        obtain ⟨g1, hO⟩ := ok_if hO
        refine rbx hG 5 28 30 [.ior, .iastore] [] [] (wr h 270 (Int32.toNatClampNeg s1) (s2 ||| s3)) (fun h2 => [(0, .ref 251), (1, .int x1), (2, .int x2), (3, .int x3)]) (fun h2 => []) (fun h2 => h2) [kd 270 = 20 ∧ inb s1 (ln 270)] (by decide +kernel) rfl ⟨kd_270, g1⟩ hO (fun h2 hO => ?_)
        refine rbx hG 4 30 33 [.iinc 3 0] [1] [] ((x3 + (1 : Int32))) (fun y3 => [(3, .int y3), (0, .ref 251), (1, .int x1), (2, .int x2)]) (fun y3 => []) (fun y3 => h2) [] (by decide +kernel) rfl trivial hO (fun y3 hO => ?_)
        refine rb hG 4 33 2 [] [] [] [(3, .int y3), (0, .ref 251), (1, .int x1), (2, .int x2)] [] h2 [] (by decide +kernel) rfl trivial ?_
        refine rs hG [(0, .ref 251), (1, .int x1), (2, .int x2), (3, .int y3)] [1, 2, 3, 0] rfl ?_
        exact k2 (y3, h2) (ok_some (Q := (Sum.elim H2 P)) hO)
      unfold M_hears_b2 at hO
      refine rb hG 5 2 5 [.iload 3, .ldc_w 0] [8] [] [(0, .ref 251), (1, .int x1), (2, .int x2), (3, .int x3)] [.int (8 : Int32), .int x3] h [] (by decide +kernel) rfl trivial ?_
      refine rj hG .ge (31) 36 5 (by decide +kernel) (by decide) (fun c4 => ?_) (fun c4 => ?_)
      · have hO := ok_pos c4 hO
        refine rs hG [] [] rfl ?_
        exact j36 h (ok_inr hO)
      · have hO := ok_neg c4 hO
        obtain ⟨g5, hO⟩ := ok_if hO
        refine rb hG 10 8 17 [.aload 0, .invokeinterface 1234 19, .iload 3, .dup2, .iaload, .iload 1, .iload 3] [] [] [(0, .ref 251), (1, .int x1), (2, .int x2), (3, .int x3)] [.int x3, .int x1, .int (h.1 270 (Int32.toNatClampNeg x3)), .int x3, .ref 270] h [kd 251 = 12, kd 270 = 20 ∧ inb x3 (ln 270)] (by decide +kernel) rfl ⟨kd_251, ⟨kd_270, g5⟩⟩ ?_
        refine rt hG z_M_has 103 2 17 [.int x1, .int x3] [.int (h.1 270 (Int32.toNatClampNeg x3)), .int x3, .ref 270] (by decide +kernel) mk_M_has lk_12_103 rfl ⟨rfl, Nat.le_of_ble_eq_true rfl⟩ (c_M_has (d := d) h x1 x3 (ok_bind hO)) ?_
        rintro _ _ ⟨r6, rfl, rfl, hO⟩
        refine ri hG .eq (7) 27 20 (by decide +kernel) (by decide) (fun c7 => ?_) (fun c7 => ?_)
        · have hO := ok_pos c7 hO
          refine rb hG 4 27 28 [.ldc_w 0] [0] [] [(0, .ref 251), (1, .int x1), (2, .int x2), (3, .int x3)] [.int (0 : Int32), .int (h.1 270 (Int32.toNatClampNeg x3)), .int x3, .ref 270] h [] (by decide +kernel) rfl trivial ?_
          exact j28 x3 x3 (h.1 270 (Int32.toNatClampNeg x3)) (0 : Int32) h hO
        · have hO := ok_neg c7 hO
          refine rb hG 5 23 28 [.iload 2] [] [] [(0, .ref 251), (1, .int x1), (2, .int x2), (3, .int x3)] [.int x2, .int (h.1 270 (Int32.toNatClampNeg x3)), .int x3, .ref 270] h [] (by decide +kernel) rfl trivial ?_
          exact j28 x3 x3 (h.1 270 (Int32.toNatClampNeg x3)) x2 h hO
    rw [eH2] at w9
    exact w9
  refine rb hG 5 0 2 [.ldc_w 0, .istore 3] [0] [] [(3, .int (0 : Int32)), (0, .ref 251), (1, .int x1), (2, .int x2)] [] h [] (by decide +kernel) rfl trivial ?_
  refine rs hG [(0, .ref 251), (1, .int x1), (2, .int x2), (3, .int (0 : Int32))] [1, 2, 3, 0] rfl ?_
  exact l2 (0 : Int32) h hO
/-! GrainInnModel.couples(III)I -/
noncomputable def M_couples_j83 (x4 : Int32) (h : Hp) : Option Int32 := some x4
noncomputable def M_couples_j77 (x1 : Int32) (x2 : Int32) (x3 : Int32) (x4 : Int32) (x5 : Int32) (h : Hp) : Option ((Int32 × Int32) ⊕ Int32) := bnd ((x5 + (1 : Int32))) fun y1 => some (.inl (x4, y1))
noncomputable def M_couples_j68 (x1 : Int32) (x2 : Int32) (x3 : Int32) (x5 : Int32) (x6 : Int32) (s0 : Int32) (s1 : Int32) (h : Hp) : Option ((Int32 × Int32) ⊕ ((Int32 × Int32) ⊕ Int32)) := bnd ((s0 + s1)) fun y2 => bnd ((x6 + (1 : Int32))) fun y3 => some (.inl (y2, y3))
noncomputable def M_couples_j67 (x1 : Int32) (x2 : Int32) (x3 : Int32) (x5 : Int32) (x6 : Int32) (s0 : Int32) (h : Hp) : Option ((Int32 × Int32) ⊕ ((Int32 × Int32) ⊕ Int32)) := (M_couples_j68 x1 x2 x3 x5 x6 s0 (0 : Int32) h)
noncomputable def M_couples_b18 (x1 : Int32) (x2 : Int32) (x3 : Int32) (x4 : Int32) (x5 : Int32) (x6 : Int32) (h : Hp) : Option ((Int32 × Int32) ⊕ ((Int32 × Int32) ⊕ Int32)) := if (h.1 251 25) ≤ x6 then (((M_couples_j77 x1 x2 x3 x4 x5 h).map Sum.inr)) else ((M_has x1 x5).bind fun r5 => if r5 = 0 then ((M_couples_j67 x1 x2 x3 x5 x6 x4 h)) else ((M_has x2 x6).bind fun r7 => if r7 = 0 then ((M_couples_j67 x1 x2 x3 x5 x6 x4 h)) else ((M_of h (x3 + x5)).bind fun r9 => (M_has r9 x6).bind fun r10 => if r10 = 0 then ((M_couples_j67 x1 x2 x3 x5 x6 x4 h)) else ((M_couples_j68 x1 x2 x3 x5 x6 x4 (1 : Int32) h)))))
noncomputable def M_couples_l18 (x1 : Int32) (x2 : Int32) (x3 : Int32) (x4 : Int32) (x5 : Int32) (x6 : Int32) (h : Hp) : Option ((Int32 × Int32) ⊕ Int32) := lp (fun s : (Int32 × Int32) => M_couples_b18 x1 x2 x3 s.1 x5 s.2 h) (x4, x6)
theorem M_couples_l18_eq (x1 : Int32) (x2 : Int32) (x3 : Int32) (x4 : Int32) (x5 : Int32) (x6 : Int32) (h : Hp) : M_couples_l18 x1 x2 x3 x4 x5 x6 h = (M_couples_b18 x1 x2 x3 x4 x5 x6 h).bind (Sum.elim (fun q : (Int32 × Int32) => M_couples_l18 x1 x2 x3 q.1 x5 q.2 h) some) := lp_eq _ _
noncomputable def M_couples_b6 (x1 : Int32) (x2 : Int32) (x3 : Int32) (x4 : Int32) (x5 : Int32) (h : Hp) : Option ((Int32 × Int32) ⊕ Int32) := if (h.1 251 25) ≤ x5 then (((M_couples_j83 x4 h).map Sum.inr)) else ((M_couples_l18 x1 x2 x3 x4 x5 (0 : Int32) h))
noncomputable def M_couples_l6 (x1 : Int32) (x2 : Int32) (x3 : Int32) (x4 : Int32) (x5 : Int32) (h : Hp) : Option Int32 := lp (fun s : (Int32 × Int32) => M_couples_b6 x1 x2 x3 s.1 s.2 h) (x4, x5)
theorem M_couples_l6_eq (x1 : Int32) (x2 : Int32) (x3 : Int32) (x4 : Int32) (x5 : Int32) (h : Hp) : M_couples_l6 x1 x2 x3 x4 x5 h = (M_couples_b6 x1 x2 x3 x4 x5 h).bind (Sum.elim (fun q : (Int32 × Int32) => M_couples_l6 x1 x2 x3 q.1 q.2 h) some) := lp_eq _ _
noncomputable def M_couples (h : Hp) (x1 : Int32) (x2 : Int32) (x3 : Int32) : Option Int32 := (M_couples_l6 x1 x2 x3 (0 : Int32) (0 : Int32) h)
set_option maxRecDepth 100000 in
set_option maxHeartbeats 4000000 in
theorem c_M_couples {E : En} {d : Nat} (h : Hp) (x1 : Int32) (x2 : Int32) (x3 : Int32) {P : Int32 → Prop} (hO : Okk (M_couples h x1 x2 x3) P) : Cn E (d + 2) z_M_couples [.ref 251, .int x1, .int x2, .int x3] h (RIp h P) := by
  refine cn_of (on := 12) (d := d + 1) ⟨rfl, by decide +kernel, Nat.le_of_ble_eq_true rfl⟩ (fun G hG => ?_)
  unfold M_couples at hO
  show G 0 [(0, .ref 251), (1, .int x1), (2, .int x2), (3, .int x3)] [] h
  have j83 : ∀ (x4 : Int32), Okk (M_couples_j83 x4 h) P → G 83 [(4, .int x4)] [] h := by
    intro x4 hO
    unfold M_couples_j83 at hO
    refine rb hG 4 83 85 [.iload 4] [] [] [(4, .int x4)] [.int x4] h [] (by decide +kernel) rfl trivial ?_
    exact eI hG 85 (by decide +kernel) rfl ⟨x4, rfl, rfl, ok_some (Q := P) hO⟩
  have l6 : ∀ (x4 : Int32) (x5 : Int32), Okk (M_couples_l6 x1 x2 x3 x4 x5 h) P → G 6 [(0, .ref 251), (1, .int x1), (2, .int x2), (3, .int x3), (4, .int x4), (5, .int x5)] [] h := by
    intro x4 x5 hO
    obtain ⟨H6, eH6⟩ : ∃ q : (Int32 × Int32) → Prop, q = fun s => G 6 [(0, .ref 251), (1, .int x1), (2, .int x2), (3, .int x3), (4, .int (s.1)), (5, .int (s.2))] [] (h) := ⟨_, rfl⟩
    have w9 : H6 (x4, x5) := by
      refine lp_wp (f := fun s : (Int32 × Int32) => M_couples_b6 x1 x2 x3 s.1 s.2 h) (H := H6) (Q := P) ?_ (x4, x5) hO
      rintro ⟨x4, x5⟩ hO
      rw [eH6]
      show G 6 [(0, .ref 251), (1, .int x1), (2, .int x2), (3, .int x3), (4, .int x4), (5, .int x5)] [] h
      have k6 : ∀ s : (Int32 × Int32), H6 s → G 6 [(0, .ref 251), (1, .int x1), (2, .int x2), (3, .int x3), (4, .int (s.1)), (5, .int (s.2))] [] (h) := fun s q => by rw [eH6] at q; exact q
      replace hO : Okk (M_couples_b6 x1 x2 x3 x4 x5 h) (Sum.elim H6 P) := hO
      clear eH6
      have j77 : ∀ (x4 : Int32) (x5 : Int32), Okk (M_couples_j77 x1 x2 x3 x4 x5 h) (Sum.elim H6 P) → G 77 [(0, .ref 251), (1, .int x1), (2, .int x2), (3, .int x3), (4, .int x4), (5, .int x5)] [] h := by
        intro x4 x5 hO
        unfold M_couples_j77 at hO
        refine rbx hG 4 77 80 [.iinc 5 0] [1] [] ((x5 + (1 : Int32))) (fun y1 => [(5, .int y1), (0, .ref 251), (1, .int x1), (2, .int x2), (3, .int x3), (4, .int x4)]) (fun y1 => []) (fun y1 => h) [] (by decide +kernel) rfl trivial hO (fun y1 hO => ?_)
        refine rb hG 4 80 6 [] [] [] [(5, .int y1), (0, .ref 251), (1, .int x1), (2, .int x2), (3, .int x3), (4, .int x4)] [] h [] (by decide +kernel) rfl trivial ?_
        refine rs hG [(0, .ref 251), (1, .int x1), (2, .int x2), (3, .int x3), (4, .int x4), (5, .int y1)] [1, 2, 3, 4, 5, 0] rfl ?_
        exact k6 (x4, y1) (ok_some (Q := (Sum.elim H6 P)) hO)
      have l18 : ∀ (x4 : Int32) (x5 : Int32) (x6 : Int32), Okk (M_couples_l18 x1 x2 x3 x4 x5 x6 h) (Sum.elim H6 P) → G 18 [(0, .ref 251), (1, .int x1), (2, .int x2), (3, .int x3), (4, .int x4), (5, .int x5), (6, .int x6)] [] h := by
        intro x4 x5 x6 hO
        obtain ⟨H18, eH18⟩ : ∃ q : (Int32 × Int32) → Prop, q = fun s => G 18 [(0, .ref 251), (1, .int x1), (2, .int x2), (3, .int x3), (4, .int (s.1)), (5, .int x5), (6, .int (s.2))] [] (h) := ⟨_, rfl⟩
        have w9 : H18 (x4, x6) := by
          refine lp_wp (f := fun s : (Int32 × Int32) => M_couples_b18 x1 x2 x3 s.1 x5 s.2 h) (H := H18) (Q := (Sum.elim H6 P)) ?_ (x4, x6) hO
          rintro ⟨x4, x6⟩ hO
          rw [eH18]
          show G 18 [(0, .ref 251), (1, .int x1), (2, .int x2), (3, .int x3), (4, .int x4), (5, .int x5), (6, .int x6)] [] h
          have k18 : ∀ s : (Int32 × Int32), H18 s → G 18 [(0, .ref 251), (1, .int x1), (2, .int x2), (3, .int x3), (4, .int (s.1)), (5, .int x5), (6, .int (s.2))] [] (h) := fun s q => by rw [eH18] at q; exact q
          replace hO : Okk (M_couples_b18 x1 x2 x3 x4 x5 x6 h) (Sum.elim H18 (Sum.elim H6 P)) := hO
          clear eH18
          have j68 : ∀ (x6 : Int32) (s0 : Int32) (s1 : Int32), Okk (M_couples_j68 x1 x2 x3 x5 x6 s0 s1 h) (Sum.elim H18 (Sum.elim H6 P)) → G 68 [(0, .ref 251), (1, .int x1), (2, .int x2), (3, .int x3), (5, .int x5), (6, .int x6)] [.int s1, .int s0] h := by
            intro x6 s0 s1 hO
            unfold M_couples_j68 at hO
            refine rbx hG 5 68 71 [.iadd, .istore 4] [] [] ((s0 + s1)) (fun y2 => [(4, .int y2), (0, .ref 251), (1, .int x1), (2, .int x2), (3, .int x3), (5, .int x5), (6, .int x6)]) (fun y2 => []) (fun y2 => h) [] (by decide +kernel) rfl trivial hO (fun y2 hO => ?_)
            refine rbx hG 4 71 74 [.iinc 6 0] [1] [] ((x6 + (1 : Int32))) (fun y3 => [(6, .int y3), (4, .int y2), (0, .ref 251), (1, .int x1), (2, .int x2), (3, .int x3), (5, .int x5)]) (fun y3 => []) (fun y3 => h) [] (by decide +kernel) rfl trivial hO (fun y3 hO => ?_)
            refine rb hG 4 74 18 [] [] [] [(6, .int y3), (4, .int y2), (0, .ref 251), (1, .int x1), (2, .int x2), (3, .int x3), (5, .int x5)] [] h [] (by decide +kernel) rfl trivial ?_
            refine rs hG [(0, .ref 251), (1, .int x1), (2, .int x2), (3, .int x3), (4, .int y2), (5, .int x5), (6, .int y3)] [2, 3, 4, 5, 1, 6, 0] rfl ?_
            exact k18 (y2, y3) (ok_some (Q := (Sum.elim H18 (Sum.elim H6 P))) hO)
          have j67 : ∀ (x6 : Int32) (s0 : Int32), Okk (M_couples_j67 x1 x2 x3 x5 x6 s0 h) (Sum.elim H18 (Sum.elim H6 P)) → G 67 [(0, .ref 251), (1, .int x1), (2, .int x2), (3, .int x3), (5, .int x5), (6, .int x6)] [.int s0] h := by
            intro x6 s0 hO
            unfold M_couples_j67 at hO
            refine rb hG 4 67 68 [.ldc_w 0] [0] [] [(0, .ref 251), (1, .int x1), (2, .int x2), (3, .int x3), (5, .int x5), (6, .int x6)] [.int (0 : Int32), .int s0] h [] (by decide +kernel) rfl trivial ?_
            exact j68 x6 s0 (0 : Int32) hO
          unfold M_couples_b18 at hO
          refine rb hG 6 18 24 [.iload 6, .aload 0, .getfield 1225] [] [] [(0, .ref 251), (1, .int x1), (2, .int x2), (3, .int x3), (4, .int x4), (5, .int x5), (6, .int x6)] [.int (h.1 251 25), .int x6] h [kd 251 = 12] (by decide +kernel) rfl kd_251 ?_
          refine rj hG .ge (53) 77 24 (by decide +kernel) (by decide) (fun c4 => ?_) (fun c4 => ?_)
          · have hO := ok_pos c4 hO
            refine rs hG [(0, .ref 251), (1, .int x1), (2, .int x2), (3, .int x3), (4, .int x4), (5, .int x5)] [0, 1, 2, 3, 4, 5] rfl ?_
            exact j77 x4 x5 (ok_inr hO)
          · have hO := ok_neg c4 hO
            refine rb hG 6 27 32 [.iload 4, .iload 1, .iload 5] [] [] [(0, .ref 251), (1, .int x1), (2, .int x2), (3, .int x3), (4, .int x4), (5, .int x5), (6, .int x6)] [.int x5, .int x1, .int x4] h [] (by decide +kernel) rfl trivial ?_
            refine rt hG z_M_has 103 2 32 [.int x1, .int x5] [.int x4] (by decide +kernel) mk_M_has lk_12_103 rfl ⟨rfl, Nat.le_of_ble_eq_true rfl⟩ (c_M_has (d := d) h x1 x5 (ok_bind hO)) ?_
            rintro _ _ ⟨r5, rfl, rfl, hO⟩
            refine ri hG .eq (32) 67 35 (by decide +kernel) (by decide) (fun c6 => ?_) (fun c6 => ?_)
            · have hO := ok_pos c6 hO
              refine rs hG [(0, .ref 251), (1, .int x1), (2, .int x2), (3, .int x3), (5, .int x5), (6, .int x6)] [0, 1, 2, 3, 5, 6] rfl ?_
              exact j67 x6 x4 hO
            · have hO := ok_neg c6 hO
              refine rb hG 5 38 41 [.iload 2, .iload 6] [] [] [(0, .ref 251), (1, .int x1), (2, .int x2), (3, .int x3), (4, .int x4), (5, .int x5), (6, .int x6)] [.int x6, .int x2, .int x4] h [] (by decide +kernel) rfl trivial ?_
              refine rt hG z_M_has 103 2 41 [.int x2, .int x6] [.int x4] (by decide +kernel) mk_M_has lk_12_103 rfl ⟨rfl, Nat.le_of_ble_eq_true rfl⟩ (c_M_has (d := d) h x2 x6 (ok_bind hO)) ?_
              rintro _ _ ⟨r7, rfl, rfl, hO⟩
              refine ri hG .eq (23) 67 44 (by decide +kernel) (by decide) (fun c8 => ?_) (fun c8 => ?_)
              · have hO := ok_pos c8 hO
                refine rs hG [(0, .ref 251), (1, .int x1), (2, .int x2), (3, .int x3), (5, .int x5), (6, .int x6)] [0, 1, 2, 3, 5, 6] rfl ?_
                exact j67 x6 x4 hO
              · have hO := ok_neg c8 hO
                refine rb hG 7 47 52 [.aload 0, .iload 3, .iload 5, .iadd] [] [] [(0, .ref 251), (1, .int x1), (2, .int x2), (3, .int x3), (4, .int x4), (5, .int x5), (6, .int x6)] [.int (x3 + x5), .ref 251, .int x4] h [] (by decide +kernel) rfl trivial ?_
                refine rv hG z_M_of 270 1 52 251 [.int (x3 + x5)] [.int x4] (by decide +kernel) mk_M_of lk_12_270 rcv_251 rfl ⟨rfl, Nat.le_of_ble_eq_true rfl⟩ (c_M_of (d := d) h (x3 + x5) (ok_bind hO)) ?_
                rintro _ _ ⟨r9, rfl, rfl, hO⟩
                refine rb hG 4 55 57 [.iload 6] [] [] [(0, .ref 251), (1, .int x1), (2, .int x2), (3, .int x3), (4, .int x4), (5, .int x5), (6, .int x6)] [.int x6, .int r9, .int x4] h [] (by decide +kernel) rfl trivial ?_
                refine rt hG z_M_has 103 2 57 [.int r9, .int x6] [.int x4] (by decide +kernel) mk_M_has lk_12_103 rfl ⟨rfl, Nat.le_of_ble_eq_true rfl⟩ (c_M_has (d := d) h r9 x6 (ok_bind hO)) ?_
                rintro _ _ ⟨r10, rfl, rfl, hO⟩
                refine ri hG .eq (7) 67 60 (by decide +kernel) (by decide) (fun c11 => ?_) (fun c11 => ?_)
                · have hO := ok_pos c11 hO
                  refine rs hG [(0, .ref 251), (1, .int x1), (2, .int x2), (3, .int x3), (5, .int x5), (6, .int x6)] [0, 1, 2, 3, 5, 6] rfl ?_
                  exact j67 x6 x4 hO
                · have hO := ok_neg c11 hO
                  refine rb hG 5 63 68 [.ldc_w 0] [1] [] [(0, .ref 251), (1, .int x1), (2, .int x2), (3, .int x3), (4, .int x4), (5, .int x5), (6, .int x6)] [.int (1 : Int32), .int x4] h [] (by decide +kernel) rfl trivial ?_
                  refine rs hG [(0, .ref 251), (1, .int x1), (2, .int x2), (3, .int x3), (5, .int x5), (6, .int x6)] [0, 1, 2, 3, 5, 6] rfl ?_
                  exact j68 x6 x4 (1 : Int32) hO
        rw [eH18] at w9
        exact w9
      unfold M_couples_b6 at hO
      refine rb hG 6 6 12 [.iload 5, .aload 0, .getfield 1225] [] [] [(0, .ref 251), (1, .int x1), (2, .int x2), (3, .int x3), (4, .int x4), (5, .int x5)] [.int (h.1 251 25), .int x5] h [kd 251 = 12] (by decide +kernel) rfl kd_251 ?_
      refine rj hG .ge (71) 83 12 (by decide +kernel) (by decide) (fun c12 => ?_) (fun c12 => ?_)
      · have hO := ok_pos c12 hO
        refine rs hG [(4, .int x4)] [4] rfl ?_
        exact j83 x4 (ok_inr hO)
      · have hO := ok_neg c12 hO
        refine rb hG 5 15 18 [.ldc_w 0, .istore 6] [0] [] [(6, .int (0 : Int32)), (0, .ref 251), (1, .int x1), (2, .int x2), (3, .int x3), (4, .int x4), (5, .int x5)] [] h [] (by decide +kernel) rfl trivial ?_
        refine rs hG [(0, .ref 251), (1, .int x1), (2, .int x2), (3, .int x3), (4, .int x4), (5, .int x5), (6, .int (0 : Int32))] [1, 2, 3, 4, 5, 6, 0] rfl ?_
        exact l18 x4 x5 (0 : Int32) hO
    rw [eH6] at w9
    exact w9
  refine rb hG 7 0 6 [.ldc_w 0, .istore 4, .ldc_w 0, .istore 5] [0] [] [(5, .int (0 : Int32)), (4, .int (0 : Int32)), (0, .ref 251), (1, .int x1), (2, .int x2), (3, .int x3)] [] h [] (by decide +kernel) rfl trivial ?_
  refine rs hG [(0, .ref 251), (1, .int x1), (2, .int x2), (3, .int x3), (4, .int (0 : Int32)), (5, .int (0 : Int32))] [2, 3, 4, 5, 1, 0] rfl ?_
  exact l6 (0 : Int32) (0 : Int32) hO
/-! GrainInnModel.leastOf(I)I -/
noncomputable def M_leastOf_j16 (x2 : Int32) : Option Int32 := some x2
noncomputable def M_leastOf_b2 (x1 : Int32) (x2 : Int32) : Option ((Int32) ⊕ Int32) := (M_has x1 x2).bind fun r1 => if r1 = 0 then (bnd ((x2 + (1 : Int32))) fun y3 => some (.inl y3)) else (((M_leastOf_j16 x2).map Sum.inr))
noncomputable def M_leastOf_l2 (x1 : Int32) (x2 : Int32) : Option Int32 := lp (fun s : (Int32) => M_leastOf_b2 x1 s) (x2)
theorem M_leastOf_l2_eq (x1 : Int32) (x2 : Int32) : M_leastOf_l2 x1 x2 = (M_leastOf_b2 x1 x2).bind (Sum.elim (fun q : (Int32) => M_leastOf_l2 x1 q) some) := lp_eq _ _
noncomputable def M_leastOf (x1 : Int32) : Option Int32 := (M_leastOf_l2 x1 (0 : Int32))
set_option maxRecDepth 100000 in
set_option maxHeartbeats 4000000 in
theorem c_M_leastOf {E : En} {d : Nat} (h : Hp) (x1 : Int32) {P : Int32 → Prop} (hO : Okk (M_leastOf x1) P) : Cn E (d + 2) z_M_leastOf [.ref 251, .int x1] h (RIp h P) := by
  refine cn_of (on := 12) (d := d + 1) ⟨rfl, by decide +kernel, Nat.le_of_ble_eq_true rfl⟩ (fun G hG => ?_)
  unfold M_leastOf at hO
  show G 0 [(0, .ref 251), (1, .int x1)] [] h
  have j16 : ∀ (x2 : Int32), Okk (M_leastOf_j16 x2) P → G 16 [(2, .int x2)] [] h := by
    intro x2 hO
    unfold M_leastOf_j16 at hO
    refine rb hG 4 16 17 [.iload 2] [] [] [(2, .int x2)] [.int x2] h [] (by decide +kernel) rfl trivial ?_
    exact eI hG 17 (by decide +kernel) rfl ⟨x2, rfl, rfl, ok_some (Q := P) hO⟩
  have l2 : ∀ (x2 : Int32), Okk (M_leastOf_l2 x1 x2) P → G 2 [(1, .int x1), (2, .int x2)] [] h := by
    intro x2 hO
    obtain ⟨H2, eH2⟩ : ∃ q : (Int32) → Prop, q = fun s => G 2 [(1, .int x1), (2, .int (s))] [] (h) := ⟨_, rfl⟩
    have w9 : H2 (x2) := by
      refine lp_wp (f := fun s : (Int32) => M_leastOf_b2 x1 s) (H := H2) (Q := P) ?_ (x2) hO
      intro x2 hO
      rw [eH2]
      show G 2 [(1, .int x1), (2, .int x2)] [] h
      have k2 : ∀ s : (Int32), H2 s → G 2 [(1, .int x1), (2, .int (s))] [] (h) := fun s q => by rw [eH2] at q; exact q
      replace hO : Okk (M_leastOf_b2 x1 x2) (Sum.elim H2 P) := hO
      clear eH2
      unfold M_leastOf_b2 at hO
      refine rb hG 5 2 4 [.iload 1, .iload 2] [] [] [(1, .int x1), (2, .int x2)] [.int x2, .int x1] h [] (by decide +kernel) rfl trivial ?_
      refine rt hG z_M_has 103 2 4 [.int x1, .int x2] [] (by decide +kernel) mk_M_has lk_12_103 rfl ⟨rfl, Nat.le_of_ble_eq_true rfl⟩ (c_M_has (d := d) h x1 x2 (ok_bind hO)) ?_
      rintro _ _ ⟨r1, rfl, rfl, hO⟩
      refine riN hG (9) 16 7 (by decide +kernel) (by decide) (fun c2 => ?_) (fun c2 => ?_)
      · have hO := ok_pos c2 hO
        refine rbx hG 4 10 13 [.iinc 2 0] [1] [] ((x2 + (1 : Int32))) (fun y3 => [(2, .int y3), (1, .int x1)]) (fun y3 => []) (fun y3 => h) [] (by decide +kernel) rfl trivial hO (fun y3 hO => ?_)
        refine rb hG 4 13 2 [] [] [] [(2, .int y3), (1, .int x1)] [] h [] (by decide +kernel) rfl trivial ?_
        refine rs hG [(1, .int x1), (2, .int y3)] [1, 0] rfl ?_
        exact k2 y3 (ok_some (Q := (Sum.elim H2 P)) hO)
      · have hO := ok_neg c2 hO
        refine rs hG [(2, .int x2)] [1] rfl ?_
        exact j16 x2 (ok_inr hO)
    rw [eH2] at w9
    exact w9
  refine rb hG 5 0 2 [.ldc_w 0, .istore 2] [0] [] [(2, .int (0 : Int32)), (0, .ref 251), (1, .int x1)] [] h [] (by decide +kernel) rfl trivial ?_
  refine rs hG [(1, .int x1), (2, .int (0 : Int32))] [2, 0] rfl ?_
  exact l2 (0 : Int32) hO
/-! GrainInnModel.repeats(II)V -/
noncomputable def M_repeats_j177 (h : Hp) : Option Hp := some h
noncomputable def M_repeats_j171 (x4 : Int32) (x5 : Int32) (x6 : Int32) (x7 : Int32) (h : Hp) : Option ((Int32 × Hp) ⊕ Hp) := bnd ((x7 + (1 : Int32))) fun y1 => some (.inl (y1, h))
noncomputable def M_repeats_j169 (x4 : Int32) (x5 : Int32) (x6 : Int32) (x7 : Int32) (s1 : Int32) (s2 : Int32) (s3 : Int32) (h : Hp) : Option ((Int32 × Hp) ⊕ Hp) := if inb s1 (ln 272) then (bnd (wr h 272 (Int32.toNatClampNeg s1) (s2 + s3)) fun h3 => (M_repeats_j171 x4 x5 x6 x7 h3)) else none
noncomputable def M_repeats_b113 (x4 : Int32) (x5 : Int32) (x6 : Int32) (x7 : Int32) (h : Hp) : Option ((Int32 × Hp) ⊕ Hp) := if (8 : Int32) ≤ x7 then (((M_repeats_j177 h).map Sum.inr)) else ((M_has x4 x7).bind fun r5 => if r5 = 0 then ((M_repeats_j171 x4 x5 x6 x7 h)) else (if inb x5 (ln 271) then (if inb x5 (ln 271) then (bnd (wr h 271 (Int32.toNatClampNeg x5) ((h.1 271 (Int32.toNatClampNeg x5)) + x6)) fun h9 => if inb (((8 : Int32) * x5) + x7) (ln 272) then (if x7 = x5 then ((M_repeats_j169 x4 x5 x6 x7 (((8 : Int32) * x5) + x7) (h9.1 272 (Int32.toNatClampNeg (((8 : Int32) * x5) + x7))) (0 : Int32) h9)) else ((M_repeats_j169 x4 x5 x6 x7 (((8 : Int32) * x5) + x7) (h9.1 272 (Int32.toNatClampNeg (((8 : Int32) * x5) + x7))) x6 h9))) else none) else none) else none))
noncomputable def M_repeats_l113 (x4 : Int32) (x5 : Int32) (x6 : Int32) (x7 : Int32) (h : Hp) : Option Hp := lp (fun s : (Int32 × Hp) => M_repeats_b113 x4 x5 x6 s.1 s.2) (x7, h)
theorem M_repeats_l113_eq (x4 : Int32) (x5 : Int32) (x6 : Int32) (x7 : Int32) (h : Hp) : M_repeats_l113 x4 x5 x6 x7 h = (M_repeats_b113 x4 x5 x6 x7 h).bind (Sum.elim (fun q : (Int32 × Hp) => M_repeats_l113 x4 x5 x6 q.1 q.2) some) := lp_eq _ _
noncomputable def M_repeats (h : Hp) (x1 : Int32) (x2 : Int32) : Option Hp := if inb x1 (ln 267) then (bnd ((((16 : Int32) * x1) + (h.1 267 (Int32.toNatClampNeg x1)))) fun y13 => if inb y13 (ln 263) then (bnd ((h.1 263 (Int32.toNatClampNeg y13))) fun y15 => if inb y13 (ln 264) then ((M_hears h x2 (h.1 264 (Int32.toNatClampNeg y13))).bind fun h17 => (M_meet h17 x2 y15).bind fun h18 => (M_couples h18 x2 y15 (17 : Int32)).bind fun r19 => bnd (wr h18 251 39 ((h18.1 251 39) + r19)) fun h20 => (M_couples h20 x2 y15 (25 : Int32)).bind fun r21 => bnd (wr h20 251 40 ((h20.1 251 40) + r21)) fun h22 => if inb x1 (ln 267) then (if inb x1 (ln 266) then (if ¬ (h22.1 266 (Int32.toNatClampNeg x1)) = 0 then (if inb x1 (ln 267) then (bnd (wr h22 267 (Int32.toNatClampNeg x1) (rm ((h22.1 267 (Int32.toNatClampNeg x1)) + (1 : Int32)) (h22.1 266 (Int32.toNatClampNeg x1)))) fun h27 => (M_leastOf x2).bind fun r28 => (M_ofTable h27 x1 (2 : Int32)).bind fun r29 => (M_repeats_l113 y15 r28 r29 (0 : Int32) h27)) else none) else none) else none) else none) else none) else none) else none
set_option maxRecDepth 100000 in
set_option maxHeartbeats 4000000 in
theorem c_M_repeats {E : En} {d : Nat} (h : Hp) (x1 : Int32) (x2 : Int32) {P : Hp → Prop} (hO : Okk (M_repeats h x1 x2) P) : Cn E (d + 3) z_M_repeats [.ref 251, .int x1, .int x2] h (RV P) := by
  refine cn_of (on := 12) (d := d + 2) ⟨rfl, by decide +kernel, Nat.le_of_ble_eq_true rfl⟩ (fun G hG => ?_)
  unfold M_repeats at hO
  show G 0 [(0, .ref 251), (1, .int x1), (2, .int x2)] [] h
  have j177 : ∀ (h : Hp), Okk (M_repeats_j177 h) P → G 177 [] [] h := by
    intro h hO
    unfold M_repeats_j177 at hO
    exact eV hG 177 (by decide +kernel) rfl ⟨rfl, ok_some (Q := P) hO⟩
  have l113 : ∀ (x4 : Int32) (x5 : Int32) (x6 : Int32) (x7 : Int32) (h : Hp), Okk (M_repeats_l113 x4 x5 x6 x7 h) P → G 113 [(0, .ref 251), (4, .int x4), (5, .int x5), (6, .int x6), (7, .int x7)] [] h := by
    intro x4 x5 x6 x7 h hO
    obtain ⟨H113, eH113⟩ : ∃ q : (Int32 × Hp) → Prop, q = fun s => G 113 [(0, .ref 251), (4, .int x4), (5, .int x5), (6, .int x6), (7, .int (s.1))] [] (s.2) := ⟨_, rfl⟩
    have w9 : H113 (x7, h) := by
      refine lp_wp (f := fun s : (Int32 × Hp) => M_repeats_b113 x4 x5 x6 s.1 s.2) (H := H113) (Q := P) ?_ (x7, h) hO
      rintro ⟨x7, h⟩ hO
      rw [eH113]
      show G 113 [(0, .ref 251), (4, .int x4), (5, .int x5), (6, .int x6), (7, .int x7)] [] h
      have k113 : ∀ s : (Int32 × Hp), H113 s → G 113 [(0, .ref 251), (4, .int x4), (5, .int x5), (6, .int x6), (7, .int (s.1))] [] (s.2) := fun s q => by rw [eH113] at q; exact q
      replace hO : Okk (M_repeats_b113 x4 x5 x6 x7 h) (Sum.elim H113 P) := hO
      clear eH113
      have j171 : ∀ (x7 : Int32) (h : Hp), Okk (M_repeats_j171 x4 x5 x6 x7 h) (Sum.elim H113 P) → G 171 [(0, .ref 251), (4, .int x4), (5, .int x5), (6, .int x6), (7, .int x7)] [] h := by
        intro x7 h hO
        unfold M_repeats_j171 at hO
        refine rbx hG 4 171 174 [.iinc 7 0] [1] [] ((x7 + (1 : Int32))) (fun y1 => [(7, .int y1), (0, .ref 251), (4, .int x4), (5, .int x5), (6, .int x6)]) (fun y1 => []) (fun y1 => h) [] (by decide +kernel) rfl trivial hO (fun y1 hO => ?_)
        refine rb hG 4 174 113 [] [] [] [(7, .int y1), (0, .ref 251), (4, .int x4), (5, .int x5), (6, .int x6)] [] h [] (by decide +kernel) rfl trivial ?_
        refine rs hG [(0, .ref 251), (4, .int x4), (5, .int x5), (6, .int x6), (7, .int y1)] [1, 2, 3, 4, 0] rfl ?_
        exact k113 (y1, h) (ok_some (Q := (Sum.elim H113 P)) hO)
      have j169 : ∀ (x7 : Int32) (s1 : Int32) (s2 : Int32) (s3 : Int32) (h : Hp), Okk (M_repeats_j169 x4 x5 x6 x7 s1 s2 s3 h) (Sum.elim H113 P) → G 169 [(0, .ref 251), (4, .int x4), (5, .int x5), (6, .int x6), (7, .int x7)] [.int s3, .int s2, .int s1, .ref 272] h := by
        intro x7 s1 s2 s3 h hO
        unfold M_repeats_j169 at hO
        obtain ⟨g2, hO⟩ := ok_if hO
        refine rbx hG 5 169 171 [.iadd, .iastore] [] [] (wr h 272 (Int32.toNatClampNeg s1) (s2 + s3)) (fun h3 => [(0, .ref 251), (4, .int x4), (5, .int x5), (6, .int x6), (7, .int x7)]) (fun h3 => []) (fun h3 => h3) [kd 272 = 20 ∧ inb s1 (ln 272)] (by decide +kernel) rfl ⟨kd_272, g2⟩ hO (fun h3 hO => ?_)
        exact j171 x7 h3 hO
      unfold M_repeats_b113 at hO
      refine rb hG 5 113 117 [.iload 7, .ldc_w 0] [8] [] [(0, .ref 251), (4, .int x4), (5, .int x5), (6, .int x6), (7, .int x7)] [.int (8 : Int32), .int x7] h [] (by decide +kernel) rfl trivial ?_
      refine rj hG .ge (60) 177 117 (by decide +kernel) (by decide) (fun c4 => ?_) (fun c4 => ?_)
      · have hO := ok_pos c4 hO
        refine rs hG [] [] rfl ?_
        exact j177 h (ok_inr hO)
      · have hO := ok_neg c4 hO
        refine rb hG 5 120 124 [.iload 4, .iload 7] [] [] [(0, .ref 251), (4, .int x4), (5, .int x5), (6, .int x6), (7, .int x7)] [.int x7, .int x4] h [] (by decide +kernel) rfl trivial ?_
        refine rt hG z_M_has 103 2 124 [.int x4, .int x7] [] (by decide +kernel) mk_M_has lk_12_103 rfl ⟨rfl, Nat.le_of_ble_eq_true rfl⟩ (c_M_has (d := d + 1) h x4 x7 (ok_bind hO)) ?_
        rintro _ _ ⟨r5, rfl, rfl, hO⟩
        refine ri hG .eq (44) 171 127 (by decide +kernel) (by decide) (fun c6 => ?_) (fun c6 => ?_)
        · have hO := ok_pos c6 hO
          exact j171 x7 h hO
        · have hO := ok_neg c6 hO
          obtain ⟨g7, hO⟩ := ok_if hO
          obtain ⟨g8, hO⟩ := ok_if hO
          refine rbx hG 11 130 142 [.aload 0, .invokeinterface 1235 20, .iload 5, .dup2, .iaload, .iload 6, .iadd, .iastore] [] [] (wr h 271 (Int32.toNatClampNeg x5) ((h.1 271 (Int32.toNatClampNeg x5)) + x6)) (fun h9 => [(0, .ref 251), (4, .int x4), (5, .int x5), (6, .int x6), (7, .int x7)]) (fun h9 => []) (fun h9 => h9) [kd 251 = 12, kd 271 = 20 ∧ inb x5 (ln 271), kd 271 = 20 ∧ inb x5 (ln 271)] (by decide +kernel) rfl ⟨kd_251, ⟨kd_271, g7⟩, ⟨kd_271, g8⟩⟩ hO (fun h9 hO => ?_)
          obtain ⟨g10, hO⟩ := ok_if hO
          refine rb hG 14 142 160 [.aload 0, .invokeinterface 1236 21, .ldc_w 0, .iload 5, .imul, .iload 7, .iadd, .dup2, .iaload, .iload 7, .iload 5] [8] [] [(0, .ref 251), (4, .int x4), (5, .int x5), (6, .int x6), (7, .int x7)] [.int x5, .int x7, .int (h9.1 272 (Int32.toNatClampNeg (((8 : Int32) * x5) + x7))), .int (((8 : Int32) * x5) + x7), .ref 272] h9 [kd 251 = 12, kd 272 = 20 ∧ inb (((8 : Int32) * x5) + x7) (ln 272)] (by decide +kernel) rfl ⟨kd_251, ⟨kd_272, g10⟩⟩ ?_
          refine rjN hG (7) 167 160 (by decide +kernel) (by decide) (fun c11 => ?_) (fun c11 => ?_)
          · have hO := ok_pos c11 hO
            refine rb hG 5 163 169 [.ldc_w 0] [0] [] [(0, .ref 251), (4, .int x4), (5, .int x5), (6, .int x6), (7, .int x7)] [.int (0 : Int32), .int (h9.1 272 (Int32.toNatClampNeg (((8 : Int32) * x5) + x7))), .int (((8 : Int32) * x5) + x7), .ref 272] h9 [] (by decide +kernel) rfl trivial ?_
            exact j169 x7 (((8 : Int32) * x5) + x7) (h9.1 272 (Int32.toNatClampNeg (((8 : Int32) * x5) + x7))) (0 : Int32) h9 hO
          · have hO := ok_neg c11 hO
            refine rb hG 4 167 169 [.iload 6] [] [] [(0, .ref 251), (4, .int x4), (5, .int x5), (6, .int x6), (7, .int x7)] [.int x6, .int (h9.1 272 (Int32.toNatClampNeg (((8 : Int32) * x5) + x7))), .int (((8 : Int32) * x5) + x7), .ref 272] h9 [] (by decide +kernel) rfl trivial ?_
            exact j169 x7 (((8 : Int32) * x5) + x7) (h9.1 272 (Int32.toNatClampNeg (((8 : Int32) * x5) + x7))) x6 h9 hO
    rw [eH113] at w9
    exact w9
  obtain ⟨g12, hO⟩ := ok_if hO
  refine rbx hG 12 0 12 [.ldc_w 0, .iload 1, .imul, .aload 0, .invokeinterface 1231 16, .iload 1, .iaload, .iadd, .istore 3] [16] [] ((((16 : Int32) * x1) + (h.1 267 (Int32.toNatClampNeg x1)))) (fun y13 => [(3, .int y13), (0, .ref 251), (1, .int x1), (2, .int x2)]) (fun y13 => []) (fun y13 => h) [kd 251 = 12, kd 267 = 20 ∧ inb x1 (ln 267)] (by decide +kernel) rfl ⟨kd_251, ⟨kd_267, g12⟩⟩ hO (fun y13 hO => ?_)
  obtain ⟨g14, hO⟩ := ok_if hO
  refine rbx hG 8 12 20 [.aload 0, .invokeinterface 1227 12, .iload 3, .iaload, .istore 4] [] [] ((h.1 263 (Int32.toNatClampNeg y13))) (fun y15 => [(4, .int y15), (3, .int y13), (0, .ref 251), (1, .int x1), (2, .int x2)]) (fun y15 => []) (fun y15 => h) [kd 251 = 12, kd 263 = 20 ∧ inb y13 (ln 263)] (by decide +kernel) rfl ⟨kd_251, ⟨kd_263, g14⟩⟩ hO (fun y15 hO => ?_)
  obtain ⟨g16, hO⟩ := ok_if hO
  refine rb hG 9 20 28 [.aload 0, .iload 2, .aload 0, .invokeinterface 1228 13, .iload 3, .iaload] [] [] [(4, .int y15), (3, .int y13), (0, .ref 251), (1, .int x1), (2, .int x2)] [.int (h.1 264 (Int32.toNatClampNeg y13)), .int x2, .ref 251] h [kd 251 = 12, kd 264 = 20 ∧ inb y13 (ln 264)] (by decide +kernel) rfl ⟨kd_251, ⟨kd_264, g16⟩⟩ ?_
  refine rv hG z_M_hears 307 2 28 251 [.int x2, .int (h.1 264 (Int32.toNatClampNeg y13))] [] (by decide +kernel) mk_M_hears lk_12_307 rcv_251 rfl ⟨rfl, Nat.le_of_ble_eq_true rfl⟩ (c_M_hears (d := d) h x2 (h.1 264 (Int32.toNatClampNeg y13)) (ok_bind hO)) ?_
  rintro _ h17 ⟨rfl, hO⟩
  refine rb hG 6 31 35 [.aload 0, .iload 2, .iload 4] [] [] [(4, .int y15), (3, .int y13), (0, .ref 251), (1, .int x1), (2, .int x2)] [.int y15, .int x2, .ref 251] h17 [] (by decide +kernel) rfl trivial ?_
  refine rv hG z_M_meet 310 2 35 251 [.int x2, .int y15] [] (by decide +kernel) mk_M_meet lk_12_310 rcv_251 rfl ⟨rfl, Nat.le_of_ble_eq_true rfl⟩ (c_M_meet (d := d) h17 x2 y15 (ok_bind hO)) ?_
  rintro _ h18 ⟨rfl, hO⟩
  refine rb hG 10 38 49 [.aload 0, .dup, .getfield 1239, .aload 0, .iload 2, .iload 4, .ldc_w 0] [17] [] [(4, .int y15), (3, .int y13), (0, .ref 251), (1, .int x1), (2, .int x2)] [.int (17 : Int32), .int y15, .int x2, .ref 251, .int (h18.1 251 39), .ref 251] h18 [kd 251 = 12] (by decide +kernel) rfl kd_251 ?_
  refine rv hG z_M_couples 313 3 49 251 [.int x2, .int y15, .int (17 : Int32)] [.int (h18.1 251 39), .ref 251] (by decide +kernel) mk_M_couples lk_12_313 rcv_251 rfl ⟨rfl, Nat.le_of_ble_eq_true rfl⟩ (c_M_couples (d := d) h18 x2 y15 (17 : Int32) (ok_bind hO)) ?_
  rintro _ _ ⟨r19, rfl, rfl, hO⟩
  refine rbx hG 5 52 56 [.iadd, .putfield 1239] [] [] (wr h18 251 39 ((h18.1 251 39) + r19)) (fun h20 => [(4, .int y15), (3, .int y13), (0, .ref 251), (1, .int x1), (2, .int x2)]) (fun h20 => []) (fun h20 => h20) [kd 251 = 12] (by decide +kernel) rfl kd_251 hO (fun h20 hO => ?_)
  refine rb hG 10 56 67 [.aload 0, .dup, .getfield 1240, .aload 0, .iload 2, .iload 4, .ldc_w 0] [25] [] [(4, .int y15), (3, .int y13), (0, .ref 251), (1, .int x1), (2, .int x2)] [.int (25 : Int32), .int y15, .int x2, .ref 251, .int (h20.1 251 40), .ref 251] h20 [kd 251 = 12] (by decide +kernel) rfl kd_251 ?_
  refine rv hG z_M_couples 313 3 67 251 [.int x2, .int y15, .int (25 : Int32)] [.int (h20.1 251 40), .ref 251] (by decide +kernel) mk_M_couples lk_12_313 rcv_251 rfl ⟨rfl, Nat.le_of_ble_eq_true rfl⟩ (c_M_couples (d := d) h20 x2 y15 (25 : Int32) (ok_bind hO)) ?_
  rintro _ _ ⟨r21, rfl, rfl, hO⟩
  refine rbx hG 5 70 74 [.iadd, .putfield 1240] [] [] (wr h20 251 40 ((h20.1 251 40) + r21)) (fun h22 => [(4, .int y15), (3, .int y13), (0, .ref 251), (1, .int x1), (2, .int x2)]) (fun h22 => []) (fun h22 => h22) [kd 251 = 12] (by decide +kernel) rfl kd_251 hO (fun h22 hO => ?_)
  obtain ⟨g23, hO⟩ := ok_if hO
  obtain ⟨g24, hO⟩ := ok_if hO
  obtain ⟨g25, hO⟩ := ok_if hO
  obtain ⟨g26, hO⟩ := ok_if hO
  refine rbx hG 18 74 95 [.aload 0, .invokeinterface 1231 16, .iload 1, .aload 0, .invokeinterface 1231 16, .iload 1, .iaload, .ldc_w 0, .iadd, .aload 0, .invokeinterface 1230 15, .iload 1, .iaload, .irem, .iastore] [1] [] (wr h22 267 (Int32.toNatClampNeg x1) (rm ((h22.1 267 (Int32.toNatClampNeg x1)) + (1 : Int32)) (h22.1 266 (Int32.toNatClampNeg x1)))) (fun h27 => [(4, .int y15), (3, .int y13), (0, .ref 251), (1, .int x1), (2, .int x2)]) (fun h27 => []) (fun h27 => h27) [kd 251 = 12, kd 251 = 12, kd 267 = 20 ∧ inb x1 (ln 267), kd 251 = 12, kd 266 = 20 ∧ inb x1 (ln 266), ¬ (h22.1 266 (Int32.toNatClampNeg x1)) = 0, kd 267 = 20 ∧ inb x1 (ln 267)] (by decide +kernel) rfl ⟨kd_251, kd_251, ⟨kd_267, g23⟩, kd_251, ⟨kd_266, g24⟩, g25, ⟨kd_267, g26⟩⟩ hO (fun h27 hO => ?_)
  refine rb hG 5 95 97 [.aload 0, .iload 2] [] [] [(4, .int y15), (3, .int y13), (0, .ref 251), (1, .int x1), (2, .int x2)] [.int x2, .ref 251] h27 [] (by decide +kernel) rfl trivial ?_
  refine rv hG z_M_leastOf 317 1 97 251 [.int x2] [] (by decide +kernel) mk_M_leastOf lk_12_317 rcv_251 rfl ⟨rfl, Nat.le_of_ble_eq_true rfl⟩ (c_M_leastOf (d := d) h27 x2 (ok_bind hO)) ?_
  rintro _ _ ⟨r28, rfl, rfl, hO⟩
  refine rb hG 7 100 105 [.istore 5, .aload 0, .iload 1, .ldc_w 0] [2] [] [(5, .int r28), (4, .int y15), (3, .int y13), (0, .ref 251), (1, .int x1), (2, .int x2)] [.int (2 : Int32), .int x1, .ref 251] h27 [] (by decide +kernel) rfl trivial ?_
  refine rv hG z_M_ofTable 283 2 105 251 [.int x1, .int (2 : Int32)] [] (by decide +kernel) mk_M_ofTable lk_12_283 rcv_251 rfl ⟨rfl, Nat.le_of_ble_eq_true rfl⟩ (c_M_ofTable (d := d) h27 x1 (2 : Int32) (ok_bind hO)) ?_
  rintro _ _ ⟨r29, rfl, rfl, hO⟩
  refine rb hG 6 108 113 [.istore 6, .ldc_w 0, .istore 7] [0] [] [(7, .int (0 : Int32)), (6, .int r29), (5, .int r28), (4, .int y15), (3, .int y13), (0, .ref 251), (1, .int x1), (2, .int x2)] [] h27 [] (by decide +kernel) rfl trivial ?_
  refine rs hG [(0, .ref 251), (4, .int y15), (5, .int r28), (6, .int r29), (7, .int (0 : Int32))] [5, 3, 2, 1, 0] rfl ?_
  exact l113 y15 r28 r29 (0 : Int32) h27 hO
/-! GrainInnModel.sitsDown(II)V -/
noncomputable def M_sitsDown_j76 (h : Hp) : Option Hp := some h
noncomputable def M_sitsDown_j61 (x1 : Int32) (x2 : Int32) (h : Hp) : Option Hp := if inb x1 (ln 266) then (if (h.1 266 (Int32.toNatClampNeg x1)) ≤ 0 then ((M_sitsDown_j76 h)) else ((M_repeats h x1 x2).bind fun h3 => (M_sitsDown_j76 h3))) else none
noncomputable def M_sitsDown_j53 (x1 : Int32) (x2 : Int32) (x3 : Int32) (s1 : Int32) (s2 : Int32) (s3 : Int32) (h : Hp) : Option ((Int32 × Hp) ⊕ Hp) := if inb s1 (ln 271) then (bnd (wr h 271 (Int32.toNatClampNeg s1) (s2 + s3)) fun h5 => bnd ((x3 + (1 : Int32))) fun y6 => some (.inl (y6, h5))) else none
noncomputable def M_sitsDown_b22 (x1 : Int32) (x2 : Int32) (x3 : Int32) (h : Hp) : Option ((Int32 × Hp) ⊕ Hp) := if (8 : Int32) ≤ x3 then (((M_sitsDown_j61 x1 x2 h).map Sum.inr)) else (if inb x3 (ln 271) then ((M_has x2 x3).bind fun r9 => if r9 = 0 then ((M_sitsDown_j53 x1 x2 x3 x3 (h.1 271 (Int32.toNatClampNeg x3)) (0 : Int32) h)) else ((M_ofTable h x1 (2 : Int32)).bind fun r11 => (M_sitsDown_j53 x1 x2 x3 x3 (h.1 271 (Int32.toNatClampNeg x3)) r11 h))) else none)
noncomputable def M_sitsDown_l22 (x1 : Int32) (x2 : Int32) (x3 : Int32) (h : Hp) : Option Hp := lp (fun s : (Int32 × Hp) => M_sitsDown_b22 x1 x2 s.1 s.2) (x3, h)
theorem M_sitsDown_l22_eq (x1 : Int32) (x2 : Int32) (x3 : Int32) (h : Hp) : M_sitsDown_l22 x1 x2 x3 h = (M_sitsDown_b22 x1 x2 x3 h).bind (Sum.elim (fun q : (Int32 × Hp) => M_sitsDown_l22 x1 x2 q.1 q.2) some) := lp_eq _ _
noncomputable def M_sitsDown (h : Hp) (x1 : Int32) (x2 : Int32) : Option Hp := if inb x1 (ln 268) then (bnd (wr h 268 (Int32.toNatClampNeg x1) x2) fun h13 => if inb x1 (ln 269) then (bnd (wr h13 269 (Int32.toNatClampNeg x1) (0 : Int32)) fun h15 => (M_meet h15 x2 x2).bind fun h16 => (M_sitsDown_l22 x1 x2 (0 : Int32) h16)) else none) else none
set_option maxRecDepth 100000 in
set_option maxHeartbeats 4000000 in
theorem c_M_sitsDown {E : En} {d : Nat} (h : Hp) (x1 : Int32) (x2 : Int32) {P : Hp → Prop} (hO : Okk (M_sitsDown h x1 x2) P) : Cn E (d + 4) z_M_sitsDown [.ref 251, .int x1, .int x2] h (RV P) := by
  refine cn_of (on := 12) (d := d + 3) ⟨rfl, by decide +kernel, Nat.le_of_ble_eq_true rfl⟩ (fun G hG => ?_)
  unfold M_sitsDown at hO
  show G 0 [(0, .ref 251), (1, .int x1), (2, .int x2)] [] h
  have j76 : ∀ (h : Hp), Okk (M_sitsDown_j76 h) P → G 76 [] [] h := by
    intro h hO
    unfold M_sitsDown_j76 at hO
    exact eV hG 76 (by decide +kernel) rfl ⟨rfl, ok_some (Q := P) hO⟩
  have j61 : ∀ (h : Hp), Okk (M_sitsDown_j61 x1 x2 h) P → G 61 [(0, .ref 251), (1, .int x1), (2, .int x2)] [] h := by
    intro h hO
    unfold M_sitsDown_j61 at hO
    obtain ⟨g1, hO⟩ := ok_if hO
    refine rb hG 7 61 67 [.aload 0, .invokeinterface 1230 15, .iload 1, .iaload] [] [] [(0, .ref 251), (1, .int x1), (2, .int x2)] [.int (h.1 266 (Int32.toNatClampNeg x1))] h [kd 251 = 12, kd 266 = 20 ∧ inb x1 (ln 266)] (by decide +kernel) rfl ⟨kd_251, ⟨kd_266, g1⟩⟩ ?_
    refine ri hG .le (9) 76 67 (by decide +kernel) (by decide) (fun c2 => ?_) (fun c2 => ?_)
    · have hO := ok_pos c2 hO
      refine rs hG [] [] rfl ?_
      exact j76 h hO
    · have hO := ok_neg c2 hO
      refine rb hG 6 70 73 [.aload 0, .iload 1, .iload 2] [] [] [(0, .ref 251), (1, .int x1), (2, .int x2)] [.int x2, .int x1, .ref 251] h [] (by decide +kernel) rfl trivial ?_
      refine rv hG z_M_repeats 320 2 73 251 [.int x1, .int x2] [] (by decide +kernel) mk_M_repeats lk_12_320 rcv_251 rfl ⟨rfl, Nat.le_of_ble_eq_true rfl⟩ (c_M_repeats (d := d) h x1 x2 (ok_bind hO)) ?_
      rintro _ h3 ⟨rfl, hO⟩
      refine rs hG [] [] rfl ?_
      exact j76 h3 hO
  have l22 : ∀ (x3 : Int32) (h : Hp), Okk (M_sitsDown_l22 x1 x2 x3 h) P → G 22 [(0, .ref 251), (1, .int x1), (2, .int x2), (3, .int x3)] [] h := by
    intro x3 h hO
    obtain ⟨H22, eH22⟩ : ∃ q : (Int32 × Hp) → Prop, q = fun s => G 22 [(0, .ref 251), (1, .int x1), (2, .int x2), (3, .int (s.1))] [] (s.2) := ⟨_, rfl⟩
    have w9 : H22 (x3, h) := by
      refine lp_wp (f := fun s : (Int32 × Hp) => M_sitsDown_b22 x1 x2 s.1 s.2) (H := H22) (Q := P) ?_ (x3, h) hO
      rintro ⟨x3, h⟩ hO
      rw [eH22]
      show G 22 [(0, .ref 251), (1, .int x1), (2, .int x2), (3, .int x3)] [] h
      have k22 : ∀ s : (Int32 × Hp), H22 s → G 22 [(0, .ref 251), (1, .int x1), (2, .int x2), (3, .int (s.1))] [] (s.2) := fun s q => by rw [eH22] at q; exact q
      replace hO : Okk (M_sitsDown_b22 x1 x2 x3 h) (Sum.elim H22 P) := hO
      clear eH22
      have j53 : ∀ (x3 : Int32) (s1 : Int32) (s2 : Int32) (s3 : Int32) (h : Hp), Okk (M_sitsDown_j53 x1 x2 x3 s1 s2 s3 h) (Sum.elim H22 P) → G 53 [(0, .ref 251), (1, .int x1), (2, .int x2), (3, .int x3)] [.int s3, .int s2, .int s1, .ref 271] h := by
        intro x3 s1 s2 s3 h hO
        unfold M_sitsDown_j53 at hO
        obtain ⟨g4, hO⟩ := ok_if hO
        refine rbx hG 5 53 55 [.iadd, .iastore] [] [] (wr h 271 (Int32.toNatClampNeg s1) (s2 + s3)) (fun h5 => [(0, .ref 251), (1, .int x1), (2, .int x2), (3, .int x3)]) (fun h5 => []) (fun h5 => h5) [kd 271 = 20 ∧ inb s1 (ln 271)] (by decide +kernel) rfl ⟨kd_271, g4⟩ hO (fun h5 hO => ?_)
        refine rbx hG 4 55 58 [.iinc 3 0] [1] [] ((x3 + (1 : Int32))) (fun y6 => [(3, .int y6), (0, .ref 251), (1, .int x1), (2, .int x2)]) (fun y6 => []) (fun y6 => h5) [] (by decide +kernel) rfl trivial hO (fun y6 hO => ?_)
        refine rb hG 4 58 22 [] [] [] [(3, .int y6), (0, .ref 251), (1, .int x1), (2, .int x2)] [] h5 [] (by decide +kernel) rfl trivial ?_
        refine rs hG [(0, .ref 251), (1, .int x1), (2, .int x2), (3, .int y6)] [1, 2, 3, 0] rfl ?_
        exact k22 (y6, h5) (ok_some (Q := (Sum.elim H22 P)) hO)
      unfold M_sitsDown_b22 at hO
      refine rb hG 5 22 25 [.iload 3, .ldc_w 0] [8] [] [(0, .ref 251), (1, .int x1), (2, .int x2), (3, .int x3)] [.int (8 : Int32), .int x3] h [] (by decide +kernel) rfl trivial ?_
      refine rj hG .ge (36) 61 25 (by decide +kernel) (by decide) (fun c7 => ?_) (fun c7 => ?_)
      · have hO := ok_pos c7 hO
        refine rs hG [(0, .ref 251), (1, .int x1), (2, .int x2)] [0, 1, 2] rfl ?_
        exact j61 h (ok_inr hO)
      · have hO := ok_neg c7 hO
        obtain ⟨g8, hO⟩ := ok_if hO
        refine rb hG 10 28 37 [.aload 0, .invokeinterface 1235 20, .iload 3, .dup2, .iaload, .iload 2, .iload 3] [] [] [(0, .ref 251), (1, .int x1), (2, .int x2), (3, .int x3)] [.int x3, .int x2, .int (h.1 271 (Int32.toNatClampNeg x3)), .int x3, .ref 271] h [kd 251 = 12, kd 271 = 20 ∧ inb x3 (ln 271)] (by decide +kernel) rfl ⟨kd_251, ⟨kd_271, g8⟩⟩ ?_
        refine rt hG z_M_has 103 2 37 [.int x2, .int x3] [.int (h.1 271 (Int32.toNatClampNeg x3)), .int x3, .ref 271] (by decide +kernel) mk_M_has lk_12_103 rfl ⟨rfl, Nat.le_of_ble_eq_true rfl⟩ (c_M_has (d := d + 2) h x2 x3 (ok_bind hO)) ?_
        rintro _ _ ⟨r9, rfl, rfl, hO⟩
        refine ri hG .eq (12) 52 40 (by decide +kernel) (by decide) (fun c10 => ?_) (fun c10 => ?_)
        · have hO := ok_pos c10 hO
          refine rb hG 4 52 53 [.ldc_w 0] [0] [] [(0, .ref 251), (1, .int x1), (2, .int x2), (3, .int x3)] [.int (0 : Int32), .int (h.1 271 (Int32.toNatClampNeg x3)), .int x3, .ref 271] h [] (by decide +kernel) rfl trivial ?_
          exact j53 x3 x3 (h.1 271 (Int32.toNatClampNeg x3)) (0 : Int32) h hO
        · have hO := ok_neg c10 hO
          refine rb hG 6 43 46 [.aload 0, .iload 1, .ldc_w 0] [2] [] [(0, .ref 251), (1, .int x1), (2, .int x2), (3, .int x3)] [.int (2 : Int32), .int x1, .ref 251, .int (h.1 271 (Int32.toNatClampNeg x3)), .int x3, .ref 271] h [] (by decide +kernel) rfl trivial ?_
          refine rv hG z_M_ofTable 283 2 46 251 [.int x1, .int (2 : Int32)] [.int (h.1 271 (Int32.toNatClampNeg x3)), .int x3, .ref 271] (by decide +kernel) mk_M_ofTable lk_12_283 rcv_251 rfl ⟨rfl, Nat.le_of_ble_eq_true rfl⟩ (c_M_ofTable (d := d + 1) h x1 (2 : Int32) (ok_bind hO)) ?_
          rintro _ _ ⟨r11, rfl, rfl, hO⟩
          refine rb hG 4 49 53 [] [] [] [(0, .ref 251), (1, .int x1), (2, .int x2), (3, .int x3)] [.int r11, .int (h.1 271 (Int32.toNatClampNeg x3)), .int x3, .ref 271] h [] (by decide +kernel) rfl trivial ?_
          exact j53 x3 x3 (h.1 271 (Int32.toNatClampNeg x3)) r11 h hO
    rw [eH22] at w9
    exact w9
  obtain ⟨g12, hO⟩ := ok_if hO
  refine rbx hG 8 0 7 [.aload 0, .invokeinterface 1232 17, .iload 1, .iload 2, .iastore] [] [] (wr h 268 (Int32.toNatClampNeg x1) x2) (fun h13 => [(0, .ref 251), (1, .int x1), (2, .int x2)]) (fun h13 => []) (fun h13 => h13) [kd 251 = 12, kd 268 = 20 ∧ inb x1 (ln 268)] (by decide +kernel) rfl ⟨kd_251, ⟨kd_268, g12⟩⟩ hO (fun h13 hO => ?_)
  obtain ⟨g14, hO⟩ := ok_if hO
  refine rbx hG 8 7 14 [.aload 0, .invokeinterface 1233 18, .iload 1, .ldc_w 0, .iastore] [0] [] (wr h13 269 (Int32.toNatClampNeg x1) (0 : Int32)) (fun h15 => [(0, .ref 251), (1, .int x1), (2, .int x2)]) (fun h15 => []) (fun h15 => h15) [kd 251 = 12, kd 269 = 20 ∧ inb x1 (ln 269)] (by decide +kernel) rfl ⟨kd_251, ⟨kd_269, g14⟩⟩ hO (fun h15 hO => ?_)
  refine rb hG 6 14 17 [.aload 0, .iload 2, .iload 2] [] [] [(0, .ref 251), (1, .int x1), (2, .int x2)] [.int x2, .int x2, .ref 251] h15 [] (by decide +kernel) rfl trivial ?_
  refine rv hG z_M_meet 310 2 17 251 [.int x2, .int x2] [] (by decide +kernel) mk_M_meet lk_12_310 rcv_251 rfl ⟨rfl, Nat.le_of_ble_eq_true rfl⟩ (c_M_meet (d := d + 1) h15 x2 x2 (ok_bind hO)) ?_
  rintro _ h16 ⟨rfl, hO⟩
  refine rb hG 5 20 22 [.ldc_w 0, .istore 3] [0] [] [(3, .int (0 : Int32)), (0, .ref 251), (1, .int x1), (2, .int x2)] [] h16 [] (by decide +kernel) rfl trivial ?_
  refine rs hG [(0, .ref 251), (1, .int x1), (2, .int x2), (3, .int (0 : Int32))] [1, 2, 3, 0] rfl ?_
  exact l22 (0 : Int32) h16 hO
/-! GrainInnModel.sits(II)Z -/
noncomputable def M_sits_j49 (h : Hp) : Option (Int32 × Hp) := some ((0 : Int32), h)
noncomputable def M_sits (h : Hp) (x1 : Int32) (x2 : Int32) : Option (Int32 × Hp) := (M_isTable h x1).bind fun r1 => if r1 = 0 then ((M_sits_j49 h)) else (if inb x1 (ln 268) then (if (h.1 268 (Int32.toNatClampNeg x1)) = 0 then ((M_allSeated h).bind fun r5 => if (x2 &&& r5) = 0 then (if (sh (1 : Int32) (h.1 251 25)) ≤ x2 then ((M_sits_j49 h)) else ((M_ones x2).bind fun r8 => (M_ofTable h x1 (0 : Int32)).bind fun r9 => if r8 ≤ r9 then ((M_sitsDown h x1 x2).bind fun h11 => some ((1 : Int32), h11)) else ((M_sits_j49 h)))) else ((M_sits_j49 h))) else ((M_sits_j49 h))) else none)
set_option maxRecDepth 100000 in
set_option maxHeartbeats 4000000 in
theorem c_M_sits {E : En} {d : Nat} (h : Hp) (x1 : Int32) (x2 : Int32) {P : (Int32 × Hp) → Prop} (hO : Okk (M_sits h x1 x2) P) : Cn E (d + 5) z_M_sits [.ref 251, .int x1, .int x2] h (RI P) := by
  refine cn_of (on := 12) (d := d + 4) ⟨rfl, by decide +kernel, Nat.le_of_ble_eq_true rfl⟩ (fun G hG => ?_)
  unfold M_sits at hO
  show G 0 [(0, .ref 251), (1, .int x1), (2, .int x2)] [] h
  have j49 : ∀ (h : Hp), Okk (M_sits_j49 h) P → G 49 [] [] h := by
    intro h hO
    unfold M_sits_j49 at hO
    refine rb hG 4 49 50 [.ldc_w 0] [0] [] [] [.int (0 : Int32)] h [] (by decide +kernel) rfl trivial ?_
    exact eZ hG 50 (by decide +kernel) rfl (Or.inl rfl) ⟨(0 : Int32), rfl, ok_some (Q := P) hO⟩
  refine rb hG 5 0 2 [.aload 0, .iload 1] [] [] [(0, .ref 251), (1, .int x1), (2, .int x2)] [.int x1, .ref 251] h [] (by decide +kernel) rfl trivial ?_
  refine rv hG z_M_isTable 338 1 2 251 [.int x1] [] (by decide +kernel) mk_M_isTable lk_12_338 rcv_251 rfl ⟨rfl, Nat.le_of_ble_eq_true rfl⟩ (c_M_isTable (d := d + 2) h x1 (ok_bind hO)) ?_
  rintro _ _ ⟨r1, rfl, rfl, hO⟩
  refine ri hG .eq (44) 49 5 (by decide +kernel) (by decide) (fun c2 => ?_) (fun c2 => ?_)
  · have hO := ok_pos c2 hO
    refine rs hG [] [] rfl ?_
    exact j49 h hO
  · have hO := ok_neg c2 hO
    obtain ⟨g3, hO⟩ := ok_if hO
    refine rb hG 7 8 14 [.aload 0, .invokeinterface 1232 17, .iload 1, .iaload] [] [] [(0, .ref 251), (1, .int x1), (2, .int x2)] [.int (h.1 268 (Int32.toNatClampNeg x1))] h [kd 251 = 12, kd 268 = 20 ∧ inb x1 (ln 268)] (by decide +kernel) rfl ⟨kd_251, ⟨kd_268, g3⟩⟩ ?_
    refine riN hG (35) 49 14 (by decide +kernel) (by decide) (fun c4 => ?_) (fun c4 => ?_)
    · have hO := ok_pos c4 hO
      refine rb hG 5 17 19 [.iload 2, .aload 0] [] [] [(0, .ref 251), (1, .int x1), (2, .int x2)] [.ref 251, .int x2] h [] (by decide +kernel) rfl trivial ?_
      refine rv hG z_M_allSeated 344 0 19 251 [] [.int x2] (by decide +kernel) mk_M_allSeated lk_12_344 rcv_251 rfl ⟨rfl, Nat.le_of_ble_eq_true rfl⟩ (c_M_allSeated (d := d + 3) h (ok_bind hO)) ?_
      rintro _ _ ⟨r5, rfl, rfl, hO⟩
      refine rb hG 4 22 23 [.iand] [] [] [(0, .ref 251), (1, .int x1), (2, .int x2)] [.int (x2 &&& r5)] h [] (by decide +kernel) rfl trivial ?_
      refine riN hG (26) 49 23 (by decide +kernel) (by decide) (fun c6 => ?_) (fun c6 => ?_)
      · have hO := ok_pos c6 hO
        refine rb hG 8 26 33 [.iload 2, .ldc_w 0, .aload 0, .getfield 1225, .ishl] [1] [] [(0, .ref 251), (1, .int x1), (2, .int x2)] [.int (sh (1 : Int32) (h.1 251 25)), .int x2] h [kd 251 = 12] (by decide +kernel) rfl kd_251 ?_
        refine rj hG .ge (16) 49 33 (by decide +kernel) (by decide) (fun c7 => ?_) (fun c7 => ?_)
        · have hO := ok_pos c7 hO
          refine rs hG [] [] rfl ?_
          exact j49 h hO
        · have hO := ok_neg c7 hO
          refine rb hG 4 36 37 [.iload 2] [] [] [(0, .ref 251), (1, .int x1), (2, .int x2)] [.int x2] h [] (by decide +kernel) rfl trivial ?_
          refine rt hG z_M_ones 347 1 37 [.int x2] [] (by decide +kernel) mk_M_ones lk_12_347 rfl ⟨rfl, Nat.le_of_ble_eq_true rfl⟩ (c_M_ones (d := d + 2) h x2 (ok_bind hO)) ?_
          rintro _ _ ⟨r8, rfl, rfl, hO⟩
          refine rb hG 6 40 43 [.aload 0, .iload 1, .ldc_w 0] [0] [] [(0, .ref 251), (1, .int x1), (2, .int x2)] [.int (0 : Int32), .int x1, .ref 251, .int r8] h [] (by decide +kernel) rfl trivial ?_
          refine rv hG z_M_ofTable 283 2 43 251 [.int x1, .int (0 : Int32)] [.int r8] (by decide +kernel) mk_M_ofTable lk_12_283 rcv_251 rfl ⟨rfl, Nat.le_of_ble_eq_true rfl⟩ (c_M_ofTable (d := d + 2) h x1 (0 : Int32) (ok_bind hO)) ?_
          rintro _ _ ⟨r9, rfl, rfl, hO⟩
          refine rj hG .le (5) 51 46 (by decide +kernel) (by decide) (fun c10 => ?_) (fun c10 => ?_)
          · have hO := ok_pos c10 hO
            refine rb hG 6 51 54 [.aload 0, .iload 1, .iload 2] [] [] [(0, .ref 251), (1, .int x1), (2, .int x2)] [.int x2, .int x1, .ref 251] h [] (by decide +kernel) rfl trivial ?_
            refine rv hG z_M_sitsDown 350 2 54 251 [.int x1, .int x2] [] (by decide +kernel) mk_M_sitsDown lk_12_350 rcv_251 rfl ⟨rfl, Nat.le_of_ble_eq_true rfl⟩ (c_M_sitsDown (d := d) h x1 x2 (ok_bind hO)) ?_
            rintro _ h11 ⟨rfl, hO⟩
            refine rb hG 4 57 58 [.ldc_w 0] [1] [] [(0, .ref 251), (1, .int x1), (2, .int x2)] [.int (1 : Int32)] h11 [] (by decide +kernel) rfl trivial ?_
            exact eZ hG 58 (by decide +kernel) rfl (Or.inr rfl) ⟨(1 : Int32), rfl, ok_some (Q := P) hO⟩
          · have hO := ok_neg c10 hO
            refine rs hG [] [] rfl ?_
            exact j49 h hO
      · have hO := ok_neg c6 hO
        refine rs hG [] [] rfl ?_
        exact j49 h hO
    · have hO := ok_neg c4 hO
      refine rs hG [] [] rfl ?_
      exact j49 h hO
/-! GrainInnModel.isGuest(I)Z -/
noncomputable def M_isGuest (h : Hp) (x1 : Int32) : Option Int32 := (M_in x1 (0 : Int32) ((h.1 251 25) - (1 : Int32))).bind fun r1 => if r1 = 0 ∨ r1 = 1 then (some r1) else none
set_option maxRecDepth 100000 in
set_option maxHeartbeats 4000000 in
theorem c_M_isGuest {E : En} {d : Nat} (h : Hp) (x1 : Int32) {P : Int32 → Prop} (hO : Okk (M_isGuest h x1) P) : Cn E (d + 2) z_M_isGuest [.ref 251, .int x1] h (RIp h P) := by
  refine cn_of (on := 12) (d := d + 1) ⟨rfl, by decide +kernel, Nat.le_of_ble_eq_true rfl⟩ (fun G hG => ?_)
  unfold M_isGuest at hO
  show G 0 [(0, .ref 251), (1, .int x1)] [] h
  refine rb hG 9 0 8 [.iload 1, .ldc_w 0, .aload 0, .getfield 1225, .ldc_w 1, .isub] [0, 1] [] [(0, .ref 251), (1, .int x1)] [.int ((h.1 251 25) - (1 : Int32)), .int (0 : Int32), .int x1] h [kd 251 = 12] (by decide +kernel) rfl kd_251 ?_
  refine rt hG z_M_in 111 3 8 [.int x1, .int (0 : Int32), .int ((h.1 251 25) - (1 : Int32))] [] (by decide +kernel) mk_M_in lk_12_111 rfl ⟨rfl, Nat.le_of_ble_eq_true rfl⟩ (c_M_in (d := d) h x1 (0 : Int32) ((h.1 251 25) - (1 : Int32)) (ok_bind hO)) ?_
  rintro _ _ ⟨r1, rfl, rfl, hO⟩
  obtain ⟨g2, hO⟩ := ok_if hO
  exact eZ hG 11 (by decide +kernel) rfl g2 ⟨r1, rfl, rfl, ok_some (Q := P) hO⟩
/-! GrainInnModel.tableOf(I)I -/
noncomputable def M_tableOf_j31 (h : Hp) : Option Int32 := some (-1 : Int32)
noncomputable def M_tableOf_j23 (x2 : Int32) (h : Hp) : Option Int32 := some x2
noncomputable def M_tableOf_b2 (x1 : Int32) (x2 : Int32) (h : Hp) : Option ((Int32) ⊕ Int32) := if (h.1 251 24) ≤ x2 then (((M_tableOf_j31 h).map Sum.inr)) else (if inb x2 (ln 268) then ((M_has (h.1 268 (Int32.toNatClampNeg x2)) x1).bind fun r3 => if r3 = 0 then (bnd ((x2 + (1 : Int32))) fun y5 => some (.inl y5)) else (((M_tableOf_j23 x2 h).map Sum.inr))) else none)
noncomputable def M_tableOf_l2 (x1 : Int32) (x2 : Int32) (h : Hp) : Option Int32 := lp (fun s : (Int32) => M_tableOf_b2 x1 s h) (x2)
theorem M_tableOf_l2_eq (x1 : Int32) (x2 : Int32) (h : Hp) : M_tableOf_l2 x1 x2 h = (M_tableOf_b2 x1 x2 h).bind (Sum.elim (fun q : (Int32) => M_tableOf_l2 x1 q h) some) := lp_eq _ _
noncomputable def M_tableOf (h : Hp) (x1 : Int32) : Option Int32 := (M_tableOf_l2 x1 (0 : Int32) h)
set_option maxRecDepth 100000 in
set_option maxHeartbeats 4000000 in
theorem c_M_tableOf {E : En} {d : Nat} (h : Hp) (x1 : Int32) {P : Int32 → Prop} (hO : Okk (M_tableOf h x1) P) : Cn E (d + 2) z_M_tableOf [.ref 251, .int x1] h (RIp h P) := by
  refine cn_of (on := 12) (d := d + 1) ⟨rfl, by decide +kernel, Nat.le_of_ble_eq_true rfl⟩ (fun G hG => ?_)
  unfold M_tableOf at hO
  show G 0 [(0, .ref 251), (1, .int x1)] [] h
  have j31 : Okk (M_tableOf_j31 h) P → G 31 [] [] h := by
    intro hO
    unfold M_tableOf_j31 at hO
    refine rb hG 4 31 32 [.ldc_w 0] [-1] [] [] [.int (-1 : Int32)] h [] (by decide +kernel) rfl trivial ?_
    exact eI hG 32 (by decide +kernel) rfl ⟨(-1 : Int32), rfl, rfl, ok_some (Q := P) hO⟩
  have j23 : ∀ (x2 : Int32), Okk (M_tableOf_j23 x2 h) P → G 23 [(2, .int x2)] [] h := by
    intro x2 hO
    unfold M_tableOf_j23 at hO
    refine rb hG 4 23 24 [.iload 2] [] [] [(2, .int x2)] [.int x2] h [] (by decide +kernel) rfl trivial ?_
    exact eI hG 24 (by decide +kernel) rfl ⟨x2, rfl, rfl, ok_some (Q := P) hO⟩
  have l2 : ∀ (x2 : Int32), Okk (M_tableOf_l2 x1 x2 h) P → G 2 [(0, .ref 251), (1, .int x1), (2, .int x2)] [] h := by
    intro x2 hO
    obtain ⟨H2, eH2⟩ : ∃ q : (Int32) → Prop, q = fun s => G 2 [(0, .ref 251), (1, .int x1), (2, .int (s))] [] (h) := ⟨_, rfl⟩
    have w9 : H2 (x2) := by
      refine lp_wp (f := fun s : (Int32) => M_tableOf_b2 x1 s h) (H := H2) (Q := P) ?_ (x2) hO
      intro x2 hO
      rw [eH2]
      show G 2 [(0, .ref 251), (1, .int x1), (2, .int x2)] [] h
      have k2 : ∀ s : (Int32), H2 s → G 2 [(0, .ref 251), (1, .int x1), (2, .int (s))] [] (h) := fun s q => by rw [eH2] at q; exact q
      replace hO : Okk (M_tableOf_b2 x1 x2 h) (Sum.elim H2 P) := hO
      clear eH2
      unfold M_tableOf_b2 at hO
      refine rb hG 6 2 7 [.iload 2, .aload 0, .getfield 1224] [] [] [(0, .ref 251), (1, .int x1), (2, .int x2)] [.int (h.1 251 24), .int x2] h [kd 251 = 12] (by decide +kernel) rfl kd_251 ?_
      refine rj hG .ge (24) 31 7 (by decide +kernel) (by decide) (fun c1 => ?_) (fun c1 => ?_)
      · have hO := ok_pos c1 hO
        refine rs hG [] [] rfl ?_
        exact j31 (ok_inr hO)
      · have hO := ok_neg c1 hO
        obtain ⟨g2, hO⟩ := ok_if hO
        refine rb hG 8 10 17 [.aload 0, .invokeinterface 1232 17, .iload 2, .iaload, .iload 1] [] [] [(0, .ref 251), (1, .int x1), (2, .int x2)] [.int x1, .int (h.1 268 (Int32.toNatClampNeg x2))] h [kd 251 = 12, kd 268 = 20 ∧ inb x2 (ln 268)] (by decide +kernel) rfl ⟨kd_251, ⟨kd_268, g2⟩⟩ ?_
        refine rt hG z_M_has 103 2 17 [.int (h.1 268 (Int32.toNatClampNeg x2)), .int x1] [] (by decide +kernel) mk_M_has lk_12_103 rfl ⟨rfl, Nat.le_of_ble_eq_true rfl⟩ (c_M_has (d := d) h (h.1 268 (Int32.toNatClampNeg x2)) x1 (ok_bind hO)) ?_
        rintro _ _ ⟨r3, rfl, rfl, hO⟩
        refine ri hG .eq (5) 25 20 (by decide +kernel) (by decide) (fun c4 => ?_) (fun c4 => ?_)
        · have hO := ok_pos c4 hO
          refine rbx hG 4 25 28 [.iinc 2 0] [1] [] ((x2 + (1 : Int32))) (fun y5 => [(2, .int y5), (0, .ref 251), (1, .int x1)]) (fun y5 => []) (fun y5 => h) [] (by decide +kernel) rfl trivial hO (fun y5 hO => ?_)
          refine rb hG 4 28 2 [] [] [] [(2, .int y5), (0, .ref 251), (1, .int x1)] [] h [] (by decide +kernel) rfl trivial ?_
          refine rs hG [(0, .ref 251), (1, .int x1), (2, .int y5)] [1, 2, 0] rfl ?_
          exact k2 y5 (ok_some (Q := (Sum.elim H2 P)) hO)
        · have hO := ok_neg c4 hO
          refine rs hG [(2, .int x2)] [2] rfl ?_
          exact j23 x2 (ok_inr hO)
    rw [eH2] at w9
    exact w9
  refine rb hG 5 0 2 [.ldc_w 0, .istore 2] [0] [] [(2, .int (0 : Int32)), (0, .ref 251), (1, .int x1)] [] h [] (by decide +kernel) rfl trivial ?_
  refine rs hG [(0, .ref 251), (1, .int x1), (2, .int (0 : Int32))] [1, 2, 0] rfl ?_
  exact l2 (0 : Int32) hO
/-! GrainInnModel.says(II)Z -/
noncomputable def M_says_j17 (x2 : Int32) (s0 : Int32) (h : Hp) : Option (Int32 × Hp) := if s0 = (-1 : Int32) then (some ((0 : Int32), h)) else (if inb s0 (ln 269) then (if inb s0 (ln 269) then (bnd (wr h 269 (Int32.toNatClampNeg s0) ((h.1 269 (Int32.toNatClampNeg s0)) ||| (sh (1 : Int32) x2))) fun h4 => if inb s0 (ln 268) then ((M_hears h4 (h4.1 268 (Int32.toNatClampNeg s0)) (sh (1 : Int32) x2)).bind fun h6 => some ((1 : Int32), h6)) else none) else none) else none)
noncomputable def M_says (h : Hp) (x1 : Int32) (x2 : Int32) : Option (Int32 × Hp) := (M_isGuest h x1).bind fun r7 => if r7 = 0 then ((M_says_j17 x2 (-1 : Int32) h)) else ((M_tableOf h x1).bind fun r9 => (M_says_j17 x2 r9 h))
set_option maxRecDepth 100000 in
set_option maxHeartbeats 4000000 in
theorem c_M_says {E : En} {d : Nat} (h : Hp) (x1 : Int32) (x2 : Int32) {P : (Int32 × Hp) → Prop} (hO : Okk (M_says h x1 x2) P) : Cn E (d + 3) z_M_says [.ref 251, .int x1, .int x2] h (RI P) := by
  refine cn_of (on := 12) (d := d + 2) ⟨rfl, by decide +kernel, Nat.le_of_ble_eq_true rfl⟩ (fun G hG => ?_)
  unfold M_says at hO
  show G 0 [(0, .ref 251), (1, .int x1), (2, .int x2)] [] h
  have j17 : ∀ (s0 : Int32) (h : Hp), Okk (M_says_j17 x2 s0 h) P → G 17 [(0, .ref 251), (2, .int x2)] [.int s0] h := by
    intro s0 h hO
    unfold M_says_j17 at hO
    refine rb hG 6 17 20 [.istore 3, .iload 3, .ldc_w 0] [-1] [] [(3, .int s0), (0, .ref 251), (2, .int x2)] [.int (-1 : Int32), .int s0] h [] (by decide +kernel) rfl trivial ?_
    refine rjN hG (5) 25 20 (by decide +kernel) (by decide) (fun c1 => ?_) (fun c1 => ?_)
    · have hO := ok_pos c1 hO
      refine rb hG 4 23 24 [.ldc_w 0] [0] [] [(3, .int s0), (0, .ref 251), (2, .int x2)] [.int (0 : Int32)] h [] (by decide +kernel) rfl trivial ?_
      exact eZ hG 24 (by decide +kernel) rfl (Or.inl rfl) ⟨(0 : Int32), rfl, ok_some (Q := P) hO⟩
    · have hO := ok_neg c1 hO
      obtain ⟨g2, hO⟩ := ok_if hO
      obtain ⟨g3, hO⟩ := ok_if hO
      refine rbx hG 13 25 37 [.aload 0, .invokeinterface 1233 18, .iload 3, .dup2, .iaload, .ldc_w 0, .iload 2, .ishl, .ior, .iastore] [1] [] (wr h 269 (Int32.toNatClampNeg s0) ((h.1 269 (Int32.toNatClampNeg s0)) ||| (sh (1 : Int32) x2))) (fun h4 => [(3, .int s0), (0, .ref 251), (2, .int x2)]) (fun h4 => []) (fun h4 => h4) [kd 251 = 12, kd 269 = 20 ∧ inb s0 (ln 269), kd 269 = 20 ∧ inb s0 (ln 269)] (by decide +kernel) rfl ⟨kd_251, ⟨kd_269, g2⟩, ⟨kd_269, g3⟩⟩ hO (fun h4 hO => ?_)
      obtain ⟨g5, hO⟩ := ok_if hO
      refine rb hG 11 37 47 [.aload 0, .aload 0, .invokeinterface 1232 17, .iload 3, .iaload, .ldc_w 0, .iload 2, .ishl] [1] [] [(3, .int s0), (0, .ref 251), (2, .int x2)] [.int (sh (1 : Int32) x2), .int (h4.1 268 (Int32.toNatClampNeg s0)), .ref 251] h4 [kd 251 = 12, kd 268 = 20 ∧ inb s0 (ln 268)] (by decide +kernel) rfl ⟨kd_251, ⟨kd_268, g5⟩⟩ ?_
      refine rv hG z_M_hears 307 2 47 251 [.int (h4.1 268 (Int32.toNatClampNeg s0)), .int (sh (1 : Int32) x2)] [] (by decide +kernel) mk_M_hears lk_12_307 rcv_251 rfl ⟨rfl, Nat.le_of_ble_eq_true rfl⟩ (c_M_hears (d := d) h4 (h4.1 268 (Int32.toNatClampNeg s0)) (sh (1 : Int32) x2) (ok_bind hO)) ?_
      rintro _ h6 ⟨rfl, hO⟩
      refine rb hG 4 50 51 [.ldc_w 0] [1] [] [(3, .int s0), (0, .ref 251), (2, .int x2)] [.int (1 : Int32)] h6 [] (by decide +kernel) rfl trivial ?_
      exact eZ hG 51 (by decide +kernel) rfl (Or.inr rfl) ⟨(1 : Int32), rfl, ok_some (Q := P) hO⟩
  refine rb hG 5 0 2 [.aload 0, .iload 1] [] [] [(0, .ref 251), (1, .int x1), (2, .int x2)] [.int x1, .ref 251] h [] (by decide +kernel) rfl trivial ?_
  refine rv hG z_M_isGuest 332 1 2 251 [.int x1] [] (by decide +kernel) mk_M_isGuest lk_12_332 rcv_251 rfl ⟨rfl, Nat.le_of_ble_eq_true rfl⟩ (c_M_isGuest (d := d) h x1 (ok_bind hO)) ?_
  rintro _ _ ⟨r7, rfl, rfl, hO⟩
  refine ri hG .eq (11) 16 5 (by decide +kernel) (by decide) (fun c8 => ?_) (fun c8 => ?_)
  · have hO := ok_pos c8 hO
    refine rb hG 4 16 17 [.ldc_w 0] [-1] [] [(0, .ref 251), (1, .int x1), (2, .int x2)] [.int (-1 : Int32)] h [] (by decide +kernel) rfl trivial ?_
    refine rs hG [(0, .ref 251), (2, .int x2)] [0, 2] rfl ?_
    exact j17 (-1 : Int32) h hO
  · have hO := ok_neg c8 hO
    refine rb hG 5 8 10 [.aload 0, .iload 1] [] [] [(0, .ref 251), (1, .int x1), (2, .int x2)] [.int x1, .ref 251] h [] (by decide +kernel) rfl trivial ?_
    refine rv hG z_M_tableOf 335 1 10 251 [.int x1] [] (by decide +kernel) mk_M_tableOf lk_12_335 rcv_251 rfl ⟨rfl, Nat.le_of_ble_eq_true rfl⟩ (c_M_tableOf (d := d) h x1 (ok_bind hO)) ?_
    rintro _ _ ⟨r9, rfl, rfl, hO⟩
    refine rb hG 4 13 17 [] [] [] [(0, .ref 251), (1, .int x1), (2, .int x2)] [.int r9] h [] (by decide +kernel) rfl trivial ?_
    refine rs hG [(0, .ref 251), (2, .int x2)] [0, 2] rfl ?_
    exact j17 r9 h hO
/-! GrainInnModel.movePast(IIII)V -/
noncomputable def M_movePast (h : Hp) (x1 : Int32) (x2 : Int32) (x3 : Int32) (x4 : Int32) : Option Hp := if inb (((16 : Int32) * x1) + x2) (ln 263) then (if inb (((16 : Int32) * x3) + x4) (ln 263) then (bnd (wr h 263 (Int32.toNatClampNeg (((16 : Int32) * x3) + x4)) (h.1 263 (Int32.toNatClampNeg (((16 : Int32) * x1) + x2)))) fun h3 => if inb (((16 : Int32) * x1) + x2) (ln 264) then (if inb (((16 : Int32) * x3) + x4) (ln 264) then (bnd (wr h3 264 (Int32.toNatClampNeg (((16 : Int32) * x3) + x4)) (h3.1 264 (Int32.toNatClampNeg (((16 : Int32) * x1) + x2)))) fun h6 => if inb (((16 : Int32) * x1) + x2) (ln 265) then (if inb (((16 : Int32) * x3) + x4) (ln 265) then (bnd (wr h6 265 (Int32.toNatClampNeg (((16 : Int32) * x3) + x4)) (h6.1 265 (Int32.toNatClampNeg (((16 : Int32) * x1) + x2)))) fun h9 => some h9) else none) else none) else none) else none) else none) else none
set_option maxRecDepth 100000 in
set_option maxHeartbeats 4000000 in
theorem c_M_movePast {E : En} {d : Nat} (h : Hp) (x1 : Int32) (x2 : Int32) (x3 : Int32) (x4 : Int32) {P : Hp → Prop} (hO : Okk (M_movePast h x1 x2 x3 x4) P) : Cn E (d + 1) z_M_movePast [.ref 251, .int x1, .int x2, .int x3, .int x4] h (RV P) := by
  refine cn_of (on := 12) (d := d + 0) ⟨rfl, by decide +kernel, Nat.le_of_ble_eq_true rfl⟩ (fun G hG => ?_)
  unfold M_movePast at hO
  show G 0 [(0, .ref 251), (1, .int x1), (2, .int x2), (3, .int x3), (4, .int x4)] [] h
  obtain ⟨g1, hO⟩ := ok_if hO
  obtain ⟨g2, hO⟩ := ok_if hO
  refine rbx hG 19 0 23 [.aload 0, .invokeinterface 1227 12, .ldc_w 0, .iload 3, .imul, .iload 4, .iadd, .aload 0, .invokeinterface 1227 12, .ldc_w 0, .iload 1, .imul, .iload 2, .iadd, .iaload, .iastore] [16] [] (wr h 263 (Int32.toNatClampNeg (((16 : Int32) * x3) + x4)) (h.1 263 (Int32.toNatClampNeg (((16 : Int32) * x1) + x2)))) (fun h3 => [(0, .ref 251), (1, .int x1), (2, .int x2), (3, .int x3), (4, .int x4)]) (fun h3 => []) (fun h3 => h3) [kd 251 = 12, kd 251 = 12, kd 263 = 20 ∧ inb (((16 : Int32) * x1) + x2) (ln 263), kd 263 = 20 ∧ inb (((16 : Int32) * x3) + x4) (ln 263)] (by decide +kernel) rfl ⟨kd_251, kd_251, ⟨kd_263, g1⟩, ⟨kd_263, g2⟩⟩ hO (fun h3 hO => ?_)
  obtain ⟨g4, hO⟩ := ok_if hO
  obtain ⟨g5, hO⟩ := ok_if hO
  refine rbx hG 19 23 46 [.aload 0, .invokeinterface 1228 13, .ldc_w 0, .iload 3, .imul, .iload 4, .iadd, .aload 0, .invokeinterface 1228 13, .ldc_w 0, .iload 1, .imul, .iload 2, .iadd, .iaload, .iastore] [16] [] (wr h3 264 (Int32.toNatClampNeg (((16 : Int32) * x3) + x4)) (h3.1 264 (Int32.toNatClampNeg (((16 : Int32) * x1) + x2)))) (fun h6 => [(0, .ref 251), (1, .int x1), (2, .int x2), (3, .int x3), (4, .int x4)]) (fun h6 => []) (fun h6 => h6) [kd 251 = 12, kd 251 = 12, kd 264 = 20 ∧ inb (((16 : Int32) * x1) + x2) (ln 264), kd 264 = 20 ∧ inb (((16 : Int32) * x3) + x4) (ln 264)] (by decide +kernel) rfl ⟨kd_251, kd_251, ⟨kd_264, g4⟩, ⟨kd_264, g5⟩⟩ hO (fun h6 hO => ?_)
  obtain ⟨g7, hO⟩ := ok_if hO
  obtain ⟨g8, hO⟩ := ok_if hO
  refine rbx hG 19 46 69 [.aload 0, .invokeinterface 1229 14, .ldc_w 0, .iload 3, .imul, .iload 4, .iadd, .aload 0, .invokeinterface 1229 14, .ldc_w 0, .iload 1, .imul, .iload 2, .iadd, .iaload, .iastore] [16] [] (wr h6 265 (Int32.toNatClampNeg (((16 : Int32) * x3) + x4)) (h6.1 265 (Int32.toNatClampNeg (((16 : Int32) * x1) + x2)))) (fun h9 => [(0, .ref 251), (1, .int x1), (2, .int x2), (3, .int x3), (4, .int x4)]) (fun h9 => []) (fun h9 => h9) [kd 251 = 12, kd 251 = 12, kd 265 = 20 ∧ inb (((16 : Int32) * x1) + x2) (ln 265), kd 265 = 20 ∧ inb (((16 : Int32) * x3) + x4) (ln 265)] (by decide +kernel) rfl ⟨kd_251, kd_251, ⟨kd_265, g7⟩, ⟨kd_265, g8⟩⟩ hO (fun h9 hO => ?_)
  exact eV hG 69 (by decide +kernel) rfl ⟨rfl, ok_some (Q := P) hO⟩
/-! GrainInnModel.lessens(I)I -/
noncomputable def M_lessens_j48 (x1 : Int32) (x2 : Int32) (h : Hp) : Option (Int32 × Hp) := if inb x1 (ln 266) then (if inb x1 (ln 266) then (bnd (wr h 266 (Int32.toNatClampNeg x1) ((h.1 266 (Int32.toNatClampNeg x1)) - x2)) fun h3 => if inb x1 (ln 267) then ((M_greater (0 : Int32) ((h3.1 267 (Int32.toNatClampNeg x1)) - x2)).bind fun r5 => if inb x1 (ln 267) then (bnd (wr h3 267 (Int32.toNatClampNeg x1) r5) fun h7 => some (x2, h7)) else none) else none) else none) else none
noncomputable def M_lessens_b20 (x1 : Int32) (x2 : Int32) (x3 : Int32) (h : Hp) : Option ((Int32 × Hp) ⊕ (Int32 × Hp)) := if inb x1 (ln 266) then (if (h.1 266 (Int32.toNatClampNeg x1)) ≤ (x3 + x2) then (((M_lessens_j48 x1 x2 h).map Sum.inr)) else ((M_movePast h x1 (x3 + x2) x1 x3).bind fun h10 => bnd ((x3 + (1 : Int32))) fun y11 => some (.inl (y11, h10)))) else none
noncomputable def M_lessens_l20 (x1 : Int32) (x2 : Int32) (x3 : Int32) (h : Hp) : Option (Int32 × Hp) := lp (fun s : (Int32 × Hp) => M_lessens_b20 x1 x2 s.1 s.2) (x3, h)
theorem M_lessens_l20_eq (x1 : Int32) (x2 : Int32) (x3 : Int32) (h : Hp) : M_lessens_l20 x1 x2 x3 h = (M_lessens_b20 x1 x2 x3 h).bind (Sum.elim (fun q : (Int32 × Hp) => M_lessens_l20 x1 x2 q.1 q.2) some) := lp_eq _ _
noncomputable def M_lessens (h : Hp) (x1 : Int32) : Option (Int32 × Hp) := if inb x1 (ln 266) then ((M_ofTable h x1 (1 : Int32)).bind fun r13 => (M_greater (0 : Int32) ((h.1 266 (Int32.toNatClampNeg x1)) - r13)).bind fun r14 => (M_lessens_l20 x1 r14 (0 : Int32) h)) else none
set_option maxRecDepth 100000 in
set_option maxHeartbeats 4000000 in
theorem c_M_lessens {E : En} {d : Nat} (h : Hp) (x1 : Int32) {P : (Int32 × Hp) → Prop} (hO : Okk (M_lessens h x1) P) : Cn E (d + 3) z_M_lessens [.ref 251, .int x1] h (RI P) := by
  refine cn_of (on := 12) (d := d + 2) ⟨rfl, by decide +kernel, Nat.le_of_ble_eq_true rfl⟩ (fun G hG => ?_)
  unfold M_lessens at hO
  show G 0 [(0, .ref 251), (1, .int x1)] [] h
  have j48 : ∀ (x2 : Int32) (h : Hp), Okk (M_lessens_j48 x1 x2 h) P → G 48 [(0, .ref 251), (1, .int x1), (2, .int x2)] [] h := by
    intro x2 h hO
    unfold M_lessens_j48 at hO
    obtain ⟨g1, hO⟩ := ok_if hO
    obtain ⟨g2, hO⟩ := ok_if hO
    refine rbx hG 11 48 58 [.aload 0, .invokeinterface 1230 15, .iload 1, .dup2, .iaload, .iload 2, .isub, .iastore] [] [] (wr h 266 (Int32.toNatClampNeg x1) ((h.1 266 (Int32.toNatClampNeg x1)) - x2)) (fun h3 => [(0, .ref 251), (1, .int x1), (2, .int x2)]) (fun h3 => []) (fun h3 => h3) [kd 251 = 12, kd 266 = 20 ∧ inb x1 (ln 266), kd 266 = 20 ∧ inb x1 (ln 266)] (by decide +kernel) rfl ⟨kd_251, ⟨kd_266, g1⟩, ⟨kd_266, g2⟩⟩ hO (fun h3 hO => ?_)
    obtain ⟨g4, hO⟩ := ok_if hO
    refine rb hG 13 58 72 [.aload 0, .invokeinterface 1231 16, .iload 1, .ldc_w 0, .aload 0, .invokeinterface 1231 16, .iload 1, .iaload, .iload 2, .isub] [0] [] [(0, .ref 251), (1, .int x1), (2, .int x2)] [.int ((h3.1 267 (Int32.toNatClampNeg x1)) - x2), .int (0 : Int32), .int x1, .ref 267] h3 [kd 251 = 12, kd 251 = 12, kd 267 = 20 ∧ inb x1 (ln 267)] (by decide +kernel) rfl ⟨kd_251, kd_251, ⟨kd_267, g4⟩⟩ ?_
    refine rt hG z_M_greater 176 2 72 [.int (0 : Int32), .int ((h3.1 267 (Int32.toNatClampNeg x1)) - x2)] [.int x1, .ref 267] (by decide +kernel) mk_M_greater lk_12_176 rfl ⟨rfl, Nat.le_of_ble_eq_true rfl⟩ (c_M_greater (d := d + 1) h3 (0 : Int32) ((h3.1 267 (Int32.toNatClampNeg x1)) - x2) (ok_bind hO)) ?_
    rintro _ _ ⟨r5, rfl, rfl, hO⟩
    obtain ⟨g6, hO⟩ := ok_if hO
    refine rbx hG 4 75 76 [.iastore] [] [] (wr h3 267 (Int32.toNatClampNeg x1) r5) (fun h7 => [(0, .ref 251), (1, .int x1), (2, .int x2)]) (fun h7 => []) (fun h7 => h7) [kd 267 = 20 ∧ inb x1 (ln 267)] (by decide +kernel) rfl ⟨kd_267, g6⟩ hO (fun h7 hO => ?_)
    refine rb hG 4 76 77 [.iload 2] [] [] [(0, .ref 251), (1, .int x1), (2, .int x2)] [.int x2] h7 [] (by decide +kernel) rfl trivial ?_
    exact eI hG 77 (by decide +kernel) rfl ⟨x2, rfl, ok_some (Q := P) hO⟩
  have l20 : ∀ (x2 : Int32) (x3 : Int32) (h : Hp), Okk (M_lessens_l20 x1 x2 x3 h) P → G 20 [(0, .ref 251), (1, .int x1), (2, .int x2), (3, .int x3)] [] h := by
    intro x2 x3 h hO
    obtain ⟨H20, eH20⟩ : ∃ q : (Int32 × Hp) → Prop, q = fun s => G 20 [(0, .ref 251), (1, .int x1), (2, .int x2), (3, .int (s.1))] [] (s.2) := ⟨_, rfl⟩
    have w9 : H20 (x3, h) := by
      refine lp_wp (f := fun s : (Int32 × Hp) => M_lessens_b20 x1 x2 s.1 s.2) (H := H20) (Q := P) ?_ (x3, h) hO
      rintro ⟨x3, h⟩ hO
      rw [eH20]
      show G 20 [(0, .ref 251), (1, .int x1), (2, .int x2), (3, .int x3)] [] h
      have k20 : ∀ s : (Int32 × Hp), H20 s → G 20 [(0, .ref 251), (1, .int x1), (2, .int x2), (3, .int (s.1))] [] (s.2) := fun s q => by rw [eH20] at q; exact q
      replace hO : Okk (M_lessens_b20 x1 x2 x3 h) (Sum.elim H20 P) := hO
      clear eH20
      unfold M_lessens_b20 at hO
      obtain ⟨g8, hO⟩ := ok_if hO
      refine rb hG 10 20 29 [.iload 3, .iload 2, .iadd, .aload 0, .invokeinterface 1230 15, .iload 1, .iaload] [] [] [(0, .ref 251), (1, .int x1), (2, .int x2), (3, .int x3)] [.int (h.1 266 (Int32.toNatClampNeg x1)), .int (x3 + x2)] h [kd 251 = 12, kd 266 = 20 ∧ inb x1 (ln 266)] (by decide +kernel) rfl ⟨kd_251, ⟨kd_266, g8⟩⟩ ?_
      refine rj hG .ge (19) 48 29 (by decide +kernel) (by decide) (fun c9 => ?_) (fun c9 => ?_)
      · have hO := ok_pos c9 hO
        refine rs hG [(0, .ref 251), (1, .int x1), (2, .int x2)] [0, 1, 2] rfl ?_
        exact j48 x2 h (ok_inr hO)
      · have hO := ok_neg c9 hO
        refine rb hG 10 32 39 [.aload 0, .iload 1, .iload 3, .iload 2, .iadd, .iload 1, .iload 3] [] [] [(0, .ref 251), (1, .int x1), (2, .int x2), (3, .int x3)] [.int x3, .int x1, .int (x3 + x2), .int x1, .ref 251] h [] (by decide +kernel) rfl trivial ?_
        refine rv hG z_M_movePast 323 4 39 251 [.int x1, .int (x3 + x2), .int x1, .int x3] [] (by decide +kernel) mk_M_movePast lk_12_323 rcv_251 rfl ⟨rfl, Nat.le_of_ble_eq_true rfl⟩ (c_M_movePast (d := d + 1) h x1 (x3 + x2) x1 x3 (ok_bind hO)) ?_
        rintro _ h10 ⟨rfl, hO⟩
        refine rbx hG 4 42 45 [.iinc 3 0] [1] [] ((x3 + (1 : Int32))) (fun y11 => [(3, .int y11), (0, .ref 251), (1, .int x1), (2, .int x2)]) (fun y11 => []) (fun y11 => h10) [] (by decide +kernel) rfl trivial hO (fun y11 hO => ?_)
        refine rb hG 4 45 20 [] [] [] [(3, .int y11), (0, .ref 251), (1, .int x1), (2, .int x2)] [] h10 [] (by decide +kernel) rfl trivial ?_
        refine rs hG [(0, .ref 251), (1, .int x1), (2, .int x2), (3, .int y11)] [1, 2, 3, 0] rfl ?_
        exact k20 (y11, h10) (ok_some (Q := (Sum.elim H20 P)) hO)
    rw [eH20] at w9
    exact w9
  obtain ⟨g12, hO⟩ := ok_if hO
  refine rb hG 11 0 10 [.ldc_w 0, .aload 0, .invokeinterface 1230 15, .iload 1, .iaload, .aload 0, .iload 1, .ldc_w 1] [0, 1] [] [(0, .ref 251), (1, .int x1)] [.int (1 : Int32), .int x1, .ref 251, .int (h.1 266 (Int32.toNatClampNeg x1)), .int (0 : Int32)] h [kd 251 = 12, kd 266 = 20 ∧ inb x1 (ln 266)] (by decide +kernel) rfl ⟨kd_251, ⟨kd_266, g12⟩⟩ ?_
  refine rv hG z_M_ofTable 283 2 10 251 [.int x1, .int (1 : Int32)] [.int (h.1 266 (Int32.toNatClampNeg x1)), .int (0 : Int32)] (by decide +kernel) mk_M_ofTable lk_12_283 rcv_251 rfl ⟨rfl, Nat.le_of_ble_eq_true rfl⟩ (c_M_ofTable (d := d) h x1 (1 : Int32) (ok_bind hO)) ?_
  rintro _ _ ⟨r13, rfl, rfl, hO⟩
  refine rb hG 4 13 14 [.isub] [] [] [(0, .ref 251), (1, .int x1)] [.int ((h.1 266 (Int32.toNatClampNeg x1)) - r13), .int (0 : Int32)] h [] (by decide +kernel) rfl trivial ?_
  refine rt hG z_M_greater 176 2 14 [.int (0 : Int32), .int ((h.1 266 (Int32.toNatClampNeg x1)) - r13)] [] (by decide +kernel) mk_M_greater lk_12_176 rfl ⟨rfl, Nat.le_of_ble_eq_true rfl⟩ (c_M_greater (d := d + 1) h (0 : Int32) ((h.1 266 (Int32.toNatClampNeg x1)) - r13) (ok_bind hO)) ?_
  rintro _ _ ⟨r14, rfl, rfl, hO⟩
  refine rb hG 6 17 20 [.istore 2, .ldc_w 0, .istore 3] [0] [] [(3, .int (0 : Int32)), (2, .int r14), (0, .ref 251), (1, .int x1)] [] h [] (by decide +kernel) rfl trivial ?_
  refine rs hG [(0, .ref 251), (1, .int x1), (2, .int r14), (3, .int (0 : Int32))] [2, 3, 1, 0] rfl ?_
  exact l20 r14 (0 : Int32) h hO
/-! GrainInnModel.becomesPast(I)V -/
noncomputable def M_becomesPast (h : Hp) (x1 : Int32) : Option Hp := if inb x1 (ln 266) then (bnd ((((16 : Int32) * x1) + (h.1 266 (Int32.toNatClampNeg x1)))) fun y2 => if inb x1 (ln 268) then (if inb y2 (ln 263) then (bnd (wr h 263 (Int32.toNatClampNeg y2) (h.1 268 (Int32.toNatClampNeg x1))) fun h5 => if inb x1 (ln 269) then (if inb y2 (ln 264) then (bnd (wr h5 264 (Int32.toNatClampNeg y2) (h5.1 269 (Int32.toNatClampNeg x1))) fun h8 => if inb y2 (ln 265) then (bnd (wr h8 265 (Int32.toNatClampNeg y2) (h8.1 251 38)) fun h10 => if inb x1 (ln 266) then (if inb x1 (ln 266) then (bnd (wr h10 266 (Int32.toNatClampNeg x1) ((h10.1 266 (Int32.toNatClampNeg x1)) + (1 : Int32))) fun h13 => if inb x1 (ln 268) then (bnd (wr h13 268 (Int32.toNatClampNeg x1) (0 : Int32)) fun h15 => if inb x1 (ln 269) then (bnd (wr h15 269 (Int32.toNatClampNeg x1) (0 : Int32)) fun h17 => (M_lessens h17 x1).bind fun (r18, h19) => some h19) else none) else none) else none) else none) else none) else none) else none) else none) else none) else none
set_option maxRecDepth 100000 in
set_option maxHeartbeats 4000000 in
theorem c_M_becomesPast {E : En} {d : Nat} (h : Hp) (x1 : Int32) {P : Hp → Prop} (hO : Okk (M_becomesPast h x1) P) : Cn E (d + 4) z_M_becomesPast [.ref 251, .int x1] h (RV P) := by
  refine cn_of (on := 12) (d := d + 3) ⟨rfl, by decide +kernel, Nat.le_of_ble_eq_true rfl⟩ (fun G hG => ?_)
  unfold M_becomesPast at hO
  show G 0 [(0, .ref 251), (1, .int x1)] [] h
  obtain ⟨g1, hO⟩ := ok_if hO
  refine rbx hG 12 0 12 [.ldc_w 0, .iload 1, .imul, .aload 0, .invokeinterface 1230 15, .iload 1, .iaload, .iadd, .istore 2] [16] [] ((((16 : Int32) * x1) + (h.1 266 (Int32.toNatClampNeg x1)))) (fun y2 => [(2, .int y2), (0, .ref 251), (1, .int x1)]) (fun y2 => []) (fun y2 => h) [kd 251 = 12, kd 266 = 20 ∧ inb x1 (ln 266)] (by decide +kernel) rfl ⟨kd_251, ⟨kd_266, g1⟩⟩ hO (fun y2 hO => ?_)
  obtain ⟨g3, hO⟩ := ok_if hO
  obtain ⟨g4, hO⟩ := ok_if hO
  refine rbx hG 11 12 24 [.aload 0, .invokeinterface 1227 12, .iload 2, .aload 0, .invokeinterface 1232 17, .iload 1, .iaload, .iastore] [] [] (wr h 263 (Int32.toNatClampNeg y2) (h.1 268 (Int32.toNatClampNeg x1))) (fun h5 => [(2, .int y2), (0, .ref 251), (1, .int x1)]) (fun h5 => []) (fun h5 => h5) [kd 251 = 12, kd 251 = 12, kd 268 = 20 ∧ inb x1 (ln 268), kd 263 = 20 ∧ inb y2 (ln 263)] (by decide +kernel) rfl ⟨kd_251, kd_251, ⟨kd_268, g3⟩, ⟨kd_263, g4⟩⟩ hO (fun h5 hO => ?_)
  obtain ⟨g6, hO⟩ := ok_if hO
  obtain ⟨g7, hO⟩ := ok_if hO
  refine rbx hG 11 24 36 [.aload 0, .invokeinterface 1228 13, .iload 2, .aload 0, .invokeinterface 1233 18, .iload 1, .iaload, .iastore] [] [] (wr h5 264 (Int32.toNatClampNeg y2) (h5.1 269 (Int32.toNatClampNeg x1))) (fun h8 => [(2, .int y2), (0, .ref 251), (1, .int x1)]) (fun h8 => []) (fun h8 => h8) [kd 251 = 12, kd 251 = 12, kd 269 = 20 ∧ inb x1 (ln 269), kd 264 = 20 ∧ inb y2 (ln 264)] (by decide +kernel) rfl ⟨kd_251, kd_251, ⟨kd_269, g6⟩, ⟨kd_264, g7⟩⟩ hO (fun h8 hO => ?_)
  obtain ⟨g9, hO⟩ := ok_if hO
  refine rbx hG 9 36 46 [.aload 0, .invokeinterface 1229 14, .iload 2, .aload 0, .getfield 1238, .iastore] [] [] (wr h8 265 (Int32.toNatClampNeg y2) (h8.1 251 38)) (fun h10 => [(2, .int y2), (0, .ref 251), (1, .int x1)]) (fun h10 => []) (fun h10 => h10) [kd 251 = 12, kd 251 = 12, kd 265 = 20 ∧ inb y2 (ln 265)] (by decide +kernel) rfl ⟨kd_251, kd_251, ⟨kd_265, g9⟩⟩ hO (fun h10 hO => ?_)
  obtain ⟨g11, hO⟩ := ok_if hO
  obtain ⟨g12, hO⟩ := ok_if hO
  refine rbx hG 11 46 56 [.aload 0, .invokeinterface 1230 15, .iload 1, .dup2, .iaload, .ldc_w 0, .iadd, .iastore] [1] [] (wr h10 266 (Int32.toNatClampNeg x1) ((h10.1 266 (Int32.toNatClampNeg x1)) + (1 : Int32))) (fun h13 => [(2, .int y2), (0, .ref 251), (1, .int x1)]) (fun h13 => []) (fun h13 => h13) [kd 251 = 12, kd 266 = 20 ∧ inb x1 (ln 266), kd 266 = 20 ∧ inb x1 (ln 266)] (by decide +kernel) rfl ⟨kd_251, ⟨kd_266, g11⟩, ⟨kd_266, g12⟩⟩ hO (fun h13 hO => ?_)
  obtain ⟨g14, hO⟩ := ok_if hO
  refine rbx hG 8 56 63 [.aload 0, .invokeinterface 1232 17, .iload 1, .ldc_w 0, .iastore] [0] [] (wr h13 268 (Int32.toNatClampNeg x1) (0 : Int32)) (fun h15 => [(2, .int y2), (0, .ref 251), (1, .int x1)]) (fun h15 => []) (fun h15 => h15) [kd 251 = 12, kd 268 = 20 ∧ inb x1 (ln 268)] (by decide +kernel) rfl ⟨kd_251, ⟨kd_268, g14⟩⟩ hO (fun h15 hO => ?_)
  obtain ⟨g16, hO⟩ := ok_if hO
  refine rbx hG 8 63 70 [.aload 0, .invokeinterface 1233 18, .iload 1, .ldc_w 0, .iastore] [0] [] (wr h15 269 (Int32.toNatClampNeg x1) (0 : Int32)) (fun h17 => [(2, .int y2), (0, .ref 251), (1, .int x1)]) (fun h17 => []) (fun h17 => h17) [kd 251 = 12, kd 269 = 20 ∧ inb x1 (ln 269)] (by decide +kernel) rfl ⟨kd_251, ⟨kd_269, g16⟩⟩ hO (fun h17 hO => ?_)
  refine rb hG 5 70 72 [.aload 0, .iload 1] [] [] [(2, .int y2), (0, .ref 251), (1, .int x1)] [.int x1, .ref 251] h17 [] (by decide +kernel) rfl trivial ?_
  refine rv hG z_M_lessens 326 1 72 251 [.int x1] [] (by decide +kernel) mk_M_lessens lk_12_326 rcv_251 rfl ⟨rfl, Nat.le_of_ble_eq_true rfl⟩ (c_M_lessens (d := d) h17 x1 (ok_bind hO)) ?_
  rintro _ h19 ⟨r18, rfl, hO⟩
  refine rb hG 4 75 76 [.pop] [] [] [(2, .int y2), (0, .ref 251), (1, .int x1)] [] h19 [] (by decide +kernel) rfl trivial ?_
  exact eV hG 76 (by decide +kernel) rfl ⟨rfl, ok_some (Q := P) hO⟩
/-! GrainInnModel.night()V -/
noncomputable def M_night_j30 (h : Hp) : Option Hp := bnd (wr h 251 38 ((h.1 251 38) + (1 : Int32))) fun h1 => some h1
noncomputable def M_night_j24 (x1 : Int32) (h : Hp) : Option ((Int32 × Hp) ⊕ Hp) := bnd ((x1 + (1 : Int32))) fun y2 => some (.inl (y2, h))
noncomputable def M_night_b2 (x1 : Int32) (h : Hp) : Option ((Int32 × Hp) ⊕ Hp) := if (h.1 251 24) ≤ x1 then (((M_night_j30 h).map Sum.inr)) else (if inb x1 (ln 268) then (if (h.1 268 (Int32.toNatClampNeg x1)) = 0 then ((M_night_j24 x1 h)) else ((M_becomesPast h x1).bind fun h6 => (M_night_j24 x1 h6))) else none)
noncomputable def M_night_l2 (x1 : Int32) (h : Hp) : Option Hp := lp (fun s : (Int32 × Hp) => M_night_b2 s.1 s.2) (x1, h)
theorem M_night_l2_eq (x1 : Int32) (h : Hp) : M_night_l2 x1 h = (M_night_b2 x1 h).bind (Sum.elim (fun q : (Int32 × Hp) => M_night_l2 q.1 q.2) some) := lp_eq _ _
noncomputable def M_night (h : Hp) : Option Hp := (M_night_l2 (0 : Int32) h)
set_option maxRecDepth 100000 in
set_option maxHeartbeats 4000000 in
theorem c_M_night {E : En} {d : Nat} (h : Hp) {P : Hp → Prop} (hO : Okk (M_night h) P) : Cn E (d + 5) z_M_night [.ref 251] h (RV P) := by
  refine cn_of (on := 12) (d := d + 4) ⟨rfl, by decide +kernel, Nat.le_of_ble_eq_true rfl⟩ (fun G hG => ?_)
  unfold M_night at hO
  show G 0 [(0, .ref 251)] [] h
  have j30 : ∀ (h : Hp), Okk (M_night_j30 h) P → G 30 [(0, .ref 251)] [] h := by
    intro h hO
    unfold M_night_j30 at hO
    refine rbx hG 9 30 40 [.aload 0, .dup, .getfield 1238, .ldc_w 0, .iadd, .putfield 1238] [1] [] (wr h 251 38 ((h.1 251 38) + (1 : Int32))) (fun h1 => [(0, .ref 251)]) (fun h1 => []) (fun h1 => h1) [kd 251 = 12, kd 251 = 12] (by decide +kernel) rfl ⟨kd_251, kd_251⟩ hO (fun h1 hO => ?_)
    exact eV hG 40 (by decide +kernel) rfl ⟨rfl, ok_some (Q := P) hO⟩
  have l2 : ∀ (x1 : Int32) (h : Hp), Okk (M_night_l2 x1 h) P → G 2 [(0, .ref 251), (1, .int x1)] [] h := by
    intro x1 h hO
    obtain ⟨H2, eH2⟩ : ∃ q : (Int32 × Hp) → Prop, q = fun s => G 2 [(0, .ref 251), (1, .int (s.1))] [] (s.2) := ⟨_, rfl⟩
    have w9 : H2 (x1, h) := by
      refine lp_wp (f := fun s : (Int32 × Hp) => M_night_b2 s.1 s.2) (H := H2) (Q := P) ?_ (x1, h) hO
      rintro ⟨x1, h⟩ hO
      rw [eH2]
      show G 2 [(0, .ref 251), (1, .int x1)] [] h
      have k2 : ∀ s : (Int32 × Hp), H2 s → G 2 [(0, .ref 251), (1, .int (s.1))] [] (s.2) := fun s q => by rw [eH2] at q; exact q
      replace hO : Okk (M_night_b2 x1 h) (Sum.elim H2 P) := hO
      clear eH2
      have j24 : ∀ (x1 : Int32) (h : Hp), Okk (M_night_j24 x1 h) (Sum.elim H2 P) → G 24 [(0, .ref 251), (1, .int x1)] [] h := by
        intro x1 h hO
        unfold M_night_j24 at hO
        refine rbx hG 4 24 27 [.iinc 1 0] [1] [] ((x1 + (1 : Int32))) (fun y2 => [(1, .int y2), (0, .ref 251)]) (fun y2 => []) (fun y2 => h) [] (by decide +kernel) rfl trivial hO (fun y2 hO => ?_)
        refine rb hG 4 27 2 [] [] [] [(1, .int y2), (0, .ref 251)] [] h [] (by decide +kernel) rfl trivial ?_
        refine rs hG [(0, .ref 251), (1, .int y2)] [1, 0] rfl ?_
        exact k2 (y2, h) (ok_some (Q := (Sum.elim H2 P)) hO)
      unfold M_night_b2 at hO
      refine rb hG 6 2 7 [.iload 1, .aload 0, .getfield 1224] [] [] [(0, .ref 251), (1, .int x1)] [.int (h.1 251 24), .int x1] h [kd 251 = 12] (by decide +kernel) rfl kd_251 ?_
      refine rj hG .ge (23) 30 7 (by decide +kernel) (by decide) (fun c3 => ?_) (fun c3 => ?_)
      · have hO := ok_pos c3 hO
        refine rs hG [(0, .ref 251)] [0] rfl ?_
        exact j30 h (ok_inr hO)
      · have hO := ok_neg c3 hO
        obtain ⟨g4, hO⟩ := ok_if hO
        refine rb hG 7 10 16 [.aload 0, .invokeinterface 1232 17, .iload 1, .iaload] [] [] [(0, .ref 251), (1, .int x1)] [.int (h.1 268 (Int32.toNatClampNeg x1))] h [kd 251 = 12, kd 268 = 20 ∧ inb x1 (ln 268)] (by decide +kernel) rfl ⟨kd_251, ⟨kd_268, g4⟩⟩ ?_
        refine ri hG .eq (8) 24 16 (by decide +kernel) (by decide) (fun c5 => ?_) (fun c5 => ?_)
        · have hO := ok_pos c5 hO
          exact j24 x1 h hO
        · have hO := ok_neg c5 hO
          refine rb hG 5 19 21 [.aload 0, .iload 1] [] [] [(0, .ref 251), (1, .int x1)] [.int x1, .ref 251] h [] (by decide +kernel) rfl trivial ?_
          refine rv hG z_M_becomesPast 329 1 21 251 [.int x1] [] (by decide +kernel) mk_M_becomesPast lk_12_329 rcv_251 rfl ⟨rfl, Nat.le_of_ble_eq_true rfl⟩ (c_M_becomesPast (d := d) h x1 (ok_bind hO)) ?_
          rintro _ h6 ⟨rfl, hO⟩
          exact j24 x1 h6 hO
    rw [eH2] at w9
    exact w9
  refine rb hG 5 0 2 [.ldc_w 0, .istore 1] [0] [] [(1, .int (0 : Int32)), (0, .ref 251)] [] h [] (by decide +kernel) rfl trivial ?_
  refine rs hG [(0, .ref 251), (1, .int (0 : Int32))] [1, 0] rfl ?_
  exact l2 (0 : Int32) h hO
/-! GrainInnModel.scrubs(I)Z -/
noncomputable def M_scrubs_j27 (h : Hp) : Option (Int32 × Hp) := some ((0 : Int32), h)
noncomputable def M_scrubs_j112 (s1 : Int32) (s2 : Int32) (h : Hp) : Option (Int32 × Hp) := if inb s1 (ln 267) then (bnd (wr h 267 (Int32.toNatClampNeg s1) s2) fun h2 => some ((1 : Int32), h2)) else none
noncomputable def M_scrubs_j80 (x1 : Int32) (s1 : Int32) (s2 : Int32) (s3 : Int32) (h : Hp) : Option (Int32 × Hp) := if inb s1 (ln 267) then (bnd (wr h 267 (Int32.toNatClampNeg s1) (s2 - s3)) fun h4 => if inb x1 (ln 267) then (if inb x1 (ln 266) then (if (h4.1 267 (Int32.toNatClampNeg x1)) < (h4.1 266 (Int32.toNatClampNeg x1)) then (if inb x1 (ln 267) then ((M_scrubs_j112 x1 (h4.1 267 (Int32.toNatClampNeg x1)) h4)) else none) else ((M_scrubs_j112 x1 (0 : Int32) h4))) else none) else none) else none
noncomputable def M_scrubs (h : Hp) (x1 : Int32) : Option (Int32 × Hp) := (M_isTable h x1).bind fun r9 => if r9 = 0 then ((M_scrubs_j27 h)) else (if inb x1 (ln 268) then (if (h.1 268 (Int32.toNatClampNeg x1)) = 0 then (if inb x1 (ln 266) then (if (2 : Int32) ≤ (h.1 266 (Int32.toNatClampNeg x1)) then (if inb x1 (ln 266) then (bnd (((h.1 266 (Int32.toNatClampNeg x1)) - (2 : Int32))) fun y16 => (M_movePast h x1 (y16 + (1 : Int32)) x1 y16).bind fun h17 => if inb x1 (ln 266) then (if inb x1 (ln 266) then (bnd (wr h17 266 (Int32.toNatClampNeg x1) ((h17.1 266 (Int32.toNatClampNeg x1)) - (1 : Int32))) fun h20 => if inb x1 (ln 267) then (if inb x1 (ln 267) then (if (h20.1 267 (Int32.toNatClampNeg x1)) ≤ y16 then ((M_scrubs_j80 x1 x1 (h20.1 267 (Int32.toNatClampNeg x1)) (0 : Int32) h20)) else ((M_scrubs_j80 x1 x1 (h20.1 267 (Int32.toNatClampNeg x1)) (1 : Int32) h20))) else none) else none) else none) else none) else none) else ((M_scrubs_j27 h))) else none) else ((M_scrubs_j27 h))) else none)
set_option maxRecDepth 100000 in
set_option maxHeartbeats 4000000 in
theorem c_M_scrubs {E : En} {d : Nat} (h : Hp) (x1 : Int32) {P : (Int32 × Hp) → Prop} (hO : Okk (M_scrubs h x1) P) : Cn E (d + 3) z_M_scrubs [.ref 251, .int x1] h (RI P) := by
  refine cn_of (on := 12) (d := d + 2) ⟨rfl, by decide +kernel, Nat.le_of_ble_eq_true rfl⟩ (fun G hG => ?_)
  unfold M_scrubs at hO
  show G 0 [(0, .ref 251), (1, .int x1)] [] h
  have j27 : ∀ (h : Hp), Okk (M_scrubs_j27 h) P → G 27 [] [] h := by
    intro h hO
    unfold M_scrubs_j27 at hO
    refine rb hG 4 27 28 [.ldc_w 0] [0] [] [] [.int (0 : Int32)] h [] (by decide +kernel) rfl trivial ?_
    exact eZ hG 28 (by decide +kernel) rfl (Or.inl rfl) ⟨(0 : Int32), rfl, ok_some (Q := P) hO⟩
  have j112 : ∀ (s1 : Int32) (s2 : Int32) (h : Hp), Okk (M_scrubs_j112 s1 s2 h) P → G 112 [] [.int s2, .int s1, .ref 267] h := by
    intro s1 s2 h hO
    unfold M_scrubs_j112 at hO
    obtain ⟨g1, hO⟩ := ok_if hO
    refine rbx hG 4 112 113 [.iastore] [] [] (wr h 267 (Int32.toNatClampNeg s1) s2) (fun h2 => []) (fun h2 => []) (fun h2 => h2) [kd 267 = 20 ∧ inb s1 (ln 267)] (by decide +kernel) rfl ⟨kd_267, g1⟩ hO (fun h2 hO => ?_)
    refine rb hG 4 113 114 [.ldc_w 0] [1] [] [] [.int (1 : Int32)] h2 [] (by decide +kernel) rfl trivial ?_
    exact eZ hG 114 (by decide +kernel) rfl (Or.inr rfl) ⟨(1 : Int32), rfl, ok_some (Q := P) hO⟩
  have j80 : ∀ (s1 : Int32) (s2 : Int32) (s3 : Int32) (h : Hp), Okk (M_scrubs_j80 x1 s1 s2 s3 h) P → G 80 [(0, .ref 251), (1, .int x1)] [.int s3, .int s2, .int s1, .ref 267] h := by
    intro s1 s2 s3 h hO
    unfold M_scrubs_j80 at hO
    obtain ⟨g3, hO⟩ := ok_if hO
    refine rbx hG 5 80 82 [.isub, .iastore] [] [] (wr h 267 (Int32.toNatClampNeg s1) (s2 - s3)) (fun h4 => [(0, .ref 251), (1, .int x1)]) (fun h4 => []) (fun h4 => h4) [kd 267 = 20 ∧ inb s1 (ln 267)] (by decide +kernel) rfl ⟨kd_267, g3⟩ hO (fun h4 hO => ?_)
    obtain ⟨g5, hO⟩ := ok_if hO
    obtain ⟨g6, hO⟩ := ok_if hO
    refine rb hG 14 82 99 [.aload 0, .invokeinterface 1231 16, .iload 1, .aload 0, .invokeinterface 1231 16, .iload 1, .iaload, .aload 0, .invokeinterface 1230 15, .iload 1, .iaload] [] [] [(0, .ref 251), (1, .int x1)] [.int (h4.1 266 (Int32.toNatClampNeg x1)), .int (h4.1 267 (Int32.toNatClampNeg x1)), .int x1, .ref 267] h4 [kd 251 = 12, kd 251 = 12, kd 267 = 20 ∧ inb x1 (ln 267), kd 251 = 12, kd 266 = 20 ∧ inb x1 (ln 266)] (by decide +kernel) rfl ⟨kd_251, kd_251, ⟨kd_267, g5⟩, kd_251, ⟨kd_266, g6⟩⟩ ?_
    refine rj hG .lt (7) 106 99 (by decide +kernel) (by decide) (fun c7 => ?_) (fun c7 => ?_)
    · have hO := ok_pos c7 hO
      obtain ⟨g8, hO⟩ := ok_if hO
      refine rb hG 7 106 112 [.aload 0, .invokeinterface 1231 16, .iload 1, .iaload] [] [] [(0, .ref 251), (1, .int x1)] [.int (h4.1 267 (Int32.toNatClampNeg x1)), .int x1, .ref 267] h4 [kd 251 = 12, kd 267 = 20 ∧ inb x1 (ln 267)] (by decide +kernel) rfl ⟨kd_251, ⟨kd_267, g8⟩⟩ ?_
      refine rs hG [] [] rfl ?_
      exact j112 x1 (h4.1 267 (Int32.toNatClampNeg x1)) h4 hO
    · have hO := ok_neg c7 hO
      refine rb hG 5 102 112 [.ldc_w 0] [0] [] [(0, .ref 251), (1, .int x1)] [.int (0 : Int32), .int x1, .ref 267] h4 [] (by decide +kernel) rfl trivial ?_
      refine rs hG [] [] rfl ?_
      exact j112 x1 (0 : Int32) h4 hO
  refine rb hG 5 0 2 [.aload 0, .iload 1] [] [] [(0, .ref 251), (1, .int x1)] [.int x1, .ref 251] h [] (by decide +kernel) rfl trivial ?_
  refine rv hG z_M_isTable 338 1 2 251 [.int x1] [] (by decide +kernel) mk_M_isTable lk_12_338 rcv_251 rfl ⟨rfl, Nat.le_of_ble_eq_true rfl⟩ (c_M_isTable (d := d) h x1 (ok_bind hO)) ?_
  rintro _ _ ⟨r9, rfl, rfl, hO⟩
  refine ri hG .eq (22) 27 5 (by decide +kernel) (by decide) (fun c10 => ?_) (fun c10 => ?_)
  · have hO := ok_pos c10 hO
    refine rs hG [] [] rfl ?_
    exact j27 h hO
  · have hO := ok_neg c10 hO
    obtain ⟨g11, hO⟩ := ok_if hO
    refine rb hG 7 8 14 [.aload 0, .invokeinterface 1232 17, .iload 1, .iaload] [] [] [(0, .ref 251), (1, .int x1)] [.int (h.1 268 (Int32.toNatClampNeg x1))] h [kd 251 = 12, kd 268 = 20 ∧ inb x1 (ln 268)] (by decide +kernel) rfl ⟨kd_251, ⟨kd_268, g11⟩⟩ ?_
    refine riN hG (13) 27 14 (by decide +kernel) (by decide) (fun c12 => ?_) (fun c12 => ?_)
    · have hO := ok_pos c12 hO
      obtain ⟨g13, hO⟩ := ok_if hO
      refine rb hG 8 17 24 [.aload 0, .invokeinterface 1230 15, .iload 1, .iaload, .ldc_w 0] [2] [] [(0, .ref 251), (1, .int x1)] [.int (2 : Int32), .int (h.1 266 (Int32.toNatClampNeg x1))] h [kd 251 = 12, kd 266 = 20 ∧ inb x1 (ln 266)] (by decide +kernel) rfl ⟨kd_251, ⟨kd_266, g13⟩⟩ ?_
      refine rj hG .ge (5) 29 24 (by decide +kernel) (by decide) (fun c14 => ?_) (fun c14 => ?_)
      · have hO := ok_pos c14 hO
        obtain ⟨g15, hO⟩ := ok_if hO
        refine rbx hG 10 29 38 [.aload 0, .invokeinterface 1230 15, .iload 1, .iaload, .ldc_w 0, .isub, .istore 2] [2] [] (((h.1 266 (Int32.toNatClampNeg x1)) - (2 : Int32))) (fun y16 => [(2, .int y16), (0, .ref 251), (1, .int x1)]) (fun y16 => []) (fun y16 => h) [kd 251 = 12, kd 266 = 20 ∧ inb x1 (ln 266)] (by decide +kernel) rfl ⟨kd_251, ⟨kd_266, g15⟩⟩ hO (fun y16 hO => ?_)
        refine rb hG 10 38 45 [.aload 0, .iload 1, .iload 2, .ldc_w 0, .iadd, .iload 1, .iload 2] [1] [] [(2, .int y16), (0, .ref 251), (1, .int x1)] [.int y16, .int x1, .int (y16 + (1 : Int32)), .int x1, .ref 251] h [] (by decide +kernel) rfl trivial ?_
        refine rv hG z_M_movePast 323 4 45 251 [.int x1, .int (y16 + (1 : Int32)), .int x1, .int y16] [] (by decide +kernel) mk_M_movePast lk_12_323 rcv_251 rfl ⟨rfl, Nat.le_of_ble_eq_true rfl⟩ (c_M_movePast (d := d + 1) h x1 (y16 + (1 : Int32)) x1 y16 (ok_bind hO)) ?_
        rintro _ h17 ⟨rfl, hO⟩
        obtain ⟨g18, hO⟩ := ok_if hO
        obtain ⟨g19, hO⟩ := ok_if hO
        refine rbx hG 11 48 58 [.aload 0, .invokeinterface 1230 15, .iload 1, .dup2, .iaload, .ldc_w 0, .isub, .iastore] [1] [] (wr h17 266 (Int32.toNatClampNeg x1) ((h17.1 266 (Int32.toNatClampNeg x1)) - (1 : Int32))) (fun h20 => [(2, .int y16), (0, .ref 251), (1, .int x1)]) (fun h20 => []) (fun h20 => h20) [kd 251 = 12, kd 266 = 20 ∧ inb x1 (ln 266), kd 266 = 20 ∧ inb x1 (ln 266)] (by decide +kernel) rfl ⟨kd_251, ⟨kd_266, g18⟩, ⟨kd_266, g19⟩⟩ hO (fun h20 hO => ?_)
        obtain ⟨g21, hO⟩ := ok_if hO
        obtain ⟨g22, hO⟩ := ok_if hO
        refine rb hG 13 58 72 [.aload 0, .invokeinterface 1231 16, .iload 1, .dup2, .iaload, .aload 0, .invokeinterface 1231 16, .iload 1, .iaload, .iload 2] [] [] [(2, .int y16), (0, .ref 251), (1, .int x1)] [.int y16, .int (h20.1 267 (Int32.toNatClampNeg x1)), .int (h20.1 267 (Int32.toNatClampNeg x1)), .int x1, .ref 267] h20 [kd 251 = 12, kd 267 = 20 ∧ inb x1 (ln 267), kd 251 = 12, kd 267 = 20 ∧ inb x1 (ln 267)] (by decide +kernel) rfl ⟨kd_251, ⟨kd_267, g21⟩, kd_251, ⟨kd_267, g22⟩⟩ ?_
        refine rj hG .le (7) 79 72 (by decide +kernel) (by decide) (fun c23 => ?_) (fun c23 => ?_)
        · have hO := ok_pos c23 hO
          refine rb hG 4 79 80 [.ldc_w 0] [0] [] [(2, .int y16), (0, .ref 251), (1, .int x1)] [.int (0 : Int32), .int (h20.1 267 (Int32.toNatClampNeg x1)), .int x1, .ref 267] h20 [] (by decide +kernel) rfl trivial ?_
          refine rs hG [(0, .ref 251), (1, .int x1)] [1, 2] rfl ?_
          exact j80 x1 (h20.1 267 (Int32.toNatClampNeg x1)) (0 : Int32) h20 hO
        · have hO := ok_neg c23 hO
          refine rb hG 5 75 80 [.ldc_w 0] [1] [] [(2, .int y16), (0, .ref 251), (1, .int x1)] [.int (1 : Int32), .int (h20.1 267 (Int32.toNatClampNeg x1)), .int x1, .ref 267] h20 [] (by decide +kernel) rfl trivial ?_
          refine rs hG [(0, .ref 251), (1, .int x1)] [1, 2] rfl ?_
          exact j80 x1 (h20.1 267 (Int32.toNatClampNeg x1)) (1 : Int32) h20 hO
      · have hO := ok_neg c14 hO
        refine rs hG [] [] rfl ?_
        exact j27 h hO
    · have hO := ok_neg c12 hO
      refine rs hG [] [] rfl ?_
      exact j27 h hO
/-! GrainInnModel.areFree(II)Z -/
noncomputable def M_areFree_j39 (s0 : Int32) (h : Hp) : Option Int32 := if s0 = 0 ∨ s0 = 1 then (some s0) else none
noncomputable def M_areFree_j38 (h : Hp) : Option Int32 := (M_areFree_j39 (0 : Int32) h)
noncomputable def M_areFree (h : Hp) (x1 : Int32) (x2 : Int32) : Option Int32 := (M_isTable h x1).bind fun r2 => if r2 = 0 then ((M_areFree_j38 h)) else ((M_isTable h x2).bind fun r4 => if r4 = 0 then ((M_areFree_j38 h)) else (if inb x1 (ln 268) then (if (h.1 268 (Int32.toNatClampNeg x1)) = 0 then (if inb x2 (ln 268) then (if (h.1 268 (Int32.toNatClampNeg x2)) = 0 then ((M_areFree_j39 (1 : Int32) h)) else ((M_areFree_j38 h))) else none) else ((M_areFree_j38 h))) else none))
set_option maxRecDepth 100000 in
set_option maxHeartbeats 4000000 in
theorem c_M_areFree {E : En} {d : Nat} (h : Hp) (x1 : Int32) (x2 : Int32) {P : Int32 → Prop} (hO : Okk (M_areFree h x1 x2) P) : Cn E (d + 3) z_M_areFree [.ref 251, .int x1, .int x2] h (RIp h P) := by
  refine cn_of (on := 12) (d := d + 2) ⟨rfl, by decide +kernel, Nat.le_of_ble_eq_true rfl⟩ (fun G hG => ?_)
  unfold M_areFree at hO
  show G 0 [(0, .ref 251), (1, .int x1), (2, .int x2)] [] h
  have j39 : ∀ (s0 : Int32), Okk (M_areFree_j39 s0 h) P → G 39 [] [.int s0] h := by
    intro s0 hO
    unfold M_areFree_j39 at hO
    obtain ⟨g1, hO⟩ := ok_if hO
    exact eZ hG 39 (by decide +kernel) rfl g1 ⟨s0, rfl, rfl, ok_some (Q := P) hO⟩
  have j38 : Okk (M_areFree_j38 h) P → G 38 [] [] h := by
    intro hO
    unfold M_areFree_j38 at hO
    refine rb hG 4 38 39 [.ldc_w 0] [0] [] [] [.int (0 : Int32)] h [] (by decide +kernel) rfl trivial ?_
    exact j39 (0 : Int32) hO
  refine rb hG 5 0 2 [.aload 0, .iload 1] [] [] [(0, .ref 251), (1, .int x1), (2, .int x2)] [.int x1, .ref 251] h [] (by decide +kernel) rfl trivial ?_
  refine rv hG z_M_isTable 338 1 2 251 [.int x1] [] (by decide +kernel) mk_M_isTable lk_12_338 rcv_251 rfl ⟨rfl, Nat.le_of_ble_eq_true rfl⟩ (c_M_isTable (d := d) h x1 (ok_bind hO)) ?_
  rintro _ _ ⟨r2, rfl, rfl, hO⟩
  refine ri hG .eq (33) 38 5 (by decide +kernel) (by decide) (fun c3 => ?_) (fun c3 => ?_)
  · have hO := ok_pos c3 hO
    refine rs hG [] [] rfl ?_
    exact j38 hO
  · have hO := ok_neg c3 hO
    refine rb hG 5 8 10 [.aload 0, .iload 2] [] [] [(0, .ref 251), (1, .int x1), (2, .int x2)] [.int x2, .ref 251] h [] (by decide +kernel) rfl trivial ?_
    refine rv hG z_M_isTable 338 1 10 251 [.int x2] [] (by decide +kernel) mk_M_isTable lk_12_338 rcv_251 rfl ⟨rfl, Nat.le_of_ble_eq_true rfl⟩ (c_M_isTable (d := d) h x2 (ok_bind hO)) ?_
    rintro _ _ ⟨r4, rfl, rfl, hO⟩
    refine ri hG .eq (25) 38 13 (by decide +kernel) (by decide) (fun c5 => ?_) (fun c5 => ?_)
    · have hO := ok_pos c5 hO
      refine rs hG [] [] rfl ?_
      exact j38 hO
    · have hO := ok_neg c5 hO
      obtain ⟨g6, hO⟩ := ok_if hO
      refine rb hG 7 16 22 [.aload 0, .invokeinterface 1232 17, .iload 1, .iaload] [] [] [(0, .ref 251), (1, .int x1), (2, .int x2)] [.int (h.1 268 (Int32.toNatClampNeg x1))] h [kd 251 = 12, kd 268 = 20 ∧ inb x1 (ln 268)] (by decide +kernel) rfl ⟨kd_251, ⟨kd_268, g6⟩⟩ ?_
      refine riN hG (16) 38 22 (by decide +kernel) (by decide) (fun c7 => ?_) (fun c7 => ?_)
      · have hO := ok_pos c7 hO
        obtain ⟨g8, hO⟩ := ok_if hO
        refine rb hG 7 25 31 [.aload 0, .invokeinterface 1232 17, .iload 2, .iaload] [] [] [(0, .ref 251), (1, .int x1), (2, .int x2)] [.int (h.1 268 (Int32.toNatClampNeg x2))] h [kd 251 = 12, kd 268 = 20 ∧ inb x2 (ln 268)] (by decide +kernel) rfl ⟨kd_251, ⟨kd_268, g8⟩⟩ ?_
        refine riN hG (7) 38 31 (by decide +kernel) (by decide) (fun c9 => ?_) (fun c9 => ?_)
        · have hO := ok_pos c9 hO
          refine rb hG 5 34 39 [.ldc_w 0] [1] [] [(0, .ref 251), (1, .int x1), (2, .int x2)] [.int (1 : Int32)] h [] (by decide +kernel) rfl trivial ?_
          refine rs hG [] [] rfl ?_
          exact j39 (1 : Int32) hO
        · have hO := ok_neg c9 hO
          refine rs hG [] [] rfl ?_
          exact j38 hO
      · have hO := ok_neg c7 hO
        refine rs hG [] [] rfl ?_
        exact j38 hO
/-! GrainInnModel.joins(II)Z -/
noncomputable def M_joins_j44 (x1 : Int32) (x2 : Int32) (h : Hp) : Option (Int32 × Hp) := if inb x1 (ln 266) then (if inb x2 (ln 266) then (if inb x1 (ln 266) then (bnd (wr h 266 (Int32.toNatClampNeg x1) ((h.1 266 (Int32.toNatClampNeg x1)) + (h.1 266 (Int32.toNatClampNeg x2)))) fun h4 => if inb x2 (ln 266) then (bnd (wr h4 266 (Int32.toNatClampNeg x2) (0 : Int32)) fun h6 => if inb x2 (ln 267) then (bnd (wr h6 267 (Int32.toNatClampNeg x2) (0 : Int32)) fun h8 => (M_lessens h8 x1).bind fun (r9, h10) => some ((1 : Int32), h10)) else none) else none) else none) else none) else none
noncomputable def M_joins_b13 (x1 : Int32) (x2 : Int32) (x3 : Int32) (h : Hp) : Option ((Int32 × Hp) ⊕ (Int32 × Hp)) := if inb x2 (ln 266) then (if (h.1 266 (Int32.toNatClampNeg x2)) ≤ x3 then (((M_joins_j44 x1 x2 h).map Sum.inr)) else (if inb x1 (ln 266) then ((M_movePast h x2 x3 x1 ((h.1 266 (Int32.toNatClampNeg x1)) + x3)).bind fun h14 => bnd ((x3 + (1 : Int32))) fun y15 => some (.inl (y15, h14))) else none)) else none
noncomputable def M_joins_l13 (x1 : Int32) (x2 : Int32) (x3 : Int32) (h : Hp) : Option (Int32 × Hp) := lp (fun s : (Int32 × Hp) => M_joins_b13 x1 x2 s.1 s.2) (x3, h)
theorem M_joins_l13_eq (x1 : Int32) (x2 : Int32) (x3 : Int32) (h : Hp) : M_joins_l13 x1 x2 x3 h = (M_joins_b13 x1 x2 x3 h).bind (Sum.elim (fun q : (Int32 × Hp) => M_joins_l13 x1 x2 q.1 q.2) some) := lp_eq _ _
noncomputable def M_joins (h : Hp) (x1 : Int32) (x2 : Int32) : Option (Int32 × Hp) := (M_areFree h x1 x2).bind fun r16 => if r16 = 0 then (some ((0 : Int32), h)) else ((M_joins_l13 x1 x2 (0 : Int32) h))
set_option maxRecDepth 100000 in
set_option maxHeartbeats 4000000 in
theorem c_M_joins {E : En} {d : Nat} (h : Hp) (x1 : Int32) (x2 : Int32) {P : (Int32 × Hp) → Prop} (hO : Okk (M_joins h x1 x2) P) : Cn E (d + 4) z_M_joins [.ref 251, .int x1, .int x2] h (RI P) := by
  refine cn_of (on := 12) (d := d + 3) ⟨rfl, by decide +kernel, Nat.le_of_ble_eq_true rfl⟩ (fun G hG => ?_)
  unfold M_joins at hO
  show G 0 [(0, .ref 251), (1, .int x1), (2, .int x2)] [] h
  have j44 : ∀ (h : Hp), Okk (M_joins_j44 x1 x2 h) P → G 44 [(0, .ref 251), (1, .int x1), (2, .int x2)] [] h := by
    intro h hO
    unfold M_joins_j44 at hO
    obtain ⟨g1, hO⟩ := ok_if hO
    obtain ⟨g2, hO⟩ := ok_if hO
    obtain ⟨g3, hO⟩ := ok_if hO
    refine rbx hG 14 44 59 [.aload 0, .invokeinterface 1230 15, .iload 1, .dup2, .iaload, .aload 0, .invokeinterface 1230 15, .iload 2, .iaload, .iadd, .iastore] [] [] (wr h 266 (Int32.toNatClampNeg x1) ((h.1 266 (Int32.toNatClampNeg x1)) + (h.1 266 (Int32.toNatClampNeg x2)))) (fun h4 => [(0, .ref 251), (1, .int x1), (2, .int x2)]) (fun h4 => []) (fun h4 => h4) [kd 251 = 12, kd 266 = 20 ∧ inb x1 (ln 266), kd 251 = 12, kd 266 = 20 ∧ inb x2 (ln 266), kd 266 = 20 ∧ inb x1 (ln 266)] (by decide +kernel) rfl ⟨kd_251, ⟨kd_266, g1⟩, kd_251, ⟨kd_266, g2⟩, ⟨kd_266, g3⟩⟩ hO (fun h4 hO => ?_)
    obtain ⟨g5, hO⟩ := ok_if hO
    refine rbx hG 8 59 66 [.aload 0, .invokeinterface 1230 15, .iload 2, .ldc_w 0, .iastore] [0] [] (wr h4 266 (Int32.toNatClampNeg x2) (0 : Int32)) (fun h6 => [(0, .ref 251), (1, .int x1), (2, .int x2)]) (fun h6 => []) (fun h6 => h6) [kd 251 = 12, kd 266 = 20 ∧ inb x2 (ln 266)] (by decide +kernel) rfl ⟨kd_251, ⟨kd_266, g5⟩⟩ hO (fun h6 hO => ?_)
    obtain ⟨g7, hO⟩ := ok_if hO
    refine rbx hG 8 66 73 [.aload 0, .invokeinterface 1231 16, .iload 2, .ldc_w 0, .iastore] [0] [] (wr h6 267 (Int32.toNatClampNeg x2) (0 : Int32)) (fun h8 => [(0, .ref 251), (1, .int x1), (2, .int x2)]) (fun h8 => []) (fun h8 => h8) [kd 251 = 12, kd 267 = 20 ∧ inb x2 (ln 267)] (by decide +kernel) rfl ⟨kd_251, ⟨kd_267, g7⟩⟩ hO (fun h8 hO => ?_)
    refine rb hG 5 73 75 [.aload 0, .iload 1] [] [] [(0, .ref 251), (1, .int x1), (2, .int x2)] [.int x1, .ref 251] h8 [] (by decide +kernel) rfl trivial ?_
    refine rv hG z_M_lessens 326 1 75 251 [.int x1] [] (by decide +kernel) mk_M_lessens lk_12_326 rcv_251 rfl ⟨rfl, Nat.le_of_ble_eq_true rfl⟩ (c_M_lessens (d := d) h8 x1 (ok_bind hO)) ?_
    rintro _ h10 ⟨r9, rfl, hO⟩
    refine rb hG 5 78 80 [.pop, .ldc_w 0] [1] [] [(0, .ref 251), (1, .int x1), (2, .int x2)] [.int (1 : Int32)] h10 [] (by decide +kernel) rfl trivial ?_
    exact eZ hG 80 (by decide +kernel) rfl (Or.inr rfl) ⟨(1 : Int32), rfl, ok_some (Q := P) hO⟩
  have l13 : ∀ (x3 : Int32) (h : Hp), Okk (M_joins_l13 x1 x2 x3 h) P → G 13 [(0, .ref 251), (1, .int x1), (2, .int x2), (3, .int x3)] [] h := by
    intro x3 h hO
    obtain ⟨H13, eH13⟩ : ∃ q : (Int32 × Hp) → Prop, q = fun s => G 13 [(0, .ref 251), (1, .int x1), (2, .int x2), (3, .int (s.1))] [] (s.2) := ⟨_, rfl⟩
    have w9 : H13 (x3, h) := by
      refine lp_wp (f := fun s : (Int32 × Hp) => M_joins_b13 x1 x2 s.1 s.2) (H := H13) (Q := P) ?_ (x3, h) hO
      rintro ⟨x3, h⟩ hO
      rw [eH13]
      show G 13 [(0, .ref 251), (1, .int x1), (2, .int x2), (3, .int x3)] [] h
      have k13 : ∀ s : (Int32 × Hp), H13 s → G 13 [(0, .ref 251), (1, .int x1), (2, .int x2), (3, .int (s.1))] [] (s.2) := fun s q => by rw [eH13] at q; exact q
      replace hO : Okk (M_joins_b13 x1 x2 x3 h) (Sum.elim H13 P) := hO
      clear eH13
      unfold M_joins_b13 at hO
      obtain ⟨g11, hO⟩ := ok_if hO
      refine rb hG 8 13 20 [.iload 3, .aload 0, .invokeinterface 1230 15, .iload 2, .iaload] [] [] [(0, .ref 251), (1, .int x1), (2, .int x2), (3, .int x3)] [.int (h.1 266 (Int32.toNatClampNeg x2)), .int x3] h [kd 251 = 12, kd 266 = 20 ∧ inb x2 (ln 266)] (by decide +kernel) rfl ⟨kd_251, ⟨kd_266, g11⟩⟩ ?_
      refine rj hG .ge (24) 44 20 (by decide +kernel) (by decide) (fun c12 => ?_) (fun c12 => ?_)
      · have hO := ok_pos c12 hO
        refine rs hG [(0, .ref 251), (1, .int x1), (2, .int x2)] [0, 1, 2] rfl ?_
        exact j44 h (ok_inr hO)
      · have hO := ok_neg c12 hO
        obtain ⟨g13, hO⟩ := ok_if hO
        refine rb hG 13 23 35 [.aload 0, .iload 2, .iload 3, .iload 1, .aload 0, .invokeinterface 1230 15, .iload 1, .iaload, .iload 3, .iadd] [] [] [(0, .ref 251), (1, .int x1), (2, .int x2), (3, .int x3)] [.int ((h.1 266 (Int32.toNatClampNeg x1)) + x3), .int x1, .int x3, .int x2, .ref 251] h [kd 251 = 12, kd 266 = 20 ∧ inb x1 (ln 266)] (by decide +kernel) rfl ⟨kd_251, ⟨kd_266, g13⟩⟩ ?_
        refine rv hG z_M_movePast 323 4 35 251 [.int x2, .int x3, .int x1, .int ((h.1 266 (Int32.toNatClampNeg x1)) + x3)] [] (by decide +kernel) mk_M_movePast lk_12_323 rcv_251 rfl ⟨rfl, Nat.le_of_ble_eq_true rfl⟩ (c_M_movePast (d := d + 2) h x2 x3 x1 ((h.1 266 (Int32.toNatClampNeg x1)) + x3) (ok_bind hO)) ?_
        rintro _ h14 ⟨rfl, hO⟩
        refine rbx hG 4 38 41 [.iinc 3 0] [1] [] ((x3 + (1 : Int32))) (fun y15 => [(3, .int y15), (0, .ref 251), (1, .int x1), (2, .int x2)]) (fun y15 => []) (fun y15 => h14) [] (by decide +kernel) rfl trivial hO (fun y15 hO => ?_)
        refine rb hG 4 41 13 [] [] [] [(3, .int y15), (0, .ref 251), (1, .int x1), (2, .int x2)] [] h14 [] (by decide +kernel) rfl trivial ?_
        refine rs hG [(0, .ref 251), (1, .int x1), (2, .int x2), (3, .int y15)] [1, 2, 3, 0] rfl ?_
        exact k13 (y15, h14) (ok_some (Q := (Sum.elim H13 P)) hO)
    rw [eH13] at w9
    exact w9
  refine rb hG 6 0 3 [.aload 0, .iload 1, .iload 2] [] [] [(0, .ref 251), (1, .int x1), (2, .int x2)] [.int x2, .int x1, .ref 251] h [] (by decide +kernel) rfl trivial ?_
  refine rv hG z_M_areFree 341 2 3 251 [.int x1, .int x2] [] (by decide +kernel) mk_M_areFree lk_12_341 rcv_251 rfl ⟨rfl, Nat.le_of_ble_eq_true rfl⟩ (c_M_areFree (d := d) h x1 x2 (ok_bind hO)) ?_
  rintro _ _ ⟨r16, rfl, rfl, hO⟩
  refine riN hG (5) 11 6 (by decide +kernel) (by decide) (fun c17 => ?_) (fun c17 => ?_)
  · have hO := ok_pos c17 hO
    refine rb hG 4 9 10 [.ldc_w 0] [0] [] [(0, .ref 251), (1, .int x1), (2, .int x2)] [.int (0 : Int32)] h [] (by decide +kernel) rfl trivial ?_
    exact eZ hG 10 (by decide +kernel) rfl (Or.inl rfl) ⟨(0 : Int32), rfl, ok_some (Q := P) hO⟩
  · have hO := ok_neg c17 hO
    refine rb hG 5 11 13 [.ldc_w 0, .istore 3] [0] [] [(3, .int (0 : Int32)), (0, .ref 251), (1, .int x1), (2, .int x2)] [] h [] (by decide +kernel) rfl trivial ?_
    refine rs hG [(0, .ref 251), (1, .int x1), (2, .int x2), (3, .int (0 : Int32))] [1, 2, 3, 0] rfl ?_
    exact l13 (0 : Int32) h hO
/-! GrainInnModel.splits(II)Z -/
noncomputable def M_splits_j28 (h : Hp) : Option (Int32 × Hp) := some ((0 : Int32), h)
noncomputable def M_splits_j96 (x1 : Int32) (x2 : Int32) (x3 : Int32) (h : Hp) : Option (Int32 × Hp) := if inb x1 (ln 266) then (if inb x1 (ln 266) then (bnd (wr h 266 (Int32.toNatClampNeg x1) ((h.1 266 (Int32.toNatClampNeg x1)) - x3)) fun h3 => if inb x2 (ln 266) then (bnd (wr h3 266 (Int32.toNatClampNeg x2) x3) fun h5 => (M_lessens h5 x2).bind fun (r6, h7) => if inb x1 (ln 267) then (bnd (wr h7 267 (Int32.toNatClampNeg x1) (0 : Int32)) fun h9 => if inb x2 (ln 267) then (bnd (wr h9 267 (Int32.toNatClampNeg x2) (0 : Int32)) fun h11 => some ((1 : Int32), h11)) else none) else none) else none) else none) else none
noncomputable def M_splits_b67 (x1 : Int32) (x2 : Int32) (x3 : Int32) (x4 : Int32) (h : Hp) : Option ((Int32 × Hp) ⊕ (Int32 × Hp)) := if inb x1 (ln 266) then (if (h.1 266 (Int32.toNatClampNeg x1)) ≤ x4 then (((M_splits_j96 x1 x2 x3 h).map Sum.inr)) else ((M_movePast h x1 x4 x1 (x4 - x3)).bind fun h14 => bnd ((x4 + (1 : Int32))) fun y15 => some (.inl (y15, h14)))) else none
noncomputable def M_splits_l67 (x1 : Int32) (x2 : Int32) (x3 : Int32) (x4 : Int32) (h : Hp) : Option (Int32 × Hp) := lp (fun s : (Int32 × Hp) => M_splits_b67 x1 x2 x3 s.1 s.2) (x4, h)
theorem M_splits_l67_eq (x1 : Int32) (x2 : Int32) (x3 : Int32) (x4 : Int32) (h : Hp) : M_splits_l67 x1 x2 x3 x4 h = (M_splits_b67 x1 x2 x3 x4 h).bind (Sum.elim (fun q : (Int32 × Hp) => M_splits_l67 x1 x2 x3 q.1 q.2) some) := lp_eq _ _
noncomputable def M_splits_j64 (x1 : Int32) (x2 : Int32) (x3 : Int32) (h : Hp) : Option (Int32 × Hp) := (M_splits_l67 x1 x2 x3 x3 h)
noncomputable def M_splits_b42 (x1 : Int32) (x2 : Int32) (x3 : Int32) (x4 : Int32) (h : Hp) : Option ((Int32 × Hp) ⊕ (Int32 × Hp)) := if x3 ≤ x4 then (((M_splits_j64 x1 x2 x3 h).map Sum.inr)) else ((M_movePast h x1 x4 x2 x4).bind fun h17 => bnd ((x4 + (1 : Int32))) fun y18 => some (.inl (y18, h17)))
noncomputable def M_splits_l42 (x1 : Int32) (x2 : Int32) (x3 : Int32) (x4 : Int32) (h : Hp) : Option (Int32 × Hp) := lp (fun s : (Int32 × Hp) => M_splits_b42 x1 x2 x3 s.1 s.2) (x4, h)
theorem M_splits_l42_eq (x1 : Int32) (x2 : Int32) (x3 : Int32) (x4 : Int32) (h : Hp) : M_splits_l42 x1 x2 x3 x4 h = (M_splits_b42 x1 x2 x3 x4 h).bind (Sum.elim (fun q : (Int32 × Hp) => M_splits_l42 x1 x2 x3 q.1 q.2) some) := lp_eq _ _
noncomputable def M_splits (h : Hp) (x1 : Int32) (x2 : Int32) : Option (Int32 × Hp) := (M_areFree h x1 x2).bind fun r19 => if r19 = 0 then ((M_splits_j28 h)) else (if inb x2 (ln 266) then (if 0 < (h.1 266 (Int32.toNatClampNeg x2)) then ((M_splits_j28 h)) else (if inb x1 (ln 266) then (if (2 : Int32) ≤ (h.1 266 (Int32.toNatClampNeg x1)) then (if inb x1 (ln 266) then (bnd (((h.1 266 (Int32.toNatClampNeg x1)) / (2 : Int32))) fun y26 => (M_splits_l42 x1 x2 y26 (0 : Int32) h)) else none) else ((M_splits_j28 h))) else none)) else none)
set_option maxRecDepth 100000 in
set_option maxHeartbeats 4000000 in
theorem c_M_splits {E : En} {d : Nat} (h : Hp) (x1 : Int32) (x2 : Int32) {P : (Int32 × Hp) → Prop} (hO : Okk (M_splits h x1 x2) P) : Cn E (d + 4) z_M_splits [.ref 251, .int x1, .int x2] h (RI P) := by
  refine cn_of (on := 12) (d := d + 3) ⟨rfl, by decide +kernel, Nat.le_of_ble_eq_true rfl⟩ (fun G hG => ?_)
  unfold M_splits at hO
  show G 0 [(0, .ref 251), (1, .int x1), (2, .int x2)] [] h
  have j28 : ∀ (h : Hp), Okk (M_splits_j28 h) P → G 28 [] [] h := by
    intro h hO
    unfold M_splits_j28 at hO
    refine rb hG 4 28 29 [.ldc_w 0] [0] [] [] [.int (0 : Int32)] h [] (by decide +kernel) rfl trivial ?_
    exact eZ hG 29 (by decide +kernel) rfl (Or.inl rfl) ⟨(0 : Int32), rfl, ok_some (Q := P) hO⟩
  have j96 : ∀ (x3 : Int32) (h : Hp), Okk (M_splits_j96 x1 x2 x3 h) P → G 96 [(0, .ref 251), (1, .int x1), (2, .int x2), (3, .int x3)] [] h := by
    intro x3 h hO
    unfold M_splits_j96 at hO
    obtain ⟨g1, hO⟩ := ok_if hO
    obtain ⟨g2, hO⟩ := ok_if hO
    refine rbx hG 11 96 106 [.aload 0, .invokeinterface 1230 15, .iload 1, .dup2, .iaload, .iload 3, .isub, .iastore] [] [] (wr h 266 (Int32.toNatClampNeg x1) ((h.1 266 (Int32.toNatClampNeg x1)) - x3)) (fun h3 => [(0, .ref 251), (1, .int x1), (2, .int x2), (3, .int x3)]) (fun h3 => []) (fun h3 => h3) [kd 251 = 12, kd 266 = 20 ∧ inb x1 (ln 266), kd 266 = 20 ∧ inb x1 (ln 266)] (by decide +kernel) rfl ⟨kd_251, ⟨kd_266, g1⟩, ⟨kd_266, g2⟩⟩ hO (fun h3 hO => ?_)
    obtain ⟨g4, hO⟩ := ok_if hO
    refine rbx hG 8 106 113 [.aload 0, .invokeinterface 1230 15, .iload 2, .iload 3, .iastore] [] [] (wr h3 266 (Int32.toNatClampNeg x2) x3) (fun h5 => [(0, .ref 251), (1, .int x1), (2, .int x2), (3, .int x3)]) (fun h5 => []) (fun h5 => h5) [kd 251 = 12, kd 266 = 20 ∧ inb x2 (ln 266)] (by decide +kernel) rfl ⟨kd_251, ⟨kd_266, g4⟩⟩ hO (fun h5 hO => ?_)
    refine rb hG 5 113 115 [.aload 0, .iload 2] [] [] [(0, .ref 251), (1, .int x1), (2, .int x2), (3, .int x3)] [.int x2, .ref 251] h5 [] (by decide +kernel) rfl trivial ?_
    refine rv hG z_M_lessens 326 1 115 251 [.int x2] [] (by decide +kernel) mk_M_lessens lk_12_326 rcv_251 rfl ⟨rfl, Nat.le_of_ble_eq_true rfl⟩ (c_M_lessens (d := d) h5 x2 (ok_bind hO)) ?_
    rintro _ h7 ⟨r6, rfl, hO⟩
    obtain ⟨g8, hO⟩ := ok_if hO
    refine rbx hG 9 118 126 [.pop, .aload 0, .invokeinterface 1231 16, .iload 1, .ldc_w 0, .iastore] [0] [] (wr h7 267 (Int32.toNatClampNeg x1) (0 : Int32)) (fun h9 => [(0, .ref 251), (1, .int x1), (2, .int x2), (3, .int x3)]) (fun h9 => []) (fun h9 => h9) [kd 251 = 12, kd 267 = 20 ∧ inb x1 (ln 267)] (by decide +kernel) rfl ⟨kd_251, ⟨kd_267, g8⟩⟩ hO (fun h9 hO => ?_)
    obtain ⟨g10, hO⟩ := ok_if hO
    refine rbx hG 8 126 133 [.aload 0, .invokeinterface 1231 16, .iload 2, .ldc_w 0, .iastore] [0] [] (wr h9 267 (Int32.toNatClampNeg x2) (0 : Int32)) (fun h11 => [(0, .ref 251), (1, .int x1), (2, .int x2), (3, .int x3)]) (fun h11 => []) (fun h11 => h11) [kd 251 = 12, kd 267 = 20 ∧ inb x2 (ln 267)] (by decide +kernel) rfl ⟨kd_251, ⟨kd_267, g10⟩⟩ hO (fun h11 hO => ?_)
    refine rb hG 4 133 134 [.ldc_w 0] [1] [] [(0, .ref 251), (1, .int x1), (2, .int x2), (3, .int x3)] [.int (1 : Int32)] h11 [] (by decide +kernel) rfl trivial ?_
    exact eZ hG 134 (by decide +kernel) rfl (Or.inr rfl) ⟨(1 : Int32), rfl, ok_some (Q := P) hO⟩
  have l67 : ∀ (x3 : Int32) (x4 : Int32) (h : Hp), Okk (M_splits_l67 x1 x2 x3 x4 h) P → G 67 [(0, .ref 251), (1, .int x1), (2, .int x2), (3, .int x3), (4, .int x4)] [] h := by
    intro x3 x4 h hO
    obtain ⟨H67, eH67⟩ : ∃ q : (Int32 × Hp) → Prop, q = fun s => G 67 [(0, .ref 251), (1, .int x1), (2, .int x2), (3, .int x3), (4, .int (s.1))] [] (s.2) := ⟨_, rfl⟩
    have w9 : H67 (x4, h) := by
      refine lp_wp (f := fun s : (Int32 × Hp) => M_splits_b67 x1 x2 x3 s.1 s.2) (H := H67) (Q := P) ?_ (x4, h) hO
      rintro ⟨x4, h⟩ hO
      rw [eH67]
      show G 67 [(0, .ref 251), (1, .int x1), (2, .int x2), (3, .int x3), (4, .int x4)] [] h
      have k67 : ∀ s : (Int32 × Hp), H67 s → G 67 [(0, .ref 251), (1, .int x1), (2, .int x2), (3, .int x3), (4, .int (s.1))] [] (s.2) := fun s q => by rw [eH67] at q; exact q
      replace hO : Okk (M_splits_b67 x1 x2 x3 x4 h) (Sum.elim H67 P) := hO
      clear eH67
      unfold M_splits_b67 at hO
      obtain ⟨g12, hO⟩ := ok_if hO
      refine rb hG 8 67 75 [.iload 4, .aload 0, .invokeinterface 1230 15, .iload 1, .iaload] [] [] [(0, .ref 251), (1, .int x1), (2, .int x2), (3, .int x3), (4, .int x4)] [.int (h.1 266 (Int32.toNatClampNeg x1)), .int x4] h [kd 251 = 12, kd 266 = 20 ∧ inb x1 (ln 266)] (by decide +kernel) rfl ⟨kd_251, ⟨kd_266, g12⟩⟩ ?_
      refine rj hG .ge (21) 96 75 (by decide +kernel) (by decide) (fun c13 => ?_) (fun c13 => ?_)
      · have hO := ok_pos c13 hO
        refine rs hG [(0, .ref 251), (1, .int x1), (2, .int x2), (3, .int x3)] [0, 1, 2, 3] rfl ?_
        exact j96 x3 h (ok_inr hO)
      · have hO := ok_neg c13 hO
        refine rb hG 10 78 87 [.aload 0, .iload 1, .iload 4, .iload 1, .iload 4, .iload 3, .isub] [] [] [(0, .ref 251), (1, .int x1), (2, .int x2), (3, .int x3), (4, .int x4)] [.int (x4 - x3), .int x1, .int x4, .int x1, .ref 251] h [] (by decide +kernel) rfl trivial ?_
        refine rv hG z_M_movePast 323 4 87 251 [.int x1, .int x4, .int x1, .int (x4 - x3)] [] (by decide +kernel) mk_M_movePast lk_12_323 rcv_251 rfl ⟨rfl, Nat.le_of_ble_eq_true rfl⟩ (c_M_movePast (d := d + 2) h x1 x4 x1 (x4 - x3) (ok_bind hO)) ?_
        rintro _ h14 ⟨rfl, hO⟩
        refine rbx hG 4 90 93 [.iinc 4 0] [1] [] ((x4 + (1 : Int32))) (fun y15 => [(4, .int y15), (0, .ref 251), (1, .int x1), (2, .int x2), (3, .int x3)]) (fun y15 => []) (fun y15 => h14) [] (by decide +kernel) rfl trivial hO (fun y15 hO => ?_)
        refine rb hG 4 93 67 [] [] [] [(4, .int y15), (0, .ref 251), (1, .int x1), (2, .int x2), (3, .int x3)] [] h14 [] (by decide +kernel) rfl trivial ?_
        refine rs hG [(0, .ref 251), (1, .int x1), (2, .int x2), (3, .int x3), (4, .int y15)] [1, 2, 3, 4, 0] rfl ?_
        exact k67 (y15, h14) (ok_some (Q := (Sum.elim H67 P)) hO)
    rw [eH67] at w9
    exact w9
  have j64 : ∀ (x3 : Int32) (h : Hp), Okk (M_splits_j64 x1 x2 x3 h) P → G 64 [(0, .ref 251), (1, .int x1), (2, .int x2), (3, .int x3)] [] h := by
    intro x3 h hO
    unfold M_splits_j64 at hO
    refine rb hG 5 64 67 [.iload 3, .istore 4] [] [] [(4, .int x3), (0, .ref 251), (1, .int x1), (2, .int x2), (3, .int x3)] [] h [] (by decide +kernel) rfl trivial ?_
    refine rs hG [(0, .ref 251), (1, .int x1), (2, .int x2), (3, .int x3), (4, .int x3)] [1, 2, 3, 4, 0] rfl ?_
    exact l67 x3 x3 h hO
  have l42 : ∀ (x3 : Int32) (x4 : Int32) (h : Hp), Okk (M_splits_l42 x1 x2 x3 x4 h) P → G 42 [(0, .ref 251), (1, .int x1), (2, .int x2), (3, .int x3), (4, .int x4)] [] h := by
    intro x3 x4 h hO
    obtain ⟨H42, eH42⟩ : ∃ q : (Int32 × Hp) → Prop, q = fun s => G 42 [(0, .ref 251), (1, .int x1), (2, .int x2), (3, .int x3), (4, .int (s.1))] [] (s.2) := ⟨_, rfl⟩
    have w9 : H42 (x4, h) := by
      refine lp_wp (f := fun s : (Int32 × Hp) => M_splits_b42 x1 x2 x3 s.1 s.2) (H := H42) (Q := P) ?_ (x4, h) hO
      rintro ⟨x4, h⟩ hO
      rw [eH42]
      show G 42 [(0, .ref 251), (1, .int x1), (2, .int x2), (3, .int x3), (4, .int x4)] [] h
      have k42 : ∀ s : (Int32 × Hp), H42 s → G 42 [(0, .ref 251), (1, .int x1), (2, .int x2), (3, .int x3), (4, .int (s.1))] [] (s.2) := fun s q => by rw [eH42] at q; exact q
      replace hO : Okk (M_splits_b42 x1 x2 x3 x4 h) (Sum.elim H42 P) := hO
      clear eH42
      unfold M_splits_b42 at hO
      refine rb hG 5 42 45 [.iload 4, .iload 3] [] [] [(0, .ref 251), (1, .int x1), (2, .int x2), (3, .int x3), (4, .int x4)] [.int x3, .int x4] h [] (by decide +kernel) rfl trivial ?_
      refine rj hG .ge (19) 64 45 (by decide +kernel) (by decide) (fun c16 => ?_) (fun c16 => ?_)
      · have hO := ok_pos c16 hO
        refine rs hG [(0, .ref 251), (1, .int x1), (2, .int x2), (3, .int x3)] [0, 1, 2, 3] rfl ?_
        exact j64 x3 h (ok_inr hO)
      · have hO := ok_neg c16 hO
        refine rb hG 8 48 55 [.aload 0, .iload 1, .iload 4, .iload 2, .iload 4] [] [] [(0, .ref 251), (1, .int x1), (2, .int x2), (3, .int x3), (4, .int x4)] [.int x4, .int x2, .int x4, .int x1, .ref 251] h [] (by decide +kernel) rfl trivial ?_
        refine rv hG z_M_movePast 323 4 55 251 [.int x1, .int x4, .int x2, .int x4] [] (by decide +kernel) mk_M_movePast lk_12_323 rcv_251 rfl ⟨rfl, Nat.le_of_ble_eq_true rfl⟩ (c_M_movePast (d := d + 2) h x1 x4 x2 x4 (ok_bind hO)) ?_
        rintro _ h17 ⟨rfl, hO⟩
        refine rbx hG 4 58 61 [.iinc 4 0] [1] [] ((x4 + (1 : Int32))) (fun y18 => [(4, .int y18), (0, .ref 251), (1, .int x1), (2, .int x2), (3, .int x3)]) (fun y18 => []) (fun y18 => h17) [] (by decide +kernel) rfl trivial hO (fun y18 hO => ?_)
        refine rb hG 4 61 42 [] [] [] [(4, .int y18), (0, .ref 251), (1, .int x1), (2, .int x2), (3, .int x3)] [] h17 [] (by decide +kernel) rfl trivial ?_
        refine rs hG [(0, .ref 251), (1, .int x1), (2, .int x2), (3, .int x3), (4, .int y18)] [1, 2, 3, 4, 0] rfl ?_
        exact k42 (y18, h17) (ok_some (Q := (Sum.elim H42 P)) hO)
    rw [eH42] at w9
    exact w9
  refine rb hG 6 0 3 [.aload 0, .iload 1, .iload 2] [] [] [(0, .ref 251), (1, .int x1), (2, .int x2)] [.int x2, .int x1, .ref 251] h [] (by decide +kernel) rfl trivial ?_
  refine rv hG z_M_areFree 341 2 3 251 [.int x1, .int x2] [] (by decide +kernel) mk_M_areFree lk_12_341 rcv_251 rfl ⟨rfl, Nat.le_of_ble_eq_true rfl⟩ (c_M_areFree (d := d) h x1 x2 (ok_bind hO)) ?_
  rintro _ _ ⟨r19, rfl, rfl, hO⟩
  refine ri hG .eq (22) 28 6 (by decide +kernel) (by decide) (fun c20 => ?_) (fun c20 => ?_)
  · have hO := ok_pos c20 hO
    refine rs hG [] [] rfl ?_
    exact j28 h hO
  · have hO := ok_neg c20 hO
    obtain ⟨g21, hO⟩ := ok_if hO
    refine rb hG 7 9 15 [.aload 0, .invokeinterface 1230 15, .iload 2, .iaload] [] [] [(0, .ref 251), (1, .int x1), (2, .int x2)] [.int (h.1 266 (Int32.toNatClampNeg x2))] h [kd 251 = 12, kd 266 = 20 ∧ inb x2 (ln 266)] (by decide +kernel) rfl ⟨kd_251, ⟨kd_266, g21⟩⟩ ?_
    refine ri hG .gt (13) 28 15 (by decide +kernel) (by decide) (fun c22 => ?_) (fun c22 => ?_)
    · have hO := ok_pos c22 hO
      refine rs hG [] [] rfl ?_
      exact j28 h hO
    · have hO := ok_neg c22 hO
      obtain ⟨g23, hO⟩ := ok_if hO
      refine rb hG 8 18 25 [.aload 0, .invokeinterface 1230 15, .iload 1, .iaload, .ldc_w 0] [2] [] [(0, .ref 251), (1, .int x1), (2, .int x2)] [.int (2 : Int32), .int (h.1 266 (Int32.toNatClampNeg x1))] h [kd 251 = 12, kd 266 = 20 ∧ inb x1 (ln 266)] (by decide +kernel) rfl ⟨kd_251, ⟨kd_266, g23⟩⟩ ?_
      refine rj hG .ge (5) 30 25 (by decide +kernel) (by decide) (fun c24 => ?_) (fun c24 => ?_)
      · have hO := ok_pos c24 hO
        obtain ⟨g25, hO⟩ := ok_if hO
        refine rbx hG 10 30 39 [.aload 0, .invokeinterface 1230 15, .iload 1, .iaload, .ldc_w 0, .idiv, .istore 3] [2] [] (((h.1 266 (Int32.toNatClampNeg x1)) / (2 : Int32))) (fun y26 => [(3, .int y26), (0, .ref 251), (1, .int x1), (2, .int x2)]) (fun y26 => []) (fun y26 => h) [kd 251 = 12, kd 266 = 20 ∧ inb x1 (ln 266), ¬ (2 : Int32) = 0] (by decide +kernel) rfl ⟨kd_251, ⟨kd_266, g25⟩, (show ¬ (2 : Int32) = 0 by decide)⟩ hO (fun y26 hO => ?_)
        refine rb hG 5 39 42 [.ldc_w 0, .istore 4] [0] [] [(4, .int (0 : Int32)), (3, .int y26), (0, .ref 251), (1, .int x1), (2, .int x2)] [] h [] (by decide +kernel) rfl trivial ?_
        refine rs hG [(0, .ref 251), (1, .int x1), (2, .int x2), (3, .int y26), (4, .int (0 : Int32))] [2, 3, 4, 1, 0] rfl ?_
        exact l42 y26 (0 : Int32) h hO
      · have hO := ok_neg c24 hO
        refine rs hG [] [] rfl ?_
        exact j28 h hO
/-! GrainInnModel.does(I)Z -/
noncomputable def M_does (h : Hp) (x1 : Int32) : Option (Int32 × Hp) := (M_deedOf h x1 (1 : Int32)).bind fun r1 => (M_deedOf h x1 (2 : Int32)).bind fun r2 => (M_deedOf h x1 (0 : Int32)).bind fun r3 => if r3 = (0 : Int32) then ((M_sits h r1 r2).bind fun (r5, h6) => if r5 = 0 ∨ r5 = 1 then (some (r5, h6)) else none) else (if r3 = (1 : Int32) then ((M_says h r1 r2).bind fun (r9, h10) => if r9 = 0 ∨ r9 = 1 then (some (r9, h10)) else none) else (if r3 = (2 : Int32) then ((M_night h).bind fun h13 => some ((1 : Int32), h13)) else (if r3 = (3 : Int32) then ((M_scrubs h r1).bind fun (r15, h16) => if r15 = 0 ∨ r15 = 1 then (some (r15, h16)) else none) else (if r3 = (4 : Int32) then ((M_joins h r1 r2).bind fun (r19, h20) => if r19 = 0 ∨ r19 = 1 then (some (r19, h20)) else none) else ((M_splits h r1 r2).bind fun (r22, h23) => if r22 = 0 ∨ r22 = 1 then (some (r22, h23)) else none)))))
set_option maxRecDepth 100000 in
set_option maxHeartbeats 4000000 in
theorem c_M_does {E : En} {d : Nat} (h : Hp) (x1 : Int32) {P : (Int32 × Hp) → Prop} (hO : Okk (M_does h x1) P) : Cn E (d + 6) z_M_does [.ref 251, .int x1] h (RI P) := by
  refine cn_of (on := 12) (d := d + 5) ⟨rfl, by decide +kernel, Nat.le_of_ble_eq_true rfl⟩ (fun G hG => ?_)
  unfold M_does at hO
  show G 0 [(0, .ref 251), (1, .int x1)] [] h
  refine rb hG 6 0 3 [.aload 0, .iload 1, .ldc_w 0] [1] [] [(0, .ref 251), (1, .int x1)] [.int (1 : Int32), .int x1, .ref 251] h [] (by decide +kernel) rfl trivial ?_
  refine rv hG z_M_deedOf 295 2 3 251 [.int x1, .int (1 : Int32)] [] (by decide +kernel) mk_M_deedOf lk_12_295 rcv_251 rfl ⟨rfl, Nat.le_of_ble_eq_true rfl⟩ (c_M_deedOf (d := d + 4) h x1 (1 : Int32) (ok_bind hO)) ?_
  rintro _ _ ⟨r1, rfl, rfl, hO⟩
  refine rb hG 7 6 10 [.istore 2, .aload 0, .iload 1, .ldc_w 0] [2] [] [(2, .int r1), (0, .ref 251), (1, .int x1)] [.int (2 : Int32), .int x1, .ref 251] h [] (by decide +kernel) rfl trivial ?_
  refine rv hG z_M_deedOf 295 2 10 251 [.int x1, .int (2 : Int32)] [] (by decide +kernel) mk_M_deedOf lk_12_295 rcv_251 rfl ⟨rfl, Nat.le_of_ble_eq_true rfl⟩ (c_M_deedOf (d := d + 4) h x1 (2 : Int32) (ok_bind hO)) ?_
  rintro _ _ ⟨r2, rfl, rfl, hO⟩
  refine rb hG 7 13 17 [.istore 3, .aload 0, .iload 1, .ldc_w 0] [0] [] [(3, .int r2), (2, .int r1), (0, .ref 251), (1, .int x1)] [.int (0 : Int32), .int x1, .ref 251] h [] (by decide +kernel) rfl trivial ?_
  refine rv hG z_M_deedOf 295 2 17 251 [.int x1, .int (0 : Int32)] [] (by decide +kernel) mk_M_deedOf lk_12_295 rcv_251 rfl ⟨rfl, Nat.le_of_ble_eq_true rfl⟩ (c_M_deedOf (d := d + 4) h x1 (0 : Int32) (ok_bind hO)) ?_
  rintro _ _ ⟨r3, rfl, rfl, hO⟩
  refine rw9 hG (69) (0) (4) #[(36), (43), (50), (56), (62)] 36 20 [56, 63, 70, 76, 82] 89 (by decide +kernel) (by decide +kernel) ?_
  refine sw_c (0 : Int32) (by decide) (fun c4 => ?_) (fun c4 => ?_)
  · have hO := ok_pos c4 hO
    refine rb hG 6 56 59 [.aload 0, .iload 2, .iload 3] [] [] [(3, .int r2), (2, .int r1), (0, .ref 251), (1, .int x1)] [.int r2, .int r1, .ref 251] h [] (by decide +kernel) rfl trivial ?_
    refine rv hG z_M_sits 353 2 59 251 [.int r1, .int r2] [] (by decide +kernel) mk_M_sits lk_12_353 rcv_251 rfl ⟨rfl, Nat.le_of_ble_eq_true rfl⟩ (c_M_sits (d := d) h r1 r2 (ok_bind hO)) ?_
    rintro _ h6 ⟨r5, rfl, hO⟩
    obtain ⟨g7, hO⟩ := ok_if hO
    exact eZ hG 62 (by decide +kernel) rfl g7 ⟨r5, rfl, ok_some (Q := P) hO⟩
  have hO := ok_neg c4 hO
  refine sw_c (1 : Int32) (by decide) (fun c8 => ?_) (fun c8 => ?_)
  · have hO := ok_pos c8 hO
    refine rb hG 6 63 66 [.aload 0, .iload 2, .iload 3] [] [] [(3, .int r2), (2, .int r1), (0, .ref 251), (1, .int x1)] [.int r2, .int r1, .ref 251] h [] (by decide +kernel) rfl trivial ?_
    refine rv hG z_M_says 356 2 66 251 [.int r1, .int r2] [] (by decide +kernel) mk_M_says lk_12_356 rcv_251 rfl ⟨rfl, Nat.le_of_ble_eq_true rfl⟩ (c_M_says (d := d + 2) h r1 r2 (ok_bind hO)) ?_
    rintro _ h10 ⟨r9, rfl, hO⟩
    obtain ⟨g11, hO⟩ := ok_if hO
    exact eZ hG 69 (by decide +kernel) rfl g11 ⟨r9, rfl, ok_some (Q := P) hO⟩
  have hO := ok_neg c8 hO
  refine sw_c (2 : Int32) (by decide) (fun c12 => ?_) (fun c12 => ?_)
  · have hO := ok_pos c12 hO
    refine rb hG 4 70 71 [.aload 0] [] [] [(3, .int r2), (2, .int r1), (0, .ref 251), (1, .int x1)] [.ref 251] h [] (by decide +kernel) rfl trivial ?_
    refine rv hG z_M_night 359 0 71 251 [] [] (by decide +kernel) mk_M_night lk_12_359 rcv_251 rfl ⟨rfl, Nat.le_of_ble_eq_true rfl⟩ (c_M_night (d := d) h (ok_bind hO)) ?_
    rintro _ h13 ⟨rfl, hO⟩
    refine rb hG 4 74 75 [.ldc_w 0] [1] [] [(3, .int r2), (2, .int r1), (0, .ref 251), (1, .int x1)] [.int (1 : Int32)] h13 [] (by decide +kernel) rfl trivial ?_
    exact eZ hG 75 (by decide +kernel) rfl (Or.inr rfl) ⟨(1 : Int32), rfl, ok_some (Q := P) hO⟩
  have hO := ok_neg c12 hO
  refine sw_c (3 : Int32) (by decide) (fun c14 => ?_) (fun c14 => ?_)
  · have hO := ok_pos c14 hO
    refine rb hG 5 76 78 [.aload 0, .iload 2] [] [] [(3, .int r2), (2, .int r1), (0, .ref 251), (1, .int x1)] [.int r1, .ref 251] h [] (by decide +kernel) rfl trivial ?_
    refine rv hG z_M_scrubs 362 1 78 251 [.int r1] [] (by decide +kernel) mk_M_scrubs lk_12_362 rcv_251 rfl ⟨rfl, Nat.le_of_ble_eq_true rfl⟩ (c_M_scrubs (d := d + 2) h r1 (ok_bind hO)) ?_
    rintro _ h16 ⟨r15, rfl, hO⟩
    obtain ⟨g17, hO⟩ := ok_if hO
    exact eZ hG 81 (by decide +kernel) rfl g17 ⟨r15, rfl, ok_some (Q := P) hO⟩
  have hO := ok_neg c14 hO
  refine sw_c (4 : Int32) (by decide) (fun c18 => ?_) (fun c18 => ?_)
  · have hO := ok_pos c18 hO
    refine rb hG 6 82 85 [.aload 0, .iload 2, .iload 3] [] [] [(3, .int r2), (2, .int r1), (0, .ref 251), (1, .int x1)] [.int r2, .int r1, .ref 251] h [] (by decide +kernel) rfl trivial ?_
    refine rv hG z_M_joins 365 2 85 251 [.int r1, .int r2] [] (by decide +kernel) mk_M_joins lk_12_365 rcv_251 rfl ⟨rfl, Nat.le_of_ble_eq_true rfl⟩ (c_M_joins (d := d + 1) h r1 r2 (ok_bind hO)) ?_
    rintro _ h20 ⟨r19, rfl, hO⟩
    obtain ⟨g21, hO⟩ := ok_if hO
    exact eZ hG 88 (by decide +kernel) rfl g21 ⟨r19, rfl, ok_some (Q := P) hO⟩
  have hO := ok_neg c18 hO
  show G 89 _ _ _
  refine rb hG 6 89 92 [.aload 0, .iload 2, .iload 3] [] [] [(3, .int r2), (2, .int r1), (0, .ref 251), (1, .int x1)] [.int r2, .int r1, .ref 251] h [] (by decide +kernel) rfl trivial ?_
  refine rv hG z_M_splits 368 2 92 251 [.int r1, .int r2] [] (by decide +kernel) mk_M_splits lk_12_368 rcv_251 rfl ⟨rfl, Nat.le_of_ble_eq_true rfl⟩ (c_M_splits (d := d + 1) h r1 r2 (ok_bind hO)) ?_
  rintro _ h23 ⟨r22, rfl, hO⟩
  obtain ⟨g24, hO⟩ := ok_if hO
  exact eZ hG 95 (by decide +kernel) rfl g24 ⟨r22, rfl, ok_some (Q := P) hO⟩
/-! GrainInnModel.play(I)I -/
noncomputable def M_play_j25 (x2 : Int32) (h : Hp) : Option (Int32 × Hp) := some (x2, h)
noncomputable def M_play_b6 (x1 : Int32) (x2 : Int32) (h : Hp) : Option ((Int32 × Hp) ⊕ (Int32 × Hp)) := if x1 ≤ x2 then (((M_play_j25 x2 h).map Sum.inr)) else ((M_does h x2).bind fun (r2, h3) => if r2 = 0 then (((M_play_j25 x2 h3).map Sum.inr)) else (bnd ((x2 + (1 : Int32))) fun y5 => some (.inl (y5, h3))))
noncomputable def M_play_l6 (x1 : Int32) (x2 : Int32) (h : Hp) : Option (Int32 × Hp) := lp (fun s : (Int32 × Hp) => M_play_b6 x1 s.1 s.2) (x2, h)
theorem M_play_l6_eq (x1 : Int32) (x2 : Int32) (h : Hp) : M_play_l6 x1 x2 h = (M_play_b6 x1 x2 h).bind (Sum.elim (fun q : (Int32 × Hp) => M_play_l6 x1 q.1 q.2) some) := lp_eq _ _
noncomputable def M_play (h : Hp) (x1 : Int32) : Option (Int32 × Hp) := (M_begin h).bind fun h6 => (M_play_l6 x1 (0 : Int32) h6)
set_option maxRecDepth 100000 in
set_option maxHeartbeats 4000000 in
theorem c_M_play {E : En} {d : Nat} (h : Hp) (x1 : Int32) {P : (Int32 × Hp) → Prop} (hO : Okk (M_play h x1) P) : Cn E (d + 7) z_M_play [.ref 251, .int x1] h (RI P) := by
  refine cn_of (on := 12) (d := d + 6) ⟨rfl, by decide +kernel, Nat.le_of_ble_eq_true rfl⟩ (fun G hG => ?_)
  unfold M_play at hO
  show G 0 [(0, .ref 251), (1, .int x1)] [] h
  have j25 : ∀ (x2 : Int32) (h : Hp), Okk (M_play_j25 x2 h) P → G 25 [(2, .int x2)] [] h := by
    intro x2 h hO
    unfold M_play_j25 at hO
    refine rb hG 4 25 26 [.iload 2] [] [] [(2, .int x2)] [.int x2] h [] (by decide +kernel) rfl trivial ?_
    exact eI hG 26 (by decide +kernel) rfl ⟨x2, rfl, ok_some (Q := P) hO⟩
  have l6 : ∀ (x2 : Int32) (h : Hp), Okk (M_play_l6 x1 x2 h) P → G 6 [(0, .ref 251), (1, .int x1), (2, .int x2)] [] h := by
    intro x2 h hO
    obtain ⟨H6, eH6⟩ : ∃ q : (Int32 × Hp) → Prop, q = fun s => G 6 [(0, .ref 251), (1, .int x1), (2, .int (s.1))] [] (s.2) := ⟨_, rfl⟩
    have w9 : H6 (x2, h) := by
      refine lp_wp (f := fun s : (Int32 × Hp) => M_play_b6 x1 s.1 s.2) (H := H6) (Q := P) ?_ (x2, h) hO
      rintro ⟨x2, h⟩ hO
      rw [eH6]
      show G 6 [(0, .ref 251), (1, .int x1), (2, .int x2)] [] h
      have k6 : ∀ s : (Int32 × Hp), H6 s → G 6 [(0, .ref 251), (1, .int x1), (2, .int (s.1))] [] (s.2) := fun s q => by rw [eH6] at q; exact q
      replace hO : Okk (M_play_b6 x1 x2 h) (Sum.elim H6 P) := hO
      clear eH6
      unfold M_play_b6 at hO
      refine rb hG 5 6 8 [.iload 2, .iload 1] [] [] [(0, .ref 251), (1, .int x1), (2, .int x2)] [.int x1, .int x2] h [] (by decide +kernel) rfl trivial ?_
      refine rj hG .ge (17) 25 8 (by decide +kernel) (by decide) (fun c1 => ?_) (fun c1 => ?_)
      · have hO := ok_pos c1 hO
        refine rs hG [(2, .int x2)] [2] rfl ?_
        exact j25 x2 h (ok_inr hO)
      · have hO := ok_neg c1 hO
        refine rb hG 5 11 13 [.aload 0, .iload 2] [] [] [(0, .ref 251), (1, .int x1), (2, .int x2)] [.int x2, .ref 251] h [] (by decide +kernel) rfl trivial ?_
        refine rv hG z_M_does 374 1 13 251 [.int x2] [] (by decide +kernel) mk_M_does lk_12_374 rcv_251 rfl ⟨rfl, Nat.le_of_ble_eq_true rfl⟩ (c_M_does (d := d) h x2 (ok_bind hO)) ?_
        rintro _ h3 ⟨r2, rfl, hO⟩
        refine ri hG .eq (9) 25 16 (by decide +kernel) (by decide) (fun c4 => ?_) (fun c4 => ?_)
        · have hO := ok_pos c4 hO
          refine rs hG [(2, .int x2)] [2] rfl ?_
          exact j25 x2 h3 (ok_inr hO)
        · have hO := ok_neg c4 hO
          refine rbx hG 4 19 22 [.iinc 2 0] [1] [] ((x2 + (1 : Int32))) (fun y5 => [(2, .int y5), (0, .ref 251), (1, .int x1)]) (fun y5 => []) (fun y5 => h3) [] (by decide +kernel) rfl trivial hO (fun y5 hO => ?_)
          refine rb hG 4 22 6 [] [] [] [(2, .int y5), (0, .ref 251), (1, .int x1)] [] h3 [] (by decide +kernel) rfl trivial ?_
          refine rs hG [(0, .ref 251), (1, .int x1), (2, .int y5)] [1, 2, 0] rfl ?_
          exact k6 (y5, h3) (ok_some (Q := (Sum.elim H6 P)) hO)
    rw [eH6] at w9
    exact w9
  refine rb hG 4 0 1 [.aload 0] [] [] [(0, .ref 251), (1, .int x1)] [.ref 251] h [] (by decide +kernel) rfl trivial ?_
  refine rv hG z_M_begin 371 0 1 251 [] [] (by decide +kernel) mk_M_begin lk_12_371 rcv_251 rfl ⟨rfl, Nat.le_of_ble_eq_true rfl⟩ (c_M_begin (d := d + 5) h (ok_bind hO)) ?_
  rintro _ h6 ⟨rfl, hO⟩
  refine rb hG 5 4 6 [.ldc_w 0, .istore 2] [0] [] [(2, .int (0 : Int32)), (0, .ref 251), (1, .int x1)] [] h6 [] (by decide +kernel) rfl trivial ?_
  refine rs hG [(0, .ref 251), (1, .int x1), (2, .int (0 : Int32))] [1, 2, 0] rfl ?_
  exact l6 (0 : Int32) h6 hO
/-! GrainInnModel.stop(II)I -/
noncomputable def M_stop_j33 (s0 : Int32) (h : Hp) : Option (Int32 × Hp) := some (s0, h)
noncomputable def M_stop_j32 (h : Hp) : Option (Int32 × Hp) := (M_stop_j33 (-1 : Int32) h)
noncomputable def M_stop (h : Hp) (x1 : Int32) (x2 : Int32) : Option (Int32 × Hp) := bnd (wr h 251 0 (0 : Int32)) fun h1 => (M_hasEvenings h1 x2).bind fun (r2, h3) => if r2 = 0 then ((M_stop_j32 h3)) else ((M_hand h3 x1).bind fun (r5, h6) => if r5 = 0 then ((M_stop_j32 h6)) else ((M_deeds h6).bind fun r8 => (M_play h6 r8).bind fun (r9, h10) => (M_stop_j33 r9 h10)))
set_option maxRecDepth 100000 in
set_option maxHeartbeats 4000000 in
theorem c_M_stop {E : En} {d : Nat} (h : Hp) (x1 : Int32) (x2 : Int32) {P : (Int32 × Hp) → Prop} (hO : Okk (M_stop h x1 x2) P) : Cn E (d + 8) z_M_stop [.ref 251, .int x1, .int x2] h (RI P) := by
  refine cn_of (on := 12) (d := d + 7) ⟨rfl, by decide +kernel, Nat.le_of_ble_eq_true rfl⟩ (fun G hG => ?_)
  unfold M_stop at hO
  show G 0 [(0, .ref 251), (1, .int x1), (2, .int x2)] [] h
  have j33 : ∀ (s0 : Int32) (h : Hp), Okk (M_stop_j33 s0 h) P → G 33 [] [.int s0] h := by
    intro s0 h hO
    unfold M_stop_j33 at hO
    exact eI hG 33 (by decide +kernel) rfl ⟨s0, rfl, ok_some (Q := P) hO⟩
  have j32 : ∀ (h : Hp), Okk (M_stop_j32 h) P → G 32 [] [] h := by
    intro h hO
    unfold M_stop_j32 at hO
    refine rb hG 4 32 33 [.ldc_w 0] [-1] [] [] [.int (-1 : Int32)] h [] (by decide +kernel) rfl trivial ?_
    exact j33 (-1 : Int32) h hO
  refine rbx hG 6 0 5 [.aload 0, .ldc_w 0, .putfield 1200] [0] [] (wr h 251 0 (0 : Int32)) (fun h1 => [(0, .ref 251), (1, .int x1), (2, .int x2)]) (fun h1 => []) (fun h1 => h1) [kd 251 = 12] (by decide +kernel) rfl kd_251 hO (fun h1 hO => ?_)
  refine rb hG 5 5 7 [.aload 0, .iload 2] [] [] [(0, .ref 251), (1, .int x1), (2, .int x2)] [.int x2, .ref 251] h1 [] (by decide +kernel) rfl trivial ?_
  refine rv hG z_M_hasEvenings 289 1 7 251 [.int x2] [] (by decide +kernel) mk_M_hasEvenings lk_12_289 rcv_251 rfl ⟨rfl, Nat.le_of_ble_eq_true rfl⟩ (c_M_hasEvenings (d := d + 4) h1 x2 (ok_bind hO)) ?_
  rintro _ h3 ⟨r2, rfl, hO⟩
  refine ri hG .eq (22) 32 10 (by decide +kernel) (by decide) (fun c4 => ?_) (fun c4 => ?_)
  · have hO := ok_pos c4 hO
    refine rs hG [] [] rfl ?_
    exact j32 h3 hO
  · have hO := ok_neg c4 hO
    refine rb hG 5 13 15 [.aload 0, .iload 1] [] [] [(0, .ref 251), (1, .int x1), (2, .int x2)] [.int x1, .ref 251] h3 [] (by decide +kernel) rfl trivial ?_
    refine rv hG z_M_hand 280 1 15 251 [.int x1] [] (by decide +kernel) mk_M_hand lk_12_280 rcv_251 rfl ⟨rfl, Nat.le_of_ble_eq_true rfl⟩ (c_M_hand (d := d + 4) h3 x1 (ok_bind hO)) ?_
    rintro _ h6 ⟨r5, rfl, hO⟩
    refine ri hG .eq (14) 32 18 (by decide +kernel) (by decide) (fun c7 => ?_) (fun c7 => ?_)
    · have hO := ok_pos c7 hO
      refine rs hG [] [] rfl ?_
      exact j32 h6 hO
    · have hO := ok_neg c7 hO
      refine rb hG 5 21 23 [.aload 0, .aload 0] [] [] [(0, .ref 251), (1, .int x1), (2, .int x2)] [.ref 251, .ref 251] h6 [] (by decide +kernel) rfl trivial ?_
      refine rv hG z_M_deeds 292 0 23 251 [] [.ref 251] (by decide +kernel) mk_M_deeds lk_12_292 rcv_251 rfl ⟨rfl, Nat.le_of_ble_eq_true rfl⟩ (c_M_deeds (d := d + 6) h6 (ok_bind hO)) ?_
      rintro _ _ ⟨r8, rfl, rfl, hO⟩
      refine rv hG z_M_play 377 1 26 251 [.int r8] [] (by decide +kernel) mk_M_play lk_12_377 rcv_251 rfl ⟨rfl, Nat.le_of_ble_eq_true rfl⟩ (c_M_play (d := d) h6 r8 (ok_bind hO)) ?_
      rintro _ h10 ⟨r9, rfl, hO⟩
      refine rb hG 4 29 33 [] [] [] [(0, .ref 251), (1, .int x1), (2, .int x2)] [.int r9] h10 [] (by decide +kernel) rfl trivial ?_
      refine rs hG [] [] rfl ?_
      exact j33 r9 h10 hO
/-! GrainInn.reach(III)LGrainInn$State; -/
noncomputable def K_reach_j44 (h : Hp) : Option (Nat × Hp) := some (0, h)
noncomputable def K_reach_j67 (s0 : Nat) (h : Hp) : Option (Nat × Hp) := some (s0, h)
noncomputable def K_reach (h : Hp) (x1 : Int32) (x2 : Int32) (x3 : Int32) : Option (Nat × Hp) := (D_innAt h 2 x1).bind fun r1 => (D_linesAt h 2 (1 : Int32) x2).bind fun r2 => if r1 = 0 then ((K_reach_j44 h)) else (if r2 = 0 then ((K_reach_j44 h)) else (if x3 < 0 then ((K_reach_j44 h)) else (if kd r2 = 2 then (if x3 ≤ (h.1 r2 3) then ((K_follow h r1 r2 x3).bind fun (r8, h9) => if r8 = x3 then ((K_reach_j67 57 h9)) else ((K_reach_j67 0 h9))) else ((K_reach_j44 h))) else none)))
set_option maxRecDepth 100000 in
set_option maxHeartbeats 4000000 in
theorem c_K_reach {E : En} {d : Nat} (h : Hp) (x1 : Int32) (x2 : Int32) (x3 : Int32) {P : (Nat × Hp) → Prop} (hO : Okk (K_reach h x1 x2 x3) P) : Cn E (d + 7) z_K_reach [.ref 1, .int x1, .int x2, .int x3] h (RR P) := by
  refine cn_of (on := 11) (d := d + 6) ⟨rfl, by decide +kernel, Nat.le_of_ble_eq_true rfl⟩ (fun G hG => ?_)
  unfold K_reach at hO
  show G 0 [(0, .ref 1), (1, .int x1), (2, .int x2), (3, .int x3)] [] h
  have j44 : ∀ (h : Hp), Okk (K_reach_j44 h) P → G 44 [] [] h := by
    intro h hO
    unfold K_reach_j44 at hO
    refine rb hG 4 44 45 [.aconst_null] [] [] [] [.ref 0] h [] (by decide +kernel) rfl trivial ?_
    exact eR hG 45 (by decide +kernel) rfl ⟨0, rfl, ok_some (Q := P) hO⟩
  have j67 : ∀ (s0 : Nat) (h : Hp), Okk (K_reach_j67 s0 h) P → G 67 [] [.ref s0] h := by
    intro s0 h hO
    unfold K_reach_j67 at hO
    exact eR hG 67 (by decide +kernel) rfl ⟨s0, rfl, ok_some (Q := P) hO⟩
  refine rb hG 6 0 5 [.aload 0, .invokeinterface 1100 1, .iload 1] [] [] [(0, .ref 1), (1, .int x1), (2, .int x2), (3, .int x3)] [.int x1, .ref 2] h [kd 1 = 11] (by decide +kernel) rfl kd_1 ?_
  refine rv hG z_D_innAt 107 1 5 2 [.int x1] [] (by decide +kernel) mk_D_innAt lk_11_107 rcv_2 rfl ⟨rfl, Nat.le_of_ble_eq_true rfl⟩ (c_D_innAt (d := d + 2) h 2 x1 (ok_bind hO)) ?_
  rintro _ _ ⟨r1, rfl, rfl, hO⟩
  refine rb hG 8 8 16 [.astore 4, .aload 0, .invokeinterface 1100 1, .ldc_w 0, .iload 2] [1] [] [(4, .ref r1), (0, .ref 1), (1, .int x1), (2, .int x2), (3, .int x3)] [.int x2, .int (1 : Int32), .ref 2] h [kd 1 = 11] (by decide +kernel) rfl kd_1 ?_
  refine rv hG z_D_linesAt 138 2 16 2 [.int (1 : Int32), .int x2] [] (by decide +kernel) mk_D_linesAt lk_11_138 rcv_2 rfl ⟨rfl, Nat.le_of_ble_eq_true rfl⟩ (c_D_linesAt (d := d + 2) h 2 (1 : Int32) x2 (ok_bind hO)) ?_
  rintro _ _ ⟨r2, rfl, rfl, hO⟩
  refine rb hG 5 19 23 [.astore 5, .aload 4] [] [] [(5, .ref r2), (4, .ref r1), (0, .ref 1), (1, .int x1), (2, .int x2), (3, .int x3)] [.ref r1] h [] (by decide +kernel) rfl trivial ?_
  refine rn hG (21) 44 23 (by decide +kernel) (by decide) (fun c3 => ?_) (fun c3 => ?_)
  · have hO := ok_pos c3 hO
    refine rs hG [] [] rfl ?_
    exact j44 h hO
  · have hO := ok_neg c3 hO
    refine rb hG 4 26 28 [.aload 5] [] [] [(5, .ref r2), (4, .ref r1), (0, .ref 1), (1, .int x1), (2, .int x2), (3, .int x3)] [.ref r2] h [] (by decide +kernel) rfl trivial ?_
    refine rn hG (16) 44 28 (by decide +kernel) (by decide) (fun c4 => ?_) (fun c4 => ?_)
    · have hO := ok_pos c4 hO
      refine rs hG [] [] rfl ?_
      exact j44 h hO
    · have hO := ok_neg c4 hO
      refine rb hG 4 31 32 [.iload 3] [] [] [(5, .ref r2), (4, .ref r1), (0, .ref 1), (1, .int x1), (2, .int x2), (3, .int x3)] [.int x3] h [] (by decide +kernel) rfl trivial ?_
      refine ri hG .lt (12) 44 32 (by decide +kernel) (by decide) (fun c5 => ?_) (fun c5 => ?_)
      · have hO := ok_pos c5 hO
        refine rs hG [] [] rfl ?_
        exact j44 h hO
      · have hO := ok_neg c5 hO
        obtain ⟨g6, hO⟩ := ok_if hO
        refine rb hG 6 35 41 [.iload 3, .aload 5, .getfield 203] [] [] [(5, .ref r2), (4, .ref r1), (0, .ref 1), (1, .int x1), (2, .int x2), (3, .int x3)] [.int (h.1 r2 3), .int x3] h [kd r2 = 2] (by decide +kernel) rfl g6 ?_
        refine rj hG .le (5) 46 41 (by decide +kernel) (by decide) (fun c7 => ?_) (fun c7 => ?_)
        · have hO := ok_pos c7 hO
          refine rb hG 7 46 52 [.aload 0, .aload 4, .aload 5, .iload 3] [] [] [(5, .ref r2), (4, .ref r1), (0, .ref 1), (1, .int x1), (2, .int x2), (3, .int x3)] [.int x3, .ref r2, .ref r1, .ref 1] h [] (by decide +kernel) rfl trivial ?_
          refine rv hG z_K_follow 151 3 52 1 [.ref r1, .ref r2, .int x3] [] (by decide +kernel) mk_K_follow lk_11_151 rcv_1 rfl ⟨rfl, Nat.le_of_ble_eq_true rfl⟩ (c_K_follow (d := d) h r1 r2 x3 (ok_bind hO)) ?_
          rintro _ h9 ⟨r8, rfl, hO⟩
          refine rb hG 4 55 56 [.iload 3] [] [] [(5, .ref r2), (4, .ref r1), (0, .ref 1), (1, .int x1), (2, .int x2), (3, .int x3)] [.int x3, .int r8] h9 [] (by decide +kernel) rfl trivial ?_
          refine rjN hG (10) 66 56 (by decide +kernel) (by decide) (fun c10 => ?_) (fun c10 => ?_)
          · have hO := ok_pos c10 hO
            refine rb hG 6 59 67 [.aload 0, .invokeinterface 1104 56] [] [] [(5, .ref r2), (4, .ref r1), (0, .ref 1), (1, .int x1), (2, .int x2), (3, .int x3)] [.ref 57] h9 [kd 1 = 11] (by decide +kernel) rfl kd_1 ?_
            refine rs hG [] [] rfl ?_
            exact j67 57 h9 hO
          · have hO := ok_neg c10 hO
            refine rb hG 4 66 67 [.aconst_null] [] [] [(5, .ref r2), (4, .ref r1), (0, .ref 1), (1, .int x1), (2, .int x2), (3, .int x3)] [.ref 0] h9 [] (by decide +kernel) rfl trivial ?_
            refine rs hG [] [] rfl ?_
            exact j67 0 h9 hO
        · have hO := ok_neg c7 hO
          refine rs hG [] [] rfl ?_
          exact j44 h hO
/-! GrainInn.State.paidByAll()I -/
noncomputable def S_paidByAll_j25 (x1 : Int32) (h : Hp) : Option Int32 := some x1
noncomputable def S_paidByAll_b4 (x1 : Int32) (x2 : Int32) (h : Hp) : Option ((Int32 × Int32) ⊕ Int32) := if (8 : Int32) ≤ x2 then (((S_paidByAll_j25 x1 h).map Sum.inr)) else (if inb x2 (ln 60) then (bnd ((x1 + (h.1 60 (Int32.toNatClampNeg x2)))) fun y3 => bnd ((x2 + (1 : Int32))) fun y4 => some (.inl (y3, y4))) else none)
noncomputable def S_paidByAll_l4 (x1 : Int32) (x2 : Int32) (h : Hp) : Option Int32 := lp (fun s : (Int32 × Int32) => S_paidByAll_b4 s.1 s.2 h) (x1, x2)
theorem S_paidByAll_l4_eq (x1 : Int32) (x2 : Int32) (h : Hp) : S_paidByAll_l4 x1 x2 h = (S_paidByAll_b4 x1 x2 h).bind (Sum.elim (fun q : (Int32 × Int32) => S_paidByAll_l4 q.1 q.2 h) some) := lp_eq _ _
noncomputable def S_paidByAll (h : Hp) : Option Int32 := (S_paidByAll_l4 (0 : Int32) (0 : Int32) h)
set_option maxRecDepth 100000 in
set_option maxHeartbeats 4000000 in
theorem c_S_paidByAll {E : En} {d : Nat} (h : Hp) {P : Int32 → Prop} (hO : Okk (S_paidByAll h) P) : Cn E (d + 1) z_S_paidByAll [.ref 57] h (RIp h P) := by
  refine cn_of (on := 7) (d := d + 0) ⟨rfl, by decide +kernel, Nat.le_of_ble_eq_true rfl⟩ (fun G hG => ?_)
  unfold S_paidByAll at hO
  show G 0 [(0, .ref 57)] [] h
  have j25 : ∀ (x1 : Int32), Okk (S_paidByAll_j25 x1 h) P → G 25 [(1, .int x1)] [] h := by
    intro x1 hO
    unfold S_paidByAll_j25 at hO
    refine rb hG 4 25 26 [.iload 1] [] [] [(1, .int x1)] [.int x1] h [] (by decide +kernel) rfl trivial ?_
    exact eI hG 26 (by decide +kernel) rfl ⟨x1, rfl, rfl, ok_some (Q := P) hO⟩
  have l4 : ∀ (x1 : Int32) (x2 : Int32), Okk (S_paidByAll_l4 x1 x2 h) P → G 4 [(0, .ref 57), (1, .int x1), (2, .int x2)] [] h := by
    intro x1 x2 hO
    obtain ⟨H4, eH4⟩ : ∃ q : (Int32 × Int32) → Prop, q = fun s => G 4 [(0, .ref 57), (1, .int (s.1)), (2, .int (s.2))] [] (h) := ⟨_, rfl⟩
    have w9 : H4 (x1, x2) := by
      refine lp_wp (f := fun s : (Int32 × Int32) => S_paidByAll_b4 s.1 s.2 h) (H := H4) (Q := P) ?_ (x1, x2) hO
      rintro ⟨x1, x2⟩ hO
      rw [eH4]
      show G 4 [(0, .ref 57), (1, .int x1), (2, .int x2)] [] h
      have k4 : ∀ s : (Int32 × Int32), H4 s → G 4 [(0, .ref 57), (1, .int (s.1)), (2, .int (s.2))] [] (h) := fun s q => by rw [eH4] at q; exact q
      replace hO : Okk (S_paidByAll_b4 x1 x2 h) (Sum.elim H4 P) := hO
      clear eH4
      unfold S_paidByAll_b4 at hO
      refine rb hG 5 4 7 [.iload 2, .ldc_w 0] [8] [] [(0, .ref 57), (1, .int x1), (2, .int x2)] [.int (8 : Int32), .int x2] h [] (by decide +kernel) rfl trivial ?_
      refine rj hG .ge (18) 25 7 (by decide +kernel) (by decide) (fun c1 => ?_) (fun c1 => ?_)
      · have hO := ok_pos c1 hO
        refine rs hG [(1, .int x1)] [1] rfl ?_
        exact j25 x1 (ok_inr hO)
      · have hO := ok_neg c1 hO
        obtain ⟨g2, hO⟩ := ok_if hO
        refine rbx hG 10 10 19 [.iload 1, .aload 0, .invokeinterface 702 3, .iload 2, .iaload, .iadd, .istore 1] [] [] ((x1 + (h.1 60 (Int32.toNatClampNeg x2)))) (fun y3 => [(1, .int y3), (0, .ref 57), (2, .int x2)]) (fun y3 => []) (fun y3 => h) [kd 57 = 7, kd 60 = 20 ∧ inb x2 (ln 60)] (by decide +kernel) rfl ⟨kd_57, ⟨kd_60, g2⟩⟩ hO (fun y3 hO => ?_)
        refine rbx hG 4 19 22 [.iinc 2 0] [1] [] ((x2 + (1 : Int32))) (fun y4 => [(2, .int y4), (1, .int y3), (0, .ref 57)]) (fun y4 => []) (fun y4 => h) [] (by decide +kernel) rfl trivial hO (fun y4 hO => ?_)
        refine rb hG 4 22 4 [] [] [] [(2, .int y4), (1, .int y3), (0, .ref 57)] [] h [] (by decide +kernel) rfl trivial ?_
        refine rs hG [(0, .ref 57), (1, .int y3), (2, .int y4)] [2, 1, 0] rfl ?_
        exact k4 (y3, y4) (ok_some (Q := (Sum.elim H4 P)) hO)
    rw [eH4] at w9
    exact w9
  refine rb hG 7 0 4 [.ldc_w 0, .istore 1, .ldc_w 0, .istore 2] [0] [] [(2, .int (0 : Int32)), (1, .int (0 : Int32)), (0, .ref 57)] [] h [] (by decide +kernel) rfl trivial ?_
  refine rs hG [(0, .ref 57), (1, .int (0 : Int32)), (2, .int (0 : Int32))] [2, 1, 0] rfl ?_
  exact l4 (0 : Int32) (0 : Int32) hO
/-! GrainInn.benchFact(LGrainInn$State;I)I -/
noncomputable def K_benchFact_j108 (x0 : Nat) (s0 : Int32) (h : Hp) : Option Int32 := some s0
noncomputable def K_benchFact_j95 (x0 : Nat) (x3 : Nat) (h : Hp) : Option Int32 := if x3 = 0 then ((K_benchFact_j108 x0 (-2 : Int32) h)) else (if kd x3 = 0 then ((K_benchFact_j108 x0 (h.1 x3 5) h)) else none)
noncomputable def K_benchFact_j75 (x0 : Nat) (s0 : Int32) (h : Hp) : Option Int32 := some s0
noncomputable def K_benchFact_j42 (x0 : Nat) (s0 : Int32) (h : Hp) : Option Int32 := some s0
noncomputable def K_benchFact (h : Hp) (x0 : Nat) (x1 : Int32) : Option Int32 := if x0 = 57 then (if kd (Int32.toNatClampNeg (h.1 57 6)) = 1 then (bnd ((h.1 (Int32.toNatClampNeg (h.1 57 6)) 5)) fun y5 => (K_isOf x1 (10 : Int32) y5).bind fun r6 => if r6 = 0 then ((K_isOf x1 (20 : Int32) y5).bind fun r8 => if r8 = 0 then ((K_isOf x1 (30 : Int32) y5).bind fun r10 => if r10 = 0 then ((K_benchFact_j95 x0 0 h)) else ((S_benchAt h (x1 - (30 : Int32))).bind fun r12 => (K_benchFact_j95 x0 r12 h))) else ((S_benchAt h (x1 - (20 : Int32))).bind fun r13 => if r13 = 0 then ((K_benchFact_j75 x0 (-2 : Int32) h)) else (if kd r13 = 0 then ((K_benchFact_j75 x0 (h.1 r13 4) h)) else none))) else ((S_benchAt h (x1 - (10 : Int32))).bind fun r16 => if r16 = 0 then ((K_benchFact_j42 x0 (-2 : Int32) h)) else (if kd r16 = 0 then ((K_benchFact_j42 x0 (h.1 r16 3) h)) else none))) else none) else none
set_option maxRecDepth 100000 in
set_option maxHeartbeats 4000000 in
theorem c_K_benchFact {E : En} {d : Nat} (h : Hp) (x0 : Nat) (x1 : Int32) {P : Int32 → Prop} (hO : Okk (K_benchFact h x0 x1) P) : Cn E (d + 3) z_K_benchFact [.ref x0, .int x1] h (RIp h P) := by
  refine cn_of (on := 11) (d := d + 2) ⟨rfl, by decide +kernel, Nat.le_of_ble_eq_true rfl⟩ (fun G hG => ?_)
  unfold K_benchFact at hO
  show G 0 [(0, .ref x0), (1, .int x1)] [] h
  have j108 : ∀ (s0 : Int32), Okk (K_benchFact_j108 x0 s0 h) P → G 108 [] [.int s0] h := by
    intro s0 hO
    unfold K_benchFact_j108 at hO
    exact eI hG 108 (by decide +kernel) rfl ⟨s0, rfl, rfl, ok_some (Q := P) hO⟩
  have j95 : ∀ (x3 : Nat), Okk (K_benchFact_j95 x0 x3 h) P → G 95 [(3, .ref x3)] [] h := by
    intro x3 hO
    unfold K_benchFact_j95 at hO
    refine rb hG 4 95 96 [.aload 3] [] [] [(3, .ref x3)] [.ref x3] h [] (by decide +kernel) rfl trivial ?_
    refine rnn hG (8) 104 96 (by decide +kernel) (by decide) (fun c1 => ?_) (fun c1 => ?_)
    · have hO := ok_pos c1 hO
      refine rb hG 5 99 108 [.ldc_w 0] [-2] [] [(3, .ref x3)] [.int (-2 : Int32)] h [] (by decide +kernel) rfl trivial ?_
      refine rs hG [] [] rfl ?_
      exact j108 (-2 : Int32) hO
    · have hO := ok_neg c1 hO
      obtain ⟨g2, hO⟩ := ok_if hO
      refine rb hG 5 104 108 [.aload 3, .getfield 5] [] [] [(3, .ref x3)] [.int (h.1 x3 5)] h [kd x3 = 0] (by decide +kernel) rfl g2 ?_
      refine rs hG [] [] rfl ?_
      exact j108 (h.1 x3 5) hO
  have j75 : ∀ (s0 : Int32), Okk (K_benchFact_j75 x0 s0 h) P → G 75 [] [.int s0] h := by
    intro s0 hO
    unfold K_benchFact_j75 at hO
    exact eI hG 75 (by decide +kernel) rfl ⟨s0, rfl, rfl, ok_some (Q := P) hO⟩
  have j42 : ∀ (s0 : Int32), Okk (K_benchFact_j42 x0 s0 h) P → G 42 [] [.int s0] h := by
    intro s0 hO
    unfold K_benchFact_j42 at hO
    exact eI hG 42 (by decide +kernel) rfl ⟨s0, rfl, rfl, ok_some (Q := P) hO⟩
  obtain ⟨g3, hOg3⟩ := ok_if hO
  subst g3
  have hO := hOg3
  obtain ⟨g4, hO⟩ := ok_if hO
  refine rbx hG 7 0 8 [.aload 0, .instanceof 706, .getfield 105, .istore 2] [] [] ((h.1 (Int32.toNatClampNeg (h.1 57 6)) 5)) (fun y5 => [(2, .int y5), (0, .ref 57), (1, .int x1)]) (fun y5 => []) (fun y5 => h) [kd 57 = 7, kd (Int32.toNatClampNeg (h.1 57 6)) = 1] (by decide +kernel) rfl ⟨kd_57, g4⟩ hO (fun y5 hO => ?_)
  refine rb hG 8 8 14 [.aconst_null, .astore 3, .iload 1, .ldc_w 0, .iload 2] [10] [] [(3, .ref 0), (2, .int y5), (0, .ref 57), (1, .int x1)] [.int y5, .int (10 : Int32), .int x1] h [] (by decide +kernel) rfl trivial ?_
  refine rt hG z_K_isOf 119 3 14 [.int x1, .int (10 : Int32), .int y5] [] (by decide +kernel) mk_K_isOf lk_11_119 rfl ⟨rfl, Nat.le_of_ble_eq_true rfl⟩ (c_K_isOf (d := d + 1) h x1 (10 : Int32) y5 (ok_bind hO)) ?_
  rintro _ _ ⟨r6, rfl, rfl, hO⟩
  refine ri hG .eq (26) 43 17 (by decide +kernel) (by decide) (fun c7 => ?_) (fun c7 => ?_)
  · have hO := ok_pos c7 hO
    refine rb hG 6 43 47 [.iload 1, .ldc_w 0, .iload 2] [20] [] [(3, .ref 0), (2, .int y5), (0, .ref 57), (1, .int x1)] [.int y5, .int (20 : Int32), .int x1] h [] (by decide +kernel) rfl trivial ?_
    refine rt hG z_K_isOf 119 3 47 [.int x1, .int (20 : Int32), .int y5] [] (by decide +kernel) mk_K_isOf lk_11_119 rfl ⟨rfl, Nat.le_of_ble_eq_true rfl⟩ (c_K_isOf (d := d + 1) h x1 (20 : Int32) y5 (ok_bind hO)) ?_
    rintro _ _ ⟨r8, rfl, rfl, hO⟩
    refine ri hG .eq (26) 76 50 (by decide +kernel) (by decide) (fun c9 => ?_) (fun c9 => ?_)
    · have hO := ok_pos c9 hO
      refine rb hG 6 76 80 [.iload 1, .ldc_w 0, .iload 2] [30] [] [(3, .ref 0), (2, .int y5), (0, .ref 57), (1, .int x1)] [.int y5, .int (30 : Int32), .int x1] h [] (by decide +kernel) rfl trivial ?_
      refine rt hG z_K_isOf 119 3 80 [.int x1, .int (30 : Int32), .int y5] [] (by decide +kernel) mk_K_isOf lk_11_119 rfl ⟨rfl, Nat.le_of_ble_eq_true rfl⟩ (c_K_isOf (d := d + 1) h x1 (30 : Int32) y5 (ok_bind hO)) ?_
      rintro _ _ ⟨r10, rfl, rfl, hO⟩
      refine ri hG .eq (12) 95 83 (by decide +kernel) (by decide) (fun c11 => ?_) (fun c11 => ?_)
      · have hO := ok_pos c11 hO
        refine rs hG [(3, .ref 0)] [0] rfl ?_
        exact j95 0 hO
      · have hO := ok_neg c11 hO
        refine rb hG 7 86 91 [.aload 0, .iload 1, .ldc_w 0, .isub] [30] [] [(3, .ref 0), (2, .int y5), (0, .ref 57), (1, .int x1)] [.int (x1 - (30 : Int32)), .ref 57] h [] (by decide +kernel) rfl trivial ?_
        refine rv hG z_S_benchAt 213 1 91 57 [.int (x1 - (30 : Int32))] [] (by decide +kernel) mk_S_benchAt lk_11_213 rcv_57 rfl ⟨rfl, Nat.le_of_ble_eq_true rfl⟩ (c_S_benchAt (d := d) h (x1 - (30 : Int32)) (ok_bind hO)) ?_
        rintro _ _ ⟨r12, rfl, rfl, hO⟩
        refine rb hG 4 94 95 [.astore 3] [] [] [(3, .ref r12), (2, .int y5), (0, .ref 57), (1, .int x1)] [] h [] (by decide +kernel) rfl trivial ?_
        refine rs hG [(3, .ref r12)] [0] rfl ?_
        exact j95 r12 hO
    · have hO := ok_neg c9 hO
      refine rb hG 7 53 58 [.aload 0, .iload 1, .ldc_w 0, .isub] [20] [] [(3, .ref 0), (2, .int y5), (0, .ref 57), (1, .int x1)] [.int (x1 - (20 : Int32)), .ref 57] h [] (by decide +kernel) rfl trivial ?_
      refine rv hG z_S_benchAt 213 1 58 57 [.int (x1 - (20 : Int32))] [] (by decide +kernel) mk_S_benchAt lk_11_213 rcv_57 rfl ⟨rfl, Nat.le_of_ble_eq_true rfl⟩ (c_S_benchAt (d := d) h (x1 - (20 : Int32)) (ok_bind hO)) ?_
      rintro _ _ ⟨r13, rfl, rfl, hO⟩
      refine rb hG 5 61 63 [.astore 3, .aload 3] [] [] [(3, .ref r13), (2, .int y5), (0, .ref 57), (1, .int x1)] [.ref r13] h [] (by decide +kernel) rfl trivial ?_
      refine rnn hG (8) 71 63 (by decide +kernel) (by decide) (fun c14 => ?_) (fun c14 => ?_)
      · have hO := ok_pos c14 hO
        refine rb hG 5 66 75 [.ldc_w 0] [-2] [] [(3, .ref r13), (2, .int y5), (0, .ref 57), (1, .int x1)] [.int (-2 : Int32)] h [] (by decide +kernel) rfl trivial ?_
        refine rs hG [] [] rfl ?_
        exact j75 (-2 : Int32) hO
      · have hO := ok_neg c14 hO
        obtain ⟨g15, hO⟩ := ok_if hO
        refine rb hG 5 71 75 [.aload 3, .getfield 4] [] [] [(3, .ref r13), (2, .int y5), (0, .ref 57), (1, .int x1)] [.int (h.1 r13 4)] h [kd r13 = 0] (by decide +kernel) rfl g15 ?_
        refine rs hG [] [] rfl ?_
        exact j75 (h.1 r13 4) hO
  · have hO := ok_neg c7 hO
    refine rb hG 7 20 25 [.aload 0, .iload 1, .ldc_w 0, .isub] [10] [] [(3, .ref 0), (2, .int y5), (0, .ref 57), (1, .int x1)] [.int (x1 - (10 : Int32)), .ref 57] h [] (by decide +kernel) rfl trivial ?_
    refine rv hG z_S_benchAt 213 1 25 57 [.int (x1 - (10 : Int32))] [] (by decide +kernel) mk_S_benchAt lk_11_213 rcv_57 rfl ⟨rfl, Nat.le_of_ble_eq_true rfl⟩ (c_S_benchAt (d := d) h (x1 - (10 : Int32)) (ok_bind hO)) ?_
    rintro _ _ ⟨r16, rfl, rfl, hO⟩
    refine rb hG 5 28 30 [.astore 3, .aload 3] [] [] [(3, .ref r16), (2, .int y5), (0, .ref 57), (1, .int x1)] [.ref r16] h [] (by decide +kernel) rfl trivial ?_
    refine rnn hG (8) 38 30 (by decide +kernel) (by decide) (fun c17 => ?_) (fun c17 => ?_)
    · have hO := ok_pos c17 hO
      refine rb hG 5 33 42 [.ldc_w 0] [-2] [] [(3, .ref r16), (2, .int y5), (0, .ref 57), (1, .int x1)] [.int (-2 : Int32)] h [] (by decide +kernel) rfl trivial ?_
      refine rs hG [] [] rfl ?_
      exact j42 (-2 : Int32) hO
    · have hO := ok_neg c17 hO
      obtain ⟨g18, hO⟩ := ok_if hO
      refine rb hG 5 38 42 [.aload 3, .getfield 3] [] [] [(3, .ref r16), (2, .int y5), (0, .ref 57), (1, .int x1)] [.int (h.1 r16 3)] h [kd r16 = 0] (by decide +kernel) rfl g18 ?_
      refine rs hG [] [] rfl ?_
      exact j42 (h.1 r16 3) hO
/-! GrainInn.state(IIII)I -/
noncomputable def K_state (h : Hp) (x1 : Int32) (x2 : Int32) (x3 : Int32) (x4 : Int32) : Option (Int32 × Hp) := (K_reach h x1 x2 x3).bind fun (r1, h2) => if r1 = 0 then (some ((-2 : Int32), h2)) else (if x4 = (0 : Int32) then (if r1 = 57 then (some ((h2.1 57 7), h2)) else none) else (if x4 = (1 : Int32) then (if r1 = 57 then (some ((h2.1 57 8), h2)) else none) else (if x4 = (2 : Int32) then (if r1 = 57 then (some ((h2.1 57 9), h2)) else none) else (if x4 = (3 : Int32) then (if r1 = 57 then ((S_paidByAll h2).bind fun r12 => some (r12, h2)) else none) else (if x4 = (4 : Int32) then (if r1 = 57 then ((S_seated h2).bind fun r15 => some (r15, h2)) else none) else ((K_benchFact h2 r1 x4).bind fun r16 => some (r16, h2)))))))
set_option maxRecDepth 100000 in
set_option maxHeartbeats 4000000 in
theorem c_K_state {E : En} {d : Nat} (h : Hp) (x1 : Int32) (x2 : Int32) (x3 : Int32) (x4 : Int32) {P : (Int32 × Hp) → Prop} (hO : Okk (K_state h x1 x2 x3 x4) P) : Cn E (d + 8) z_K_state [.ref 1, .int x1, .int x2, .int x3, .int x4] h (RI P) := by
  refine cn_of (on := 11) (d := d + 7) ⟨rfl, by decide +kernel, Nat.le_of_ble_eq_true rfl⟩ (fun G hG => ?_)
  unfold K_state at hO
  show G 0 [(0, .ref 1), (1, .int x1), (2, .int x2), (3, .int x3), (4, .int x4)] [] h
  refine rb hG 7 0 4 [.aload 0, .iload 1, .iload 2, .iload 3] [] [] [(0, .ref 1), (1, .int x1), (2, .int x2), (3, .int x3), (4, .int x4)] [.int x3, .int x2, .int x1, .ref 1] h [] (by decide +kernel) rfl trivial ?_
  refine rv hG z_K_reach 155 3 4 1 [.int x1, .int x2, .int x3] [] (by decide +kernel) mk_K_reach lk_11_155 rcv_1 rfl ⟨rfl, Nat.le_of_ble_eq_true rfl⟩ (c_K_reach (d := d) h x1 x2 x3 (ok_bind hO)) ?_
  rintro _ h2 ⟨r1, rfl, hO⟩
  refine rb hG 5 7 11 [.astore 5, .aload 5] [] [] [(5, .ref r1), (0, .ref 1), (1, .int x1), (2, .int x2), (3, .int x3), (4, .int x4)] [.ref r1] h2 [] (by decide +kernel) rfl trivial ?_
  refine rnn hG (6) 17 11 (by decide +kernel) (by decide) (fun c3 => ?_) (fun c3 => ?_)
  · have hO := ok_pos c3 hO
    refine rb hG 4 14 16 [.ldc_w 0] [-2] [] [(5, .ref r1), (0, .ref 1), (1, .int x1), (2, .int x2), (3, .int x3), (4, .int x4)] [.int (-2 : Int32)] h2 [] (by decide +kernel) rfl trivial ?_
    exact eI hG 16 (by decide +kernel) rfl ⟨(-2 : Int32), rfl, ok_some (Q := P) hO⟩
  · have hO := ok_neg c3 hO
    refine rb hG 4 17 19 [.iload 4] [] [] [(5, .ref r1), (0, .ref 1), (1, .int x1), (2, .int x2), (3, .int x3), (4, .int x4)] [.int x4] h2 [] (by decide +kernel) rfl trivial ?_
    refine rw9 hG (63) (0) (4) #[(33), (39), (45), (51), (57)] 33 19 [52, 58, 64, 70, 76] 82 (by decide +kernel) (by decide +kernel) ?_
    refine sw_c (0 : Int32) (by decide) (fun c4 => ?_) (fun c4 => ?_)
    · have hO := ok_pos c4 hO
      obtain ⟨g5, hOg5⟩ := ok_if hO
      subst g5
      have hO := hOg5
      refine rb hG 5 52 57 [.aload 5, .getfield 707] [] [] [(5, .ref 57), (0, .ref 1), (1, .int x1), (2, .int x2), (3, .int x3), (4, .int x4)] [.int (h2.1 57 7)] h2 [kd 57 = 7] (by decide +kernel) rfl kd_57 ?_
      exact eI hG 57 (by decide +kernel) rfl ⟨(h2.1 57 7), rfl, ok_some (Q := P) hO⟩
    have hO := ok_neg c4 hO
    refine sw_c (1 : Int32) (by decide) (fun c6 => ?_) (fun c6 => ?_)
    · have hO := ok_pos c6 hO
      obtain ⟨g7, hOg7⟩ := ok_if hO
      subst g7
      have hO := hOg7
      refine rb hG 5 58 63 [.aload 5, .getfield 708] [] [] [(5, .ref 57), (0, .ref 1), (1, .int x1), (2, .int x2), (3, .int x3), (4, .int x4)] [.int (h2.1 57 8)] h2 [kd 57 = 7] (by decide +kernel) rfl kd_57 ?_
      exact eI hG 63 (by decide +kernel) rfl ⟨(h2.1 57 8), rfl, ok_some (Q := P) hO⟩
    have hO := ok_neg c6 hO
    refine sw_c (2 : Int32) (by decide) (fun c8 => ?_) (fun c8 => ?_)
    · have hO := ok_pos c8 hO
      obtain ⟨g9, hOg9⟩ := ok_if hO
      subst g9
      have hO := hOg9
      refine rb hG 5 64 69 [.aload 5, .getfield 709] [] [] [(5, .ref 57), (0, .ref 1), (1, .int x1), (2, .int x2), (3, .int x3), (4, .int x4)] [.int (h2.1 57 9)] h2 [kd 57 = 7] (by decide +kernel) rfl kd_57 ?_
      exact eI hG 69 (by decide +kernel) rfl ⟨(h2.1 57 9), rfl, ok_some (Q := P) hO⟩
    have hO := ok_neg c8 hO
    refine sw_c (3 : Int32) (by decide) (fun c10 => ?_) (fun c10 => ?_)
    · have hO := ok_pos c10 hO
      obtain ⟨g11, hOg11⟩ := ok_if hO
      subst g11
      have hO := hOg11
      refine rb hG 4 70 72 [.aload 5] [] [] [(5, .ref 57), (0, .ref 1), (1, .int x1), (2, .int x2), (3, .int x3), (4, .int x4)] [.ref 57] h2 [] (by decide +kernel) rfl trivial ?_
      refine rv hG z_S_paidByAll 168 0 72 57 [] [] (by decide +kernel) mk_S_paidByAll lk_11_168 rcv_57 rfl ⟨rfl, Nat.le_of_ble_eq_true rfl⟩ (c_S_paidByAll (d := d + 6) h2 (ok_bind hO)) ?_
      rintro _ _ ⟨r12, rfl, rfl, hO⟩
      exact eI hG 75 (by decide +kernel) rfl ⟨r12, rfl, ok_some (Q := P) hO⟩
    have hO := ok_neg c10 hO
    refine sw_c (4 : Int32) (by decide) (fun c13 => ?_) (fun c13 => ?_)
    · have hO := ok_pos c13 hO
      obtain ⟨g14, hOg14⟩ := ok_if hO
      subst g14
      have hO := hOg14
      refine rb hG 4 76 78 [.aload 5] [] [] [(5, .ref 57), (0, .ref 1), (1, .int x1), (2, .int x2), (3, .int x3), (4, .int x4)] [.ref 57] h2 [] (by decide +kernel) rfl trivial ?_
      refine rv hG z_S_seated 172 0 78 57 [] [] (by decide +kernel) mk_S_seated lk_11_172 rcv_57 rfl ⟨rfl, Nat.le_of_ble_eq_true rfl⟩ (c_S_seated (d := d + 6) h2 (ok_bind hO)) ?_
      rintro _ _ ⟨r15, rfl, rfl, hO⟩
      exact eI hG 81 (by decide +kernel) rfl ⟨r15, rfl, ok_some (Q := P) hO⟩
    have hO := ok_neg c13 hO
    show G 82 _ _ _
    refine rb hG 5 82 86 [.aload 5, .iload 4] [] [] [(5, .ref r1), (0, .ref 1), (1, .int x1), (2, .int x2), (3, .int x3), (4, .int x4)] [.int x4, .ref r1] h2 [] (by decide +kernel) rfl trivial ?_
    refine rt hG z_K_benchFact 175 2 86 [.ref r1, .int x4] [] (by decide +kernel) mk_K_benchFact lk_11_175 rfl ⟨rfl, Nat.le_of_ble_eq_true rfl⟩ (c_K_benchFact (d := d + 4) h2 r1 x4 (ok_bind hO)) ?_
    rintro _ _ ⟨r16, rfl, rfl, hO⟩
    exact eI hG 89 (by decide +kernel) rfl ⟨r16, rfl, ok_some (Q := P) hO⟩
/-! GrainInnModel.layState(III)Z -/
noncomputable def M_layState_j42 (s0 : Int32) (h : Hp) : Option (Int32 × Hp) := if s0 = 0 ∨ s0 = 1 then (some (s0, h)) else none
noncomputable def M_layState_j41 (h : Hp) : Option (Int32 × Hp) := (M_layState_j42 (0 : Int32) h)
noncomputable def M_layState (h : Hp) (x1 : Int32) (x2 : Int32) (x3 : Int32) : Option (Int32 × Hp) := (M_hasEvenings h x2).bind fun (r2, h3) => if r2 = 0 then ((M_layState_j41 h3)) else ((M_hand h3 x1).bind fun (r5, h6) => if r5 = 0 then ((M_layState_j41 h6)) else ((M_deeds h6).bind fun r8 => (M_in x3 (0 : Int32) r8).bind fun r9 => if r9 = 0 then ((M_layState_j41 h6)) else ((M_play h6 x3).bind fun (r11, h12) => if r11 = x3 then ((M_layState_j42 (1 : Int32) h12)) else ((M_layState_j41 h12)))))
set_option maxRecDepth 100000 in
set_option maxHeartbeats 4000000 in
theorem c_M_layState {E : En} {d : Nat} (h : Hp) (x1 : Int32) (x2 : Int32) (x3 : Int32) {P : (Int32 × Hp) → Prop} (hO : Okk (M_layState h x1 x2 x3) P) : Cn E (d + 8) z_M_layState [.ref 251, .int x1, .int x2, .int x3] h (RI P) := by
  refine cn_of (on := 12) (d := d + 7) ⟨rfl, by decide +kernel, Nat.le_of_ble_eq_true rfl⟩ (fun G hG => ?_)
  unfold M_layState at hO
  show G 0 [(0, .ref 251), (1, .int x1), (2, .int x2), (3, .int x3)] [] h
  have j42 : ∀ (s0 : Int32) (h : Hp), Okk (M_layState_j42 s0 h) P → G 42 [] [.int s0] h := by
    intro s0 h hO
    unfold M_layState_j42 at hO
    obtain ⟨g1, hO⟩ := ok_if hO
    exact eZ hG 42 (by decide +kernel) rfl g1 ⟨s0, rfl, ok_some (Q := P) hO⟩
  have j41 : ∀ (h : Hp), Okk (M_layState_j41 h) P → G 41 [] [] h := by
    intro h hO
    unfold M_layState_j41 at hO
    refine rb hG 4 41 42 [.ldc_w 0] [0] [] [] [.int (0 : Int32)] h [] (by decide +kernel) rfl trivial ?_
    exact j42 (0 : Int32) h hO
  refine rb hG 5 0 2 [.aload 0, .iload 2] [] [] [(0, .ref 251), (1, .int x1), (2, .int x2), (3, .int x3)] [.int x2, .ref 251] h [] (by decide +kernel) rfl trivial ?_
  refine rv hG z_M_hasEvenings 289 1 2 251 [.int x2] [] (by decide +kernel) mk_M_hasEvenings lk_12_289 rcv_251 rfl ⟨rfl, Nat.le_of_ble_eq_true rfl⟩ (c_M_hasEvenings (d := d + 4) h x2 (ok_bind hO)) ?_
  rintro _ h3 ⟨r2, rfl, hO⟩
  refine ri hG .eq (36) 41 5 (by decide +kernel) (by decide) (fun c4 => ?_) (fun c4 => ?_)
  · have hO := ok_pos c4 hO
    refine rs hG [] [] rfl ?_
    exact j41 h3 hO
  · have hO := ok_neg c4 hO
    refine rb hG 5 8 10 [.aload 0, .iload 1] [] [] [(0, .ref 251), (1, .int x1), (2, .int x2), (3, .int x3)] [.int x1, .ref 251] h3 [] (by decide +kernel) rfl trivial ?_
    refine rv hG z_M_hand 280 1 10 251 [.int x1] [] (by decide +kernel) mk_M_hand lk_12_280 rcv_251 rfl ⟨rfl, Nat.le_of_ble_eq_true rfl⟩ (c_M_hand (d := d + 4) h3 x1 (ok_bind hO)) ?_
    rintro _ h6 ⟨r5, rfl, hO⟩
    refine ri hG .eq (28) 41 13 (by decide +kernel) (by decide) (fun c7 => ?_) (fun c7 => ?_)
    · have hO := ok_pos c7 hO
      refine rs hG [] [] rfl ?_
      exact j41 h6 hO
    · have hO := ok_neg c7 hO
      refine rb hG 6 16 19 [.iload 3, .ldc_w 0, .aload 0] [0] [] [(0, .ref 251), (1, .int x1), (2, .int x2), (3, .int x3)] [.ref 251, .int (0 : Int32), .int x3] h6 [] (by decide +kernel) rfl trivial ?_
      refine rv hG z_M_deeds 292 0 19 251 [] [.int (0 : Int32), .int x3] (by decide +kernel) mk_M_deeds lk_12_292 rcv_251 rfl ⟨rfl, Nat.le_of_ble_eq_true rfl⟩ (c_M_deeds (d := d + 6) h6 (ok_bind hO)) ?_
      rintro _ _ ⟨r8, rfl, rfl, hO⟩
      refine rt hG z_M_in 111 3 22 [.int x3, .int (0 : Int32), .int r8] [] (by decide +kernel) mk_M_in lk_12_111 rfl ⟨rfl, Nat.le_of_ble_eq_true rfl⟩ (c_M_in (d := d + 6) h6 x3 (0 : Int32) r8 (ok_bind hO)) ?_
      rintro _ _ ⟨r9, rfl, rfl, hO⟩
      refine ri hG .eq (16) 41 25 (by decide +kernel) (by decide) (fun c10 => ?_) (fun c10 => ?_)
      · have hO := ok_pos c10 hO
        refine rs hG [] [] rfl ?_
        exact j41 h6 hO
      · have hO := ok_neg c10 hO
        refine rb hG 5 28 30 [.aload 0, .iload 3] [] [] [(0, .ref 251), (1, .int x1), (2, .int x2), (3, .int x3)] [.int x3, .ref 251] h6 [] (by decide +kernel) rfl trivial ?_
        refine rv hG z_M_play 377 1 30 251 [.int x3] [] (by decide +kernel) mk_M_play lk_12_377 rcv_251 rfl ⟨rfl, Nat.le_of_ble_eq_true rfl⟩ (c_M_play (d := d) h6 x3 (ok_bind hO)) ?_
        rintro _ h12 ⟨r11, rfl, hO⟩
        refine rb hG 4 33 34 [.iload 3] [] [] [(0, .ref 251), (1, .int x1), (2, .int x2), (3, .int x3)] [.int x3, .int r11] h12 [] (by decide +kernel) rfl trivial ?_
        refine rjN hG (7) 41 34 (by decide +kernel) (by decide) (fun c13 => ?_) (fun c13 => ?_)
        · have hO := ok_pos c13 hO
          refine rb hG 5 37 42 [.ldc_w 0] [1] [] [(0, .ref 251), (1, .int x1), (2, .int x2), (3, .int x3)] [.int (1 : Int32)] h12 [] (by decide +kernel) rfl trivial ?_
          refine rs hG [] [] rfl ?_
          exact j42 (1 : Int32) h12 hO
        · have hO := ok_neg c13 hO
          refine rs hG [] [] rfl ?_
          exact j41 h12 hO
/-! GrainInnModel.allPaid()I -/
noncomputable def M_allPaid_j25 (x1 : Int32) (h : Hp) : Option Int32 := some x1
noncomputable def M_allPaid_b4 (x1 : Int32) (x2 : Int32) (h : Hp) : Option ((Int32 × Int32) ⊕ Int32) := if (8 : Int32) ≤ x2 then (((M_allPaid_j25 x1 h).map Sum.inr)) else (if inb x2 (ln 271) then (bnd ((x1 + (h.1 271 (Int32.toNatClampNeg x2)))) fun y3 => bnd ((x2 + (1 : Int32))) fun y4 => some (.inl (y3, y4))) else none)
noncomputable def M_allPaid_l4 (x1 : Int32) (x2 : Int32) (h : Hp) : Option Int32 := lp (fun s : (Int32 × Int32) => M_allPaid_b4 s.1 s.2 h) (x1, x2)
theorem M_allPaid_l4_eq (x1 : Int32) (x2 : Int32) (h : Hp) : M_allPaid_l4 x1 x2 h = (M_allPaid_b4 x1 x2 h).bind (Sum.elim (fun q : (Int32 × Int32) => M_allPaid_l4 q.1 q.2 h) some) := lp_eq _ _
noncomputable def M_allPaid (h : Hp) : Option Int32 := (M_allPaid_l4 (0 : Int32) (0 : Int32) h)
set_option maxRecDepth 100000 in
set_option maxHeartbeats 4000000 in
theorem c_M_allPaid {E : En} {d : Nat} (h : Hp) {P : Int32 → Prop} (hO : Okk (M_allPaid h) P) : Cn E (d + 1) z_M_allPaid [.ref 251] h (RIp h P) := by
  refine cn_of (on := 12) (d := d + 0) ⟨rfl, by decide +kernel, Nat.le_of_ble_eq_true rfl⟩ (fun G hG => ?_)
  unfold M_allPaid at hO
  show G 0 [(0, .ref 251)] [] h
  have j25 : ∀ (x1 : Int32), Okk (M_allPaid_j25 x1 h) P → G 25 [(1, .int x1)] [] h := by
    intro x1 hO
    unfold M_allPaid_j25 at hO
    refine rb hG 4 25 26 [.iload 1] [] [] [(1, .int x1)] [.int x1] h [] (by decide +kernel) rfl trivial ?_
    exact eI hG 26 (by decide +kernel) rfl ⟨x1, rfl, rfl, ok_some (Q := P) hO⟩
  have l4 : ∀ (x1 : Int32) (x2 : Int32), Okk (M_allPaid_l4 x1 x2 h) P → G 4 [(0, .ref 251), (1, .int x1), (2, .int x2)] [] h := by
    intro x1 x2 hO
    obtain ⟨H4, eH4⟩ : ∃ q : (Int32 × Int32) → Prop, q = fun s => G 4 [(0, .ref 251), (1, .int (s.1)), (2, .int (s.2))] [] (h) := ⟨_, rfl⟩
    have w9 : H4 (x1, x2) := by
      refine lp_wp (f := fun s : (Int32 × Int32) => M_allPaid_b4 s.1 s.2 h) (H := H4) (Q := P) ?_ (x1, x2) hO
      rintro ⟨x1, x2⟩ hO
      rw [eH4]
      show G 4 [(0, .ref 251), (1, .int x1), (2, .int x2)] [] h
      have k4 : ∀ s : (Int32 × Int32), H4 s → G 4 [(0, .ref 251), (1, .int (s.1)), (2, .int (s.2))] [] (h) := fun s q => by rw [eH4] at q; exact q
      replace hO : Okk (M_allPaid_b4 x1 x2 h) (Sum.elim H4 P) := hO
      clear eH4
      unfold M_allPaid_b4 at hO
      refine rb hG 5 4 7 [.iload 2, .ldc_w 0] [8] [] [(0, .ref 251), (1, .int x1), (2, .int x2)] [.int (8 : Int32), .int x2] h [] (by decide +kernel) rfl trivial ?_
      refine rj hG .ge (18) 25 7 (by decide +kernel) (by decide) (fun c1 => ?_) (fun c1 => ?_)
      · have hO := ok_pos c1 hO
        refine rs hG [(1, .int x1)] [1] rfl ?_
        exact j25 x1 (ok_inr hO)
      · have hO := ok_neg c1 hO
        obtain ⟨g2, hO⟩ := ok_if hO
        refine rbx hG 10 10 19 [.iload 1, .aload 0, .invokeinterface 1235 20, .iload 2, .iaload, .iadd, .istore 1] [] [] ((x1 + (h.1 271 (Int32.toNatClampNeg x2)))) (fun y3 => [(1, .int y3), (0, .ref 251), (2, .int x2)]) (fun y3 => []) (fun y3 => h) [kd 251 = 12, kd 271 = 20 ∧ inb x2 (ln 271)] (by decide +kernel) rfl ⟨kd_251, ⟨kd_271, g2⟩⟩ hO (fun y3 hO => ?_)
        refine rbx hG 4 19 22 [.iinc 2 0] [1] [] ((x2 + (1 : Int32))) (fun y4 => [(2, .int y4), (1, .int y3), (0, .ref 251)]) (fun y4 => []) (fun y4 => h) [] (by decide +kernel) rfl trivial hO (fun y4 hO => ?_)
        refine rb hG 4 22 4 [] [] [] [(2, .int y4), (1, .int y3), (0, .ref 251)] [] h [] (by decide +kernel) rfl trivial ?_
        refine rs hG [(0, .ref 251), (1, .int y3), (2, .int y4)] [2, 1, 0] rfl ?_
        exact k4 (y3, y4) (ok_some (Q := (Sum.elim H4 P)) hO)
    rw [eH4] at w9
    exact w9
  refine rb hG 7 0 4 [.ldc_w 0, .istore 1, .ldc_w 0, .istore 2] [0] [] [(2, .int (0 : Int32)), (1, .int (0 : Int32)), (0, .ref 251)] [] h [] (by decide +kernel) rfl trivial ?_
  refine rs hG [(0, .ref 251), (1, .int (0 : Int32)), (2, .int (0 : Int32))] [2, 1, 0] rfl ?_
  exact l4 (0 : Int32) (0 : Int32) hO
/-! GrainInnModel.state(IIII)I -/
noncomputable def M_state (h : Hp) (x1 : Int32) (x2 : Int32) (x3 : Int32) (x4 : Int32) : Option (Int32 × Hp) := bnd (wr h 251 0 (0 : Int32)) fun h1 => (M_layState h1 x1 x2 x3).bind fun (r2, h3) => if r2 = 0 then (some ((-2 : Int32), h3)) else ((M_in x4 (10 : Int32) ((9 : Int32) + (h3.1 251 24))).bind fun r5 => if r5 = 0 then ((M_in x4 (20 : Int32) ((19 : Int32) + (h3.1 251 24))).bind fun r7 => if r7 = 0 then ((M_in x4 (30 : Int32) ((29 : Int32) + (h3.1 251 24))).bind fun r9 => if r9 = 0 then (if x4 = (0 : Int32) then (some ((h3.1 251 38), h3)) else (if x4 = (1 : Int32) then (some ((h3.1 251 39), h3)) else (if x4 = (2 : Int32) then (some ((h3.1 251 40), h3)) else (if x4 = (3 : Int32) then ((M_allPaid h3).bind fun r15 => some (r15, h3)) else (if x4 = (4 : Int32) then ((M_allSeated h3).bind fun r17 => some (r17, h3)) else (some ((-2 : Int32), h3))))))) else (if inb (x4 - (30 : Int32)) (ln 268) then (some ((h3.1 268 (Int32.toNatClampNeg (x4 - (30 : Int32)))), h3)) else none)) else (if inb (x4 - (20 : Int32)) (ln 267) then (some ((h3.1 267 (Int32.toNatClampNeg (x4 - (20 : Int32)))), h3)) else none)) else (if inb (x4 - (10 : Int32)) (ln 266) then (some ((h3.1 266 (Int32.toNatClampNeg (x4 - (10 : Int32)))), h3)) else none))
set_option maxRecDepth 100000 in
set_option maxHeartbeats 4000000 in
theorem c_M_state {E : En} {d : Nat} (h : Hp) (x1 : Int32) (x2 : Int32) (x3 : Int32) (x4 : Int32) {P : (Int32 × Hp) → Prop} (hO : Okk (M_state h x1 x2 x3 x4) P) : Cn E (d + 9) z_M_state [.ref 251, .int x1, .int x2, .int x3, .int x4] h (RI P) := by
  refine cn_of (on := 12) (d := d + 8) ⟨rfl, by decide +kernel, Nat.le_of_ble_eq_true rfl⟩ (fun G hG => ?_)
  unfold M_state at hO
  show G 0 [(0, .ref 251), (1, .int x1), (2, .int x2), (3, .int x3), (4, .int x4)] [] h
  refine rbx hG 6 0 5 [.aload 0, .ldc_w 0, .putfield 1200] [0] [] (wr h 251 0 (0 : Int32)) (fun h1 => [(0, .ref 251), (1, .int x1), (2, .int x2), (3, .int x3), (4, .int x4)]) (fun h1 => []) (fun h1 => h1) [kd 251 = 12] (by decide +kernel) rfl kd_251 hO (fun h1 hO => ?_)
  refine rb hG 7 5 9 [.aload 0, .iload 1, .iload 2, .iload 3] [] [] [(0, .ref 251), (1, .int x1), (2, .int x2), (3, .int x3), (4, .int x4)] [.int x3, .int x2, .int x1, .ref 251] h1 [] (by decide +kernel) rfl trivial ?_
  refine rv hG z_M_layState 380 3 9 251 [.int x1, .int x2, .int x3] [] (by decide +kernel) mk_M_layState lk_12_380 rcv_251 rfl ⟨rfl, Nat.le_of_ble_eq_true rfl⟩ (c_M_layState (d := d) h1 x1 x2 x3 (ok_bind hO)) ?_
  rintro _ h3 ⟨r2, rfl, hO⟩
  refine riN hG (6) 18 12 (by decide +kernel) (by decide) (fun c4 => ?_) (fun c4 => ?_)
  · have hO := ok_pos c4 hO
    refine rb hG 4 15 17 [.ldc_w 0] [-2] [] [(0, .ref 251), (1, .int x1), (2, .int x2), (3, .int x3), (4, .int x4)] [.int (-2 : Int32)] h3 [] (by decide +kernel) rfl trivial ?_
    exact eI hG 17 (by decide +kernel) rfl ⟨(-2 : Int32), rfl, ok_some (Q := P) hO⟩
  · have hO := ok_neg c4 hO
    refine rb hG 9 18 29 [.iload 4, .ldc_w 0, .ldc_w 1, .aload 0, .getfield 1224, .iadd] [10, 9] [] [(0, .ref 251), (1, .int x1), (2, .int x2), (3, .int x3), (4, .int x4)] [.int ((9 : Int32) + (h3.1 251 24)), .int (10 : Int32), .int x4] h3 [kd 251 = 12] (by decide +kernel) rfl kd_251 ?_
    refine rt hG z_M_in 111 3 29 [.int x4, .int (10 : Int32), .int ((9 : Int32) + (h3.1 251 24))] [] (by decide +kernel) mk_M_in lk_12_111 rfl ⟨rfl, Nat.le_of_ble_eq_true rfl⟩ (c_M_in (d := d + 7) h3 x4 (10 : Int32) ((9 : Int32) + (h3.1 251 24)) (ok_bind hO)) ?_
    rintro _ _ ⟨r5, rfl, rfl, hO⟩
    refine ri hG .eq (14) 46 32 (by decide +kernel) (by decide) (fun c6 => ?_) (fun c6 => ?_)
    · have hO := ok_pos c6 hO
      refine rb hG 9 46 57 [.iload 4, .ldc_w 0, .ldc_w 1, .aload 0, .getfield 1224, .iadd] [20, 19] [] [(0, .ref 251), (1, .int x1), (2, .int x2), (3, .int x3), (4, .int x4)] [.int ((19 : Int32) + (h3.1 251 24)), .int (20 : Int32), .int x4] h3 [kd 251 = 12] (by decide +kernel) rfl kd_251 ?_
      refine rt hG z_M_in 111 3 57 [.int x4, .int (20 : Int32), .int ((19 : Int32) + (h3.1 251 24))] [] (by decide +kernel) mk_M_in lk_12_111 rfl ⟨rfl, Nat.le_of_ble_eq_true rfl⟩ (c_M_in (d := d + 7) h3 x4 (20 : Int32) ((19 : Int32) + (h3.1 251 24)) (ok_bind hO)) ?_
      rintro _ _ ⟨r7, rfl, rfl, hO⟩
      refine ri hG .eq (14) 74 60 (by decide +kernel) (by decide) (fun c8 => ?_) (fun c8 => ?_)
      · have hO := ok_pos c8 hO
        refine rb hG 9 74 85 [.iload 4, .ldc_w 0, .ldc_w 1, .aload 0, .getfield 1224, .iadd] [30, 29] [] [(0, .ref 251), (1, .int x1), (2, .int x2), (3, .int x3), (4, .int x4)] [.int ((29 : Int32) + (h3.1 251 24)), .int (30 : Int32), .int x4] h3 [kd 251 = 12] (by decide +kernel) rfl kd_251 ?_
        refine rt hG z_M_in 111 3 85 [.int x4, .int (30 : Int32), .int ((29 : Int32) + (h3.1 251 24))] [] (by decide +kernel) mk_M_in lk_12_111 rfl ⟨rfl, Nat.le_of_ble_eq_true rfl⟩ (c_M_in (d := d + 7) h3 x4 (30 : Int32) ((29 : Int32) + (h3.1 251 24)) (ok_bind hO)) ?_
        rintro _ _ ⟨r9, rfl, rfl, hO⟩
        refine ri hG .eq (14) 102 88 (by decide +kernel) (by decide) (fun c10 => ?_) (fun c10 => ?_)
        · have hO := ok_pos c10 hO
          refine rb hG 4 102 104 [.iload 4] [] [] [(0, .ref 251), (1, .int x1), (2, .int x2), (3, .int x3), (4, .int x4)] [.int x4] h3 [] (by decide +kernel) rfl trivial ?_
          refine rw9 hG (61) (0) (4) #[(36), (41), (46), (51), (56)] 36 104 [140, 145, 150, 155, 160] 165 (by decide +kernel) (by decide +kernel) ?_
          refine sw_c (0 : Int32) (by decide) (fun c11 => ?_) (fun c11 => ?_)
          · have hO := ok_pos c11 hO
            refine rb hG 5 140 144 [.aload 0, .getfield 1238] [] [] [(0, .ref 251), (1, .int x1), (2, .int x2), (3, .int x3), (4, .int x4)] [.int (h3.1 251 38)] h3 [kd 251 = 12] (by decide +kernel) rfl kd_251 ?_
            exact eI hG 144 (by decide +kernel) rfl ⟨(h3.1 251 38), rfl, ok_some (Q := P) hO⟩
          have hO := ok_neg c11 hO
          refine sw_c (1 : Int32) (by decide) (fun c12 => ?_) (fun c12 => ?_)
          · have hO := ok_pos c12 hO
            refine rb hG 5 145 149 [.aload 0, .getfield 1239] [] [] [(0, .ref 251), (1, .int x1), (2, .int x2), (3, .int x3), (4, .int x4)] [.int (h3.1 251 39)] h3 [kd 251 = 12] (by decide +kernel) rfl kd_251 ?_
            exact eI hG 149 (by decide +kernel) rfl ⟨(h3.1 251 39), rfl, ok_some (Q := P) hO⟩
          have hO := ok_neg c12 hO
          refine sw_c (2 : Int32) (by decide) (fun c13 => ?_) (fun c13 => ?_)
          · have hO := ok_pos c13 hO
            refine rb hG 5 150 154 [.aload 0, .getfield 1240] [] [] [(0, .ref 251), (1, .int x1), (2, .int x2), (3, .int x3), (4, .int x4)] [.int (h3.1 251 40)] h3 [kd 251 = 12] (by decide +kernel) rfl kd_251 ?_
            exact eI hG 154 (by decide +kernel) rfl ⟨(h3.1 251 40), rfl, ok_some (Q := P) hO⟩
          have hO := ok_neg c13 hO
          refine sw_c (3 : Int32) (by decide) (fun c14 => ?_) (fun c14 => ?_)
          · have hO := ok_pos c14 hO
            refine rb hG 4 155 156 [.aload 0] [] [] [(0, .ref 251), (1, .int x1), (2, .int x2), (3, .int x3), (4, .int x4)] [.ref 251] h3 [] (by decide +kernel) rfl trivial ?_
            refine rv hG z_M_allPaid 383 0 156 251 [] [] (by decide +kernel) mk_M_allPaid lk_12_383 rcv_251 rfl ⟨rfl, Nat.le_of_ble_eq_true rfl⟩ (c_M_allPaid (d := d + 7) h3 (ok_bind hO)) ?_
            rintro _ _ ⟨r15, rfl, rfl, hO⟩
            exact eI hG 159 (by decide +kernel) rfl ⟨r15, rfl, ok_some (Q := P) hO⟩
          have hO := ok_neg c14 hO
          refine sw_c (4 : Int32) (by decide) (fun c16 => ?_) (fun c16 => ?_)
          · have hO := ok_pos c16 hO
            refine rb hG 4 160 161 [.aload 0] [] [] [(0, .ref 251), (1, .int x1), (2, .int x2), (3, .int x3), (4, .int x4)] [.ref 251] h3 [] (by decide +kernel) rfl trivial ?_
            refine rv hG z_M_allSeated 344 0 161 251 [] [] (by decide +kernel) mk_M_allSeated lk_12_344 rcv_251 rfl ⟨rfl, Nat.le_of_ble_eq_true rfl⟩ (c_M_allSeated (d := d + 7) h3 (ok_bind hO)) ?_
            rintro _ _ ⟨r17, rfl, rfl, hO⟩
            exact eI hG 164 (by decide +kernel) rfl ⟨r17, rfl, ok_some (Q := P) hO⟩
          have hO := ok_neg c16 hO
          show G 165 _ _ _
          refine rb hG 4 165 167 [.ldc_w 0] [-2] [] [(0, .ref 251), (1, .int x1), (2, .int x2), (3, .int x3), (4, .int x4)] [.int (-2 : Int32)] h3 [] (by decide +kernel) rfl trivial ?_
          exact eI hG 167 (by decide +kernel) rfl ⟨(-2 : Int32), rfl, ok_some (Q := P) hO⟩
        · have hO := ok_neg c10 hO
          obtain ⟨g18, hO⟩ := ok_if hO
          refine rb hG 9 91 101 [.aload 0, .invokeinterface 1232 17, .iload 4, .ldc_w 0, .isub, .iaload] [30] [] [(0, .ref 251), (1, .int x1), (2, .int x2), (3, .int x3), (4, .int x4)] [.int (h3.1 268 (Int32.toNatClampNeg (x4 - (30 : Int32))))] h3 [kd 251 = 12, kd 268 = 20 ∧ inb (x4 - (30 : Int32)) (ln 268)] (by decide +kernel) rfl ⟨kd_251, ⟨kd_268, g18⟩⟩ ?_
          exact eI hG 101 (by decide +kernel) rfl ⟨(h3.1 268 (Int32.toNatClampNeg (x4 - (30 : Int32)))), rfl, ok_some (Q := P) hO⟩
      · have hO := ok_neg c8 hO
        obtain ⟨g19, hO⟩ := ok_if hO
        refine rb hG 9 63 73 [.aload 0, .invokeinterface 1231 16, .iload 4, .ldc_w 0, .isub, .iaload] [20] [] [(0, .ref 251), (1, .int x1), (2, .int x2), (3, .int x3), (4, .int x4)] [.int (h3.1 267 (Int32.toNatClampNeg (x4 - (20 : Int32))))] h3 [kd 251 = 12, kd 267 = 20 ∧ inb (x4 - (20 : Int32)) (ln 267)] (by decide +kernel) rfl ⟨kd_251, ⟨kd_267, g19⟩⟩ ?_
        exact eI hG 73 (by decide +kernel) rfl ⟨(h3.1 267 (Int32.toNatClampNeg (x4 - (20 : Int32)))), rfl, ok_some (Q := P) hO⟩
    · have hO := ok_neg c6 hO
      obtain ⟨g20, hO⟩ := ok_if hO
      refine rb hG 9 35 45 [.aload 0, .invokeinterface 1230 15, .iload 4, .ldc_w 0, .isub, .iaload] [10] [] [(0, .ref 251), (1, .int x1), (2, .int x2), (3, .int x3), (4, .int x4)] [.int (h3.1 266 (Int32.toNatClampNeg (x4 - (10 : Int32))))] h3 [kd 251 = 12, kd 266 = 20 ∧ inb (x4 - (10 : Int32)) (ln 266)] (by decide +kernel) rfl ⟨kd_251, ⟨kd_266, g20⟩⟩ ?_
      exact eI hG 45 (by decide +kernel) rfl ⟨(h3.1 266 (Int32.toNatClampNeg (x4 - (10 : Int32)))), rfl, ok_some (Q := P) hO⟩
/-! GrainInn.State.heardBy(I)I -/
noncomputable def S_heardBy_j21 (s0 : Int32) (h : Hp) : Option Int32 := some s0
noncomputable def S_heardBy (h : Hp) (x1 : Int32) : Option Int32 := if kd (Int32.toNatClampNeg (h.1 57 6)) = 1 then ((H_hasGuest h (Int32.toNatClampNeg (h.1 57 6)) x1).bind fun r2 => if r2 = 0 then ((S_heardBy_j21 (0 : Int32) h)) else (if inb x1 (ln 59) then ((S_heardBy_j21 (h.1 59 (Int32.toNatClampNeg x1)) h)) else none)) else none
set_option maxRecDepth 100000 in
set_option maxHeartbeats 4000000 in
theorem c_S_heardBy {E : En} {d : Nat} (h : Hp) (x1 : Int32) {P : Int32 → Prop} (hO : Okk (S_heardBy h x1) P) : Cn E (d + 2) z_S_heardBy [.ref 57, .int x1] h (RIp h P) := by
  refine cn_of (on := 7) (d := d + 1) ⟨rfl, by decide +kernel, Nat.le_of_ble_eq_true rfl⟩ (fun G hG => ?_)
  unfold S_heardBy at hO
  show G 0 [(0, .ref 57), (1, .int x1)] [] h
  have j21 : ∀ (s0 : Int32), Okk (S_heardBy_j21 s0 h) P → G 21 [] [.int s0] h := by
    intro s0 hO
    unfold S_heardBy_j21 at hO
    exact eI hG 21 (by decide +kernel) rfl ⟨s0, rfl, rfl, ok_some (Q := P) hO⟩
  obtain ⟨g1, hO⟩ := ok_if hO
  refine rb hG 6 0 5 [.aload 0, .instanceof 706, .iload 1] [] [] [(0, .ref 57), (1, .int x1)] [.int x1, .ref (Int32.toNatClampNeg (h.1 57 6))] h [kd 57 = 7] (by decide +kernel) rfl kd_57 ?_
  refine rv hG z_H_hasGuest 159 1 5 (Int32.toNatClampNeg (h.1 57 6)) [.int x1] [] (by decide +kernel) mk_H_hasGuest lk_7_159 (rcv_H g1) rfl ⟨rfl, Nat.le_of_ble_eq_true rfl⟩ (c_H_hasGuest (d := d) h (Int32.toNatClampNeg (h.1 57 6)) x1 (ok_bind hO)) ?_
  rintro _ _ ⟨r2, rfl, rfl, hO⟩
  refine ri hG .eq (12) 20 8 (by decide +kernel) (by decide) (fun c3 => ?_) (fun c3 => ?_)
  · have hO := ok_pos c3 hO
    refine rb hG 4 20 21 [.ldc_w 0] [0] [] [(0, .ref 57), (1, .int x1)] [.int (0 : Int32)] h [] (by decide +kernel) rfl trivial ?_
    refine rs hG [] [] rfl ?_
    exact j21 (0 : Int32) hO
  · have hO := ok_neg c3 hO
    obtain ⟨g4, hO⟩ := ok_if hO
    refine rb hG 8 11 21 [.aload 0, .invokeinterface 701 2, .iload 1, .iaload] [] [] [(0, .ref 57), (1, .int x1)] [.int (h.1 59 (Int32.toNatClampNeg x1))] h [kd 57 = 7, kd 59 = 20 ∧ inb x1 (ln 59)] (by decide +kernel) rfl ⟨kd_57, ⟨kd_59, g4⟩⟩ ?_
    refine rs hG [] [] rfl ?_
    exact j21 (h.1 59 (Int32.toNatClampNeg x1)) hO
/-! GrainInn.State.paidBy(I)I -/
noncomputable def S_paidBy_j21 (s0 : Int32) (h : Hp) : Option Int32 := some s0
noncomputable def S_paidBy (h : Hp) (x1 : Int32) : Option Int32 := if kd (Int32.toNatClampNeg (h.1 57 6)) = 1 then ((H_hasGuest h (Int32.toNatClampNeg (h.1 57 6)) x1).bind fun r2 => if r2 = 0 then ((S_paidBy_j21 (0 : Int32) h)) else (if inb x1 (ln 60) then ((S_paidBy_j21 (h.1 60 (Int32.toNatClampNeg x1)) h)) else none)) else none
set_option maxRecDepth 100000 in
set_option maxHeartbeats 4000000 in
theorem c_S_paidBy {E : En} {d : Nat} (h : Hp) (x1 : Int32) {P : Int32 → Prop} (hO : Okk (S_paidBy h x1) P) : Cn E (d + 2) z_S_paidBy [.ref 57, .int x1] h (RIp h P) := by
  refine cn_of (on := 7) (d := d + 1) ⟨rfl, by decide +kernel, Nat.le_of_ble_eq_true rfl⟩ (fun G hG => ?_)
  unfold S_paidBy at hO
  show G 0 [(0, .ref 57), (1, .int x1)] [] h
  have j21 : ∀ (s0 : Int32), Okk (S_paidBy_j21 s0 h) P → G 21 [] [.int s0] h := by
    intro s0 hO
    unfold S_paidBy_j21 at hO
    exact eI hG 21 (by decide +kernel) rfl ⟨s0, rfl, rfl, ok_some (Q := P) hO⟩
  obtain ⟨g1, hO⟩ := ok_if hO
  refine rb hG 6 0 5 [.aload 0, .instanceof 706, .iload 1] [] [] [(0, .ref 57), (1, .int x1)] [.int x1, .ref (Int32.toNatClampNeg (h.1 57 6))] h [kd 57 = 7] (by decide +kernel) rfl kd_57 ?_
  refine rv hG z_H_hasGuest 159 1 5 (Int32.toNatClampNeg (h.1 57 6)) [.int x1] [] (by decide +kernel) mk_H_hasGuest lk_7_159 (rcv_H g1) rfl ⟨rfl, Nat.le_of_ble_eq_true rfl⟩ (c_H_hasGuest (d := d) h (Int32.toNatClampNeg (h.1 57 6)) x1 (ok_bind hO)) ?_
  rintro _ _ ⟨r2, rfl, rfl, hO⟩
  refine ri hG .eq (12) 20 8 (by decide +kernel) (by decide) (fun c3 => ?_) (fun c3 => ?_)
  · have hO := ok_pos c3 hO
    refine rb hG 4 20 21 [.ldc_w 0] [0] [] [(0, .ref 57), (1, .int x1)] [.int (0 : Int32)] h [] (by decide +kernel) rfl trivial ?_
    refine rs hG [] [] rfl ?_
    exact j21 (0 : Int32) hO
  · have hO := ok_neg c3 hO
    obtain ⟨g4, hO⟩ := ok_if hO
    refine rb hG 8 11 21 [.aload 0, .invokeinterface 702 3, .iload 1, .iaload] [] [] [(0, .ref 57), (1, .int x1)] [.int (h.1 60 (Int32.toNatClampNeg x1))] h [kd 57 = 7, kd 60 = 20 ∧ inb x1 (ln 60)] (by decide +kernel) rfl ⟨kd_57, ⟨kd_60, g4⟩⟩ ?_
    refine rs hG [] [] rfl ?_
    exact j21 (h.1 60 (Int32.toNatClampNeg x1)) hO
/-! GrainInn.State.debtOf(II)I -/
noncomputable def S_debtOf_j37 (s0 : Int32) (h : Hp) : Option Int32 := some s0
noncomputable def S_debtOf_j36 (h : Hp) : Option Int32 := (S_debtOf_j37 (0 : Int32) h)
noncomputable def S_debtOf (h : Hp) (x1 : Int32) (x2 : Int32) : Option Int32 := if kd (Int32.toNatClampNeg (h.1 57 6)) = 1 then ((H_hasGuest h (Int32.toNatClampNeg (h.1 57 6)) x1).bind fun r2 => if r2 = 0 then ((S_debtOf_j36 h)) else ((H_hasGuest h (Int32.toNatClampNeg (h.1 57 6)) x2).bind fun r4 => if r4 = 0 then ((S_debtOf_j36 h)) else (if inb (((8 : Int32) * x1) + x2) (ln 62) then ((S_debtOf_j37 (h.1 62 (Int32.toNatClampNeg (((8 : Int32) * x1) + x2))) h)) else none))) else none
set_option maxRecDepth 100000 in
set_option maxHeartbeats 4000000 in
theorem c_S_debtOf {E : En} {d : Nat} (h : Hp) (x1 : Int32) (x2 : Int32) {P : Int32 → Prop} (hO : Okk (S_debtOf h x1 x2) P) : Cn E (d + 2) z_S_debtOf [.ref 57, .int x1, .int x2] h (RIp h P) := by
  refine cn_of (on := 7) (d := d + 1) ⟨rfl, by decide +kernel, Nat.le_of_ble_eq_true rfl⟩ (fun G hG => ?_)
  unfold S_debtOf at hO
  show G 0 [(0, .ref 57), (1, .int x1), (2, .int x2)] [] h
  have j37 : ∀ (s0 : Int32), Okk (S_debtOf_j37 s0 h) P → G 37 [] [.int s0] h := by
    intro s0 hO
    unfold S_debtOf_j37 at hO
    exact eI hG 37 (by decide +kernel) rfl ⟨s0, rfl, rfl, ok_some (Q := P) hO⟩
  have j36 : Okk (S_debtOf_j36 h) P → G 36 [] [] h := by
    intro hO
    unfold S_debtOf_j36 at hO
    refine rb hG 4 36 37 [.ldc_w 0] [0] [] [] [.int (0 : Int32)] h [] (by decide +kernel) rfl trivial ?_
    exact j37 (0 : Int32) hO
  obtain ⟨g1, hO⟩ := ok_if hO
  refine rb hG 6 0 5 [.aload 0, .instanceof 706, .iload 1] [] [] [(0, .ref 57), (1, .int x1), (2, .int x2)] [.int x1, .ref (Int32.toNatClampNeg (h.1 57 6))] h [kd 57 = 7] (by decide +kernel) rfl kd_57 ?_
  refine rv hG z_H_hasGuest 159 1 5 (Int32.toNatClampNeg (h.1 57 6)) [.int x1] [] (by decide +kernel) mk_H_hasGuest lk_7_159 (rcv_H g1) rfl ⟨rfl, Nat.le_of_ble_eq_true rfl⟩ (c_H_hasGuest (d := d) h (Int32.toNatClampNeg (h.1 57 6)) x1 (ok_bind hO)) ?_
  rintro _ _ ⟨r2, rfl, rfl, hO⟩
  refine ri hG .eq (28) 36 8 (by decide +kernel) (by decide) (fun c3 => ?_) (fun c3 => ?_)
  · have hO := ok_pos c3 hO
    refine rs hG [] [] rfl ?_
    exact j36 hO
  · have hO := ok_neg c3 hO
    refine rb hG 6 11 16 [.aload 0, .instanceof 706, .iload 2] [] [] [(0, .ref 57), (1, .int x1), (2, .int x2)] [.int x2, .ref (Int32.toNatClampNeg (h.1 57 6))] h [kd 57 = 7] (by decide +kernel) rfl kd_57 ?_
    refine rv hG z_H_hasGuest 159 1 16 (Int32.toNatClampNeg (h.1 57 6)) [.int x2] [] (by decide +kernel) mk_H_hasGuest lk_7_159 (rcv_H g1) rfl ⟨rfl, Nat.le_of_ble_eq_true rfl⟩ (c_H_hasGuest (d := d) h (Int32.toNatClampNeg (h.1 57 6)) x2 (ok_bind hO)) ?_
    rintro _ _ ⟨r4, rfl, rfl, hO⟩
    refine ri hG .eq (17) 36 19 (by decide +kernel) (by decide) (fun c5 => ?_) (fun c5 => ?_)
    · have hO := ok_pos c5 hO
      refine rs hG [] [] rfl ?_
      exact j36 hO
    · have hO := ok_neg c5 hO
      obtain ⟨g6, hO⟩ := ok_if hO
      refine rb hG 12 22 37 [.aload 0, .invokeinterface 704 5, .ldc_w 0, .iload 1, .imul, .iload 2, .iadd, .iaload] [8] [] [(0, .ref 57), (1, .int x1), (2, .int x2)] [.int (h.1 62 (Int32.toNatClampNeg (((8 : Int32) * x1) + x2)))] h [kd 57 = 7, kd 62 = 20 ∧ inb (((8 : Int32) * x1) + x2) (ln 62)] (by decide +kernel) rfl ⟨kd_57, ⟨kd_62, g6⟩⟩ ?_
      refine rs hG [] [] rfl ?_
      exact j37 (h.1 62 (Int32.toNatClampNeg (((8 : Int32) * x1) + x2))) hO
/-! GrainInn.State.netOf(I)I -/
noncomputable def S_netOf_j37 (x2 : Int32) (h : Hp) : Option Int32 := some x2
noncomputable def S_netOf_b4 (x1 : Int32) (x2 : Int32) (x3 : Int32) (h : Hp) : Option ((Int32 × Int32) ⊕ Int32) := if kd (Int32.toNatClampNeg (h.1 57 6)) = 1 then (if (h.1 (Int32.toNatClampNeg (h.1 57 6)) 6) ≤ x3 then (((S_netOf_j37 x2 h).map Sum.inr)) else ((S_debtOf h x3 x1).bind fun r3 => (S_debtOf h x1 x3).bind fun r4 => bnd ((x2 + (r3 - r4))) fun y5 => bnd ((x3 + (1 : Int32))) fun y6 => some (.inl (y5, y6)))) else none
noncomputable def S_netOf_l4 (x1 : Int32) (x2 : Int32) (x3 : Int32) (h : Hp) : Option Int32 := lp (fun s : (Int32 × Int32) => S_netOf_b4 x1 s.1 s.2 h) (x2, x3)
theorem S_netOf_l4_eq (x1 : Int32) (x2 : Int32) (x3 : Int32) (h : Hp) : S_netOf_l4 x1 x2 x3 h = (S_netOf_b4 x1 x2 x3 h).bind (Sum.elim (fun q : (Int32 × Int32) => S_netOf_l4 x1 q.1 q.2 h) some) := lp_eq _ _
noncomputable def S_netOf (h : Hp) (x1 : Int32) : Option Int32 := (S_netOf_l4 x1 (0 : Int32) (0 : Int32) h)
set_option maxRecDepth 100000 in
set_option maxHeartbeats 4000000 in
theorem c_S_netOf {E : En} {d : Nat} (h : Hp) (x1 : Int32) {P : Int32 → Prop} (hO : Okk (S_netOf h x1) P) : Cn E (d + 3) z_S_netOf [.ref 57, .int x1] h (RIp h P) := by
  refine cn_of (on := 7) (d := d + 2) ⟨rfl, by decide +kernel, Nat.le_of_ble_eq_true rfl⟩ (fun G hG => ?_)
  unfold S_netOf at hO
  show G 0 [(0, .ref 57), (1, .int x1)] [] h
  have j37 : ∀ (x2 : Int32), Okk (S_netOf_j37 x2 h) P → G 37 [(2, .int x2)] [] h := by
    intro x2 hO
    unfold S_netOf_j37 at hO
    refine rb hG 4 37 38 [.iload 2] [] [] [(2, .int x2)] [.int x2] h [] (by decide +kernel) rfl trivial ?_
    exact eI hG 38 (by decide +kernel) rfl ⟨x2, rfl, rfl, ok_some (Q := P) hO⟩
  have l4 : ∀ (x2 : Int32) (x3 : Int32), Okk (S_netOf_l4 x1 x2 x3 h) P → G 4 [(0, .ref 57), (1, .int x1), (2, .int x2), (3, .int x3)] [] h := by
    intro x2 x3 hO
    obtain ⟨H4, eH4⟩ : ∃ q : (Int32 × Int32) → Prop, q = fun s => G 4 [(0, .ref 57), (1, .int x1), (2, .int (s.1)), (3, .int (s.2))] [] (h) := ⟨_, rfl⟩
    have w9 : H4 (x2, x3) := by
      refine lp_wp (f := fun s : (Int32 × Int32) => S_netOf_b4 x1 s.1 s.2 h) (H := H4) (Q := P) ?_ (x2, x3) hO
      rintro ⟨x2, x3⟩ hO
      rw [eH4]
      show G 4 [(0, .ref 57), (1, .int x1), (2, .int x2), (3, .int x3)] [] h
      have k4 : ∀ s : (Int32 × Int32), H4 s → G 4 [(0, .ref 57), (1, .int x1), (2, .int (s.1)), (3, .int (s.2))] [] (h) := fun s q => by rw [eH4] at q; exact q
      replace hO : Okk (S_netOf_b4 x1 x2 x3 h) (Sum.elim H4 P) := hO
      clear eH4
      unfold S_netOf_b4 at hO
      obtain ⟨g1, hO⟩ := ok_if hO
      refine rb hG 7 4 12 [.iload 3, .aload 0, .instanceof 706, .getfield 106] [] [] [(0, .ref 57), (1, .int x1), (2, .int x2), (3, .int x3)] [.int (h.1 (Int32.toNatClampNeg (h.1 57 6)) 6), .int x3] h [kd 57 = 7, kd (Int32.toNatClampNeg (h.1 57 6)) = 1] (by decide +kernel) rfl ⟨kd_57, g1⟩ ?_
      refine rj hG .ge (25) 37 12 (by decide +kernel) (by decide) (fun c2 => ?_) (fun c2 => ?_)
      · have hO := ok_pos c2 hO
        refine rs hG [(2, .int x2)] [2] rfl ?_
        exact j37 x2 (ok_inr hO)
      · have hO := ok_neg c2 hO
        refine rb hG 7 15 19 [.iload 2, .aload 0, .iload 3, .iload 1] [] [] [(0, .ref 57), (1, .int x1), (2, .int x2), (3, .int x3)] [.int x1, .int x3, .ref 57, .int x2] h [] (by decide +kernel) rfl trivial ?_
        refine rv hG z_S_debtOf 207 2 19 57 [.int x3, .int x1] [.int x2] (by decide +kernel) mk_S_debtOf lk_7_207 rcv_57 rfl ⟨rfl, Nat.le_of_ble_eq_true rfl⟩ (c_S_debtOf (d := d) h x3 x1 (ok_bind hO)) ?_
        rintro _ _ ⟨r3, rfl, rfl, hO⟩
        refine rb hG 6 22 25 [.aload 0, .iload 1, .iload 3] [] [] [(0, .ref 57), (1, .int x1), (2, .int x2), (3, .int x3)] [.int x3, .int x1, .ref 57, .int r3, .int x2] h [] (by decide +kernel) rfl trivial ?_
        refine rv hG z_S_debtOf 207 2 25 57 [.int x1, .int x3] [.int r3, .int x2] (by decide +kernel) mk_S_debtOf lk_7_207 rcv_57 rfl ⟨rfl, Nat.le_of_ble_eq_true rfl⟩ (c_S_debtOf (d := d) h x1 x3 (ok_bind hO)) ?_
        rintro _ _ ⟨r4, rfl, rfl, hO⟩
        refine rbx hG 6 28 31 [.isub, .iadd, .istore 2] [] [] ((x2 + (r3 - r4))) (fun y5 => [(2, .int y5), (0, .ref 57), (1, .int x1), (3, .int x3)]) (fun y5 => []) (fun y5 => h) [] (by decide +kernel) rfl trivial hO (fun y5 hO => ?_)
        refine rbx hG 4 31 34 [.iinc 3 0] [1] [] ((x3 + (1 : Int32))) (fun y6 => [(3, .int y6), (2, .int y5), (0, .ref 57), (1, .int x1)]) (fun y6 => []) (fun y6 => h) [] (by decide +kernel) rfl trivial hO (fun y6 hO => ?_)
        refine rb hG 4 34 4 [] [] [] [(3, .int y6), (2, .int y5), (0, .ref 57), (1, .int x1)] [] h [] (by decide +kernel) rfl trivial ?_
        refine rs hG [(0, .ref 57), (1, .int x1), (2, .int y5), (3, .int y6)] [2, 3, 1, 0] rfl ?_
        exact k4 (y5, y6) (ok_some (Q := (Sum.elim H4 P)) hO)
    rw [eH4] at w9
    exact w9
  refine rb hG 7 0 4 [.ldc_w 0, .istore 2, .ldc_w 0, .istore 3] [0] [] [(3, .int (0 : Int32)), (2, .int (0 : Int32)), (0, .ref 57), (1, .int x1)] [] h [] (by decide +kernel) rfl trivial ?_
  refine rs hG [(0, .ref 57), (1, .int x1), (2, .int (0 : Int32)), (3, .int (0 : Int32))] [2, 3, 1, 0] rfl ?_
  exact l4 (0 : Int32) (0 : Int32) hO
/-! GrainInn.State.creditorOf(I)I -/
noncomputable def S_creditorOf_j52 (x2 : Int32) (h : Hp) : Option Int32 := some x2
noncomputable def S_creditorOf_j46 (x1 : Int32) (x2 : Int32) (x3 : Int32) (h : Hp) : Option ((Int32 × Int32) ⊕ Int32) := bnd ((x3 + (1 : Int32))) fun y1 => some (.inl (x2, y1))
noncomputable def S_creditorOf_j44 (x1 : Int32) (x3 : Int32) (h : Hp) : Option ((Int32 × Int32) ⊕ Int32) := (S_creditorOf_j46 x1 x3 x3 h)
noncomputable def S_creditorOf_b4 (x1 : Int32) (x2 : Int32) (x3 : Int32) (h : Hp) : Option ((Int32 × Int32) ⊕ Int32) := if kd (Int32.toNatClampNeg (h.1 57 6)) = 1 then (if (h.1 (Int32.toNatClampNeg (h.1 57 6)) 6) ≤ x3 then (((S_creditorOf_j52 x2 h).map Sum.inr)) else ((S_debtOf h x1 x3).bind fun r4 => if r4 ≤ 0 then ((S_creditorOf_j46 x1 x2 x3 h)) else (if x2 = (-1 : Int32) then ((S_creditorOf_j44 x1 x3 h)) else ((S_debtOf h x1 x2).bind fun r7 => if r4 ≤ r7 then ((S_creditorOf_j46 x1 x2 x3 h)) else ((S_creditorOf_j44 x1 x3 h)))))) else none
noncomputable def S_creditorOf_l4 (x1 : Int32) (x2 : Int32) (x3 : Int32) (h : Hp) : Option Int32 := lp (fun s : (Int32 × Int32) => S_creditorOf_b4 x1 s.1 s.2 h) (x2, x3)
theorem S_creditorOf_l4_eq (x1 : Int32) (x2 : Int32) (x3 : Int32) (h : Hp) : S_creditorOf_l4 x1 x2 x3 h = (S_creditorOf_b4 x1 x2 x3 h).bind (Sum.elim (fun q : (Int32 × Int32) => S_creditorOf_l4 x1 q.1 q.2 h) some) := lp_eq _ _
noncomputable def S_creditorOf (h : Hp) (x1 : Int32) : Option Int32 := (S_creditorOf_l4 x1 (-1 : Int32) (0 : Int32) h)
set_option maxRecDepth 100000 in
set_option maxHeartbeats 4000000 in
theorem c_S_creditorOf {E : En} {d : Nat} (h : Hp) (x1 : Int32) {P : Int32 → Prop} (hO : Okk (S_creditorOf h x1) P) : Cn E (d + 3) z_S_creditorOf [.ref 57, .int x1] h (RIp h P) := by
  refine cn_of (on := 7) (d := d + 2) ⟨rfl, by decide +kernel, Nat.le_of_ble_eq_true rfl⟩ (fun G hG => ?_)
  unfold S_creditorOf at hO
  show G 0 [(0, .ref 57), (1, .int x1)] [] h
  have j52 : ∀ (x2 : Int32), Okk (S_creditorOf_j52 x2 h) P → G 52 [(2, .int x2)] [] h := by
    intro x2 hO
    unfold S_creditorOf_j52 at hO
    refine rb hG 4 52 53 [.iload 2] [] [] [(2, .int x2)] [.int x2] h [] (by decide +kernel) rfl trivial ?_
    exact eI hG 53 (by decide +kernel) rfl ⟨x2, rfl, rfl, ok_some (Q := P) hO⟩
  have l4 : ∀ (x2 : Int32) (x3 : Int32), Okk (S_creditorOf_l4 x1 x2 x3 h) P → G 4 [(0, .ref 57), (1, .int x1), (2, .int x2), (3, .int x3)] [] h := by
    intro x2 x3 hO
    obtain ⟨H4, eH4⟩ : ∃ q : (Int32 × Int32) → Prop, q = fun s => G 4 [(0, .ref 57), (1, .int x1), (2, .int (s.1)), (3, .int (s.2))] [] (h) := ⟨_, rfl⟩
    have w9 : H4 (x2, x3) := by
      refine lp_wp (f := fun s : (Int32 × Int32) => S_creditorOf_b4 x1 s.1 s.2 h) (H := H4) (Q := P) ?_ (x2, x3) hO
      rintro ⟨x2, x3⟩ hO
      rw [eH4]
      show G 4 [(0, .ref 57), (1, .int x1), (2, .int x2), (3, .int x3)] [] h
      have k4 : ∀ s : (Int32 × Int32), H4 s → G 4 [(0, .ref 57), (1, .int x1), (2, .int (s.1)), (3, .int (s.2))] [] (h) := fun s q => by rw [eH4] at q; exact q
      replace hO : Okk (S_creditorOf_b4 x1 x2 x3 h) (Sum.elim H4 P) := hO
      clear eH4
      have j46 : ∀ (x2 : Int32) (x3 : Int32), Okk (S_creditorOf_j46 x1 x2 x3 h) (Sum.elim H4 P) → G 46 [(0, .ref 57), (1, .int x1), (2, .int x2), (3, .int x3)] [] h := by
        intro x2 x3 hO
        unfold S_creditorOf_j46 at hO
        refine rbx hG 4 46 49 [.iinc 3 0] [1] [] ((x3 + (1 : Int32))) (fun y1 => [(3, .int y1), (0, .ref 57), (1, .int x1), (2, .int x2)]) (fun y1 => []) (fun y1 => h) [] (by decide +kernel) rfl trivial hO (fun y1 hO => ?_)
        refine rb hG 4 49 4 [] [] [] [(3, .int y1), (0, .ref 57), (1, .int x1), (2, .int x2)] [] h [] (by decide +kernel) rfl trivial ?_
        refine rs hG [(0, .ref 57), (1, .int x1), (2, .int x2), (3, .int y1)] [1, 2, 3, 0] rfl ?_
        exact k4 (x2, y1) (ok_some (Q := (Sum.elim H4 P)) hO)
      have j44 : ∀ (x3 : Int32), Okk (S_creditorOf_j44 x1 x3 h) (Sum.elim H4 P) → G 44 [(0, .ref 57), (1, .int x1), (3, .int x3)] [] h := by
        intro x3 hO
        unfold S_creditorOf_j44 at hO
        refine rb hG 5 44 46 [.iload 3, .istore 2] [] [] [(2, .int x3), (0, .ref 57), (1, .int x1), (3, .int x3)] [] h [] (by decide +kernel) rfl trivial ?_
        refine rs hG [(0, .ref 57), (1, .int x1), (2, .int x3), (3, .int x3)] [1, 2, 0, 3] rfl ?_
        exact j46 x3 x3 hO
      unfold S_creditorOf_b4 at hO
      obtain ⟨g2, hO⟩ := ok_if hO
      refine rb hG 7 4 12 [.iload 3, .aload 0, .instanceof 706, .getfield 106] [] [] [(0, .ref 57), (1, .int x1), (2, .int x2), (3, .int x3)] [.int (h.1 (Int32.toNatClampNeg (h.1 57 6)) 6), .int x3] h [kd 57 = 7, kd (Int32.toNatClampNeg (h.1 57 6)) = 1] (by decide +kernel) rfl ⟨kd_57, g2⟩ ?_
      refine rj hG .ge (40) 52 12 (by decide +kernel) (by decide) (fun c3 => ?_) (fun c3 => ?_)
      · have hO := ok_pos c3 hO
        refine rs hG [(2, .int x2)] [2] rfl ?_
        exact j52 x2 (ok_inr hO)
      · have hO := ok_neg c3 hO
        refine rb hG 6 15 18 [.aload 0, .iload 1, .iload 3] [] [] [(0, .ref 57), (1, .int x1), (2, .int x2), (3, .int x3)] [.int x3, .int x1, .ref 57] h [] (by decide +kernel) rfl trivial ?_
        refine rv hG z_S_debtOf 207 2 18 57 [.int x1, .int x3] [] (by decide +kernel) mk_S_debtOf lk_7_207 rcv_57 rfl ⟨rfl, Nat.le_of_ble_eq_true rfl⟩ (c_S_debtOf (d := d) h x1 x3 (ok_bind hO)) ?_
        rintro _ _ ⟨r4, rfl, rfl, hO⟩
        refine rb hG 5 21 25 [.istore 4, .iload 4] [] [] [(4, .int r4), (0, .ref 57), (1, .int x1), (2, .int x2), (3, .int x3)] [.int r4] h [] (by decide +kernel) rfl trivial ?_
        refine ri hG .le (21) 46 25 (by decide +kernel) (by decide) (fun c5 => ?_) (fun c5 => ?_)
        · have hO := ok_pos c5 hO
          refine rs hG [(0, .ref 57), (1, .int x1), (2, .int x2), (3, .int x3)] [1, 2, 3, 4] rfl ?_
          exact j46 x2 x3 hO
        · have hO := ok_neg c5 hO
          refine rb hG 5 28 30 [.iload 2, .ldc_w 0] [-1] [] [(4, .int r4), (0, .ref 57), (1, .int x1), (2, .int x2), (3, .int x3)] [.int (-1 : Int32), .int x2] h [] (by decide +kernel) rfl trivial ?_
          refine rj hG .eq (14) 44 30 (by decide +kernel) (by decide) (fun c6 => ?_) (fun c6 => ?_)
          · have hO := ok_pos c6 hO
            refine rs hG [(0, .ref 57), (1, .int x1), (3, .int x3)] [1, 2, 4] rfl ?_
            exact j44 x3 hO
          · have hO := ok_neg c6 hO
            refine rb hG 7 33 38 [.iload 4, .aload 0, .iload 1, .iload 2] [] [] [(4, .int r4), (0, .ref 57), (1, .int x1), (2, .int x2), (3, .int x3)] [.int x2, .int x1, .ref 57, .int r4] h [] (by decide +kernel) rfl trivial ?_
            refine rv hG z_S_debtOf 207 2 38 57 [.int x1, .int x2] [.int r4] (by decide +kernel) mk_S_debtOf lk_7_207 rcv_57 rfl ⟨rfl, Nat.le_of_ble_eq_true rfl⟩ (c_S_debtOf (d := d) h x1 x2 (ok_bind hO)) ?_
            rintro _ _ ⟨r7, rfl, rfl, hO⟩
            refine rj hG .le (5) 46 41 (by decide +kernel) (by decide) (fun c8 => ?_) (fun c8 => ?_)
            · have hO := ok_pos c8 hO
              refine rs hG [(0, .ref 57), (1, .int x1), (2, .int x2), (3, .int x3)] [1, 2, 3, 4] rfl ?_
              exact j46 x2 x3 hO
            · have hO := ok_neg c8 hO
              refine rs hG [(0, .ref 57), (1, .int x1), (3, .int x3)] [1, 2, 4] rfl ?_
              exact j44 x3 hO
    rw [eH4] at w9
    exact w9
  refine rb hG 7 0 4 [.ldc_w 0, .istore 2, .ldc_w 1, .istore 3] [-1, 0] [] [(3, .int (0 : Int32)), (2, .int (-1 : Int32)), (0, .ref 57), (1, .int x1)] [] h [] (by decide +kernel) rfl trivial ?_
  refine rs hG [(0, .ref 57), (1, .int x1), (2, .int (-1 : Int32)), (3, .int (0 : Int32))] [2, 3, 1, 0] rfl ?_
  exact l4 (-1 : Int32) (0 : Int32) hO
/-! GrainInn.State.followDebts(I)V -/
noncomputable def S_followDebts_j70 (h : Hp) : Option Hp := some h
noncomputable def S_followDebts_b17 (x2 : Int32) (x3 : Int32) (x4 : Int32) (h : Hp) : Option ((Int32 × Int32 × Int32 × Hp) ⊕ Hp) := if (8 : Int32) ≤ x4 then (((S_followDebts_j70 h).map Sum.inr)) else (if x3 = (-1 : Int32) then (((S_followDebts_j70 h).map Sum.inr)) else ((K_isIn x2 x3).bind fun r3 => if r3 = 0 then (bnd ((x2 ||| (sh (1 : Int32) x3))) fun y5 => bnd (wr h 57 11 x3) fun h6 => bnd (wr h6 57 10 ((h6.1 57 10) + (1 : Int32))) fun h7 => (S_creditorOf h7 x3).bind fun r8 => bnd ((x4 + (1 : Int32))) fun y9 => some (.inl (y5, r8, y9, h7))) else (((S_followDebts_j70 h).map Sum.inr))))
noncomputable def S_followDebts_l17 (x2 : Int32) (x3 : Int32) (x4 : Int32) (h : Hp) : Option Hp := lp (fun s : (Int32 × Int32 × Int32 × Hp) => S_followDebts_b17 s.1 s.2.1 s.2.2.1 s.2.2.2) (x2, x3, x4, h)
theorem S_followDebts_l17_eq (x2 : Int32) (x3 : Int32) (x4 : Int32) (h : Hp) : S_followDebts_l17 x2 x3 x4 h = (S_followDebts_b17 x2 x3 x4 h).bind (Sum.elim (fun q : (Int32 × Int32 × Int32 × Hp) => S_followDebts_l17 q.1 q.2.1 q.2.2.1 q.2.2.2) some) := lp_eq _ _
noncomputable def S_followDebts (h : Hp) (x1 : Int32) : Option Hp := bnd (wr h 57 10 (0 : Int32)) fun h10 => bnd (wr h10 57 11 (-1 : Int32)) fun h11 => (S_followDebts_l17 (0 : Int32) x1 (0 : Int32) h11)
set_option maxRecDepth 100000 in
set_option maxHeartbeats 4000000 in
theorem c_S_followDebts {E : En} {d : Nat} (h : Hp) (x1 : Int32) {P : Hp → Prop} (hO : Okk (S_followDebts h x1) P) : Cn E (d + 4) z_S_followDebts [.ref 57, .int x1] h (RV P) := by
  refine cn_of (on := 7) (d := d + 3) ⟨rfl, by decide +kernel, Nat.le_of_ble_eq_true rfl⟩ (fun G hG => ?_)
  unfold S_followDebts at hO
  show G 0 [(0, .ref 57), (1, .int x1)] [] h
  have j70 : ∀ (h : Hp), Okk (S_followDebts_j70 h) P → G 70 [] [] h := by
    intro h hO
    unfold S_followDebts_j70 at hO
    exact eV hG 70 (by decide +kernel) rfl ⟨rfl, ok_some (Q := P) hO⟩
  have l17 : ∀ (x2 : Int32) (x3 : Int32) (x4 : Int32) (h : Hp), Okk (S_followDebts_l17 x2 x3 x4 h) P → G 17 [(0, .ref 57), (2, .int x2), (3, .int x3), (4, .int x4)] [] h := by
    intro x2 x3 x4 h hO
    obtain ⟨H17, eH17⟩ : ∃ q : (Int32 × Int32 × Int32 × Hp) → Prop, q = fun s => G 17 [(0, .ref 57), (2, .int (s.1)), (3, .int (s.2.1)), (4, .int (s.2.2.1))] [] (s.2.2.2) := ⟨_, rfl⟩
    have w9 : H17 (x2, x3, x4, h) := by
      refine lp_wp (f := fun s : (Int32 × Int32 × Int32 × Hp) => S_followDebts_b17 s.1 s.2.1 s.2.2.1 s.2.2.2) (H := H17) (Q := P) ?_ (x2, x3, x4, h) hO
      rintro ⟨x2, x3, x4, h⟩ hO
      rw [eH17]
      show G 17 [(0, .ref 57), (2, .int x2), (3, .int x3), (4, .int x4)] [] h
      have k17 : ∀ s : (Int32 × Int32 × Int32 × Hp), H17 s → G 17 [(0, .ref 57), (2, .int (s.1)), (3, .int (s.2.1)), (4, .int (s.2.2.1))] [] (s.2.2.2) := fun s q => by rw [eH17] at q; exact q
      replace hO : Okk (S_followDebts_b17 x2 x3 x4 h) (Sum.elim H17 P) := hO
      clear eH17
      unfold S_followDebts_b17 at hO
      refine rb hG 5 17 21 [.iload 4, .ldc_w 0] [8] [] [(0, .ref 57), (2, .int x2), (3, .int x3), (4, .int x4)] [.int (8 : Int32), .int x4] h [] (by decide +kernel) rfl trivial ?_
      refine rj hG .ge (49) 70 21 (by decide +kernel) (by decide) (fun c1 => ?_) (fun c1 => ?_)
      · have hO := ok_pos c1 hO
        refine rs hG [] [] rfl ?_
        exact j70 h (ok_inr hO)
      · have hO := ok_neg c1 hO
        refine rb hG 5 24 26 [.iload 3, .ldc_w 0] [-1] [] [(0, .ref 57), (2, .int x2), (3, .int x3), (4, .int x4)] [.int (-1 : Int32), .int x3] h [] (by decide +kernel) rfl trivial ?_
        refine rj hG .eq (44) 70 26 (by decide +kernel) (by decide) (fun c2 => ?_) (fun c2 => ?_)
        · have hO := ok_pos c2 hO
          refine rs hG [] [] rfl ?_
          exact j70 h (ok_inr hO)
        · have hO := ok_neg c2 hO
          refine rb hG 5 29 31 [.iload 2, .iload 3] [] [] [(0, .ref 57), (2, .int x2), (3, .int x3), (4, .int x4)] [.int x3, .int x2] h [] (by decide +kernel) rfl trivial ?_
          refine rt hG z_K_isIn 73 2 31 [.int x2, .int x3] [] (by decide +kernel) mk_K_isIn lk_7_73 rfl ⟨rfl, Nat.le_of_ble_eq_true rfl⟩ (c_K_isIn (d := d + 2) h x2 x3 (ok_bind hO)) ?_
          rintro _ _ ⟨r3, rfl, rfl, hO⟩
          refine riN hG (36) 70 34 (by decide +kernel) (by decide) (fun c4 => ?_) (fun c4 => ?_)
          · have hO := ok_pos c4 hO
            refine rbx hG 9 37 43 [.iload 2, .ldc_w 0, .iload 3, .ishl, .ior, .istore 2] [1] [] ((x2 ||| (sh (1 : Int32) x3))) (fun y5 => [(2, .int y5), (0, .ref 57), (3, .int x3), (4, .int x4)]) (fun y5 => []) (fun y5 => h) [] (by decide +kernel) rfl trivial hO (fun y5 hO => ?_)
            refine rbx hG 6 43 48 [.aload 0, .iload 3, .putfield 711] [] [] (wr h 57 11 x3) (fun h6 => [(2, .int y5), (0, .ref 57), (3, .int x3), (4, .int x4)]) (fun h6 => []) (fun h6 => h6) [kd 57 = 7] (by decide +kernel) rfl kd_57 hO (fun h6 hO => ?_)
            refine rbx hG 9 48 58 [.aload 0, .dup, .getfield 710, .ldc_w 0, .iadd, .putfield 710] [1] [] (wr h6 57 10 ((h6.1 57 10) + (1 : Int32))) (fun h7 => [(2, .int y5), (0, .ref 57), (3, .int x3), (4, .int x4)]) (fun h7 => []) (fun h7 => h7) [kd 57 = 7, kd 57 = 7] (by decide +kernel) rfl ⟨kd_57, kd_57⟩ hO (fun h7 hO => ?_)
            refine rb hG 5 58 60 [.aload 0, .iload 3] [] [] [(2, .int y5), (0, .ref 57), (3, .int x3), (4, .int x4)] [.int x3, .ref 57] h7 [] (by decide +kernel) rfl trivial ?_
            refine rv hG z_S_creditorOf 210 1 60 57 [.int x3] [] (by decide +kernel) mk_S_creditorOf lk_7_210 rcv_57 rfl ⟨rfl, Nat.le_of_ble_eq_true rfl⟩ (c_S_creditorOf (d := d) h7 x3 (ok_bind hO)) ?_
            rintro _ _ ⟨r8, rfl, rfl, hO⟩
            refine rbx hG 5 63 67 [.istore 3, .iinc 4 0] [1] [] ((x4 + (1 : Int32))) (fun y9 => [(4, .int y9), (3, .int r8), (2, .int y5), (0, .ref 57)]) (fun y9 => []) (fun y9 => h7) [] (by decide +kernel) rfl trivial hO (fun y9 hO => ?_)
            refine rb hG 4 67 17 [] [] [] [(4, .int y9), (3, .int r8), (2, .int y5), (0, .ref 57)] [] h7 [] (by decide +kernel) rfl trivial ?_
            refine rs hG [(0, .ref 57), (2, .int y5), (3, .int r8), (4, .int y9)] [3, 2, 1, 0] rfl ?_
            exact k17 (y5, r8, y9, h7) (ok_some (Q := (Sum.elim H17 P)) hO)
          · have hO := ok_neg c4 hO
            refine rs hG [] [] rfl ?_
            exact j70 h (ok_inr hO)
    rw [eH17] at w9
    exact w9
  refine rbx hG 10 0 9 [.ldc_w 0, .istore 2, .iload 1, .istore 3, .aload 0, .ldc_w 0, .putfield 710] [0] [] (wr h 57 10 (0 : Int32)) (fun h10 => [(3, .int x1), (2, .int (0 : Int32)), (0, .ref 57), (1, .int x1)]) (fun h10 => []) (fun h10 => h10) [kd 57 = 7] (by decide +kernel) rfl kd_57 hO (fun h10 hO => ?_)
  refine rbx hG 6 9 14 [.aload 0, .ldc_w 0, .putfield 711] [-1] [] (wr h10 57 11 (-1 : Int32)) (fun h11 => [(3, .int x1), (2, .int (0 : Int32)), (0, .ref 57), (1, .int x1)]) (fun h11 => []) (fun h11 => h11) [kd 57 = 7] (by decide +kernel) rfl kd_57 hO (fun h11 hO => ?_)
  refine rb hG 5 14 17 [.ldc_w 0, .istore 4] [0] [] [(4, .int (0 : Int32)), (3, .int x1), (2, .int (0 : Int32)), (0, .ref 57), (1, .int x1)] [] h11 [] (by decide +kernel) rfl trivial ?_
  refine rs hG [(0, .ref 57), (2, .int (0 : Int32)), (3, .int x1), (4, .int (0 : Int32))] [3, 2, 1, 0] rfl ?_
  exact l17 (0 : Int32) x1 (0 : Int32) h11 hO
/-! GrainInn.guest(IIIII)I -/
noncomputable def K_guest_j27 (h : Hp) : Option (Int32 × Hp) := some ((-1000000 : Int32), h)
noncomputable def K_guest_j165 (s0 : Int32) (h : Hp) : Option (Int32 × Hp) := some (s0, h)
noncomputable def K_guest (h : Hp) (x1 : Int32) (x2 : Int32) (x3 : Int32) (x4 : Int32) (x5 : Int32) : Option (Int32 × Hp) := (K_reach h x1 x2 x3).bind fun (r1, h2) => if r1 = 0 then ((K_guest_j27 h2)) else (if r1 = 57 then (if kd (Int32.toNatClampNeg (h2.1 57 6)) = 1 then ((H_hasGuest h2 (Int32.toNatClampNeg (h2.1 57 6)) x4).bind fun r6 => if r6 = 0 then ((K_guest_j27 h2)) else (if x5 = (0 : Int32) then ((S_heardBy h2 x4).bind fun r9 => some (r9, h2)) else (if x5 = (1 : Int32) then ((S_paidBy h2 x4).bind fun r11 => some (r11, h2)) else (if x5 = (2 : Int32) then ((S_tableOf h2 x4).bind fun r13 => some (r13, h2)) else (if x5 = (3 : Int32) then ((S_netOf h2 x4).bind fun r15 => some (r15, h2)) else (if x5 = (4 : Int32) then ((S_followDebts h2 x4).bind fun h17 => some ((h17.1 57 10), h17)) else (if x5 = (5 : Int32) then ((S_followDebts h2 x4).bind fun h19 => some ((h19.1 57 11), h19)) else ((K_isOf x5 (10 : Int32) (h2.1 (Int32.toNatClampNeg (h2.1 57 6)) 6)).bind fun r20 => if r20 = 0 then ((K_guest_j165 (-1000000 : Int32) h2)) else ((S_debtOf h2 x4 (x5 - (10 : Int32))).bind fun r22 => (K_guest_j165 r22 h2)))))))))) else none) else none)
set_option maxRecDepth 100000 in
set_option maxHeartbeats 4000000 in
theorem c_K_guest {E : En} {d : Nat} (h : Hp) (x1 : Int32) (x2 : Int32) (x3 : Int32) (x4 : Int32) (x5 : Int32) {P : (Int32 × Hp) → Prop} (hO : Okk (K_guest h x1 x2 x3 x4 x5) P) : Cn E (d + 8) z_K_guest [.ref 1, .int x1, .int x2, .int x3, .int x4, .int x5] h (RI P) := by
  refine cn_of (on := 11) (d := d + 7) ⟨rfl, by decide +kernel, Nat.le_of_ble_eq_true rfl⟩ (fun G hG => ?_)
  unfold K_guest at hO
  show G 0 [(0, .ref 1), (1, .int x1), (2, .int x2), (3, .int x3), (4, .int x4), (5, .int x5)] [] h
  have j27 : ∀ (h : Hp), Okk (K_guest_j27 h) P → G 27 [] [] h := by
    intro h hO
    unfold K_guest_j27 at hO
    refine rb hG 4 27 29 [.ldc_w 0] [-1000000] [] [] [.int (-1000000 : Int32)] h [] (by decide +kernel) rfl trivial ?_
    exact eI hG 29 (by decide +kernel) rfl ⟨(-1000000 : Int32), rfl, ok_some (Q := P) hO⟩
  have j165 : ∀ (s0 : Int32) (h : Hp), Okk (K_guest_j165 s0 h) P → G 165 [] [.int s0] h := by
    intro s0 h hO
    unfold K_guest_j165 at hO
    exact eI hG 165 (by decide +kernel) rfl ⟨s0, rfl, ok_some (Q := P) hO⟩
  refine rb hG 7 0 4 [.aload 0, .iload 1, .iload 2, .iload 3] [] [] [(0, .ref 1), (1, .int x1), (2, .int x2), (3, .int x3), (4, .int x4), (5, .int x5)] [.int x3, .int x2, .int x1, .ref 1] h [] (by decide +kernel) rfl trivial ?_
  refine rv hG z_K_reach 155 3 4 1 [.int x1, .int x2, .int x3] [] (by decide +kernel) mk_K_reach lk_11_155 rcv_1 rfl ⟨rfl, Nat.le_of_ble_eq_true rfl⟩ (c_K_reach (d := d) h x1 x2 x3 (ok_bind hO)) ?_
  rintro _ h2 ⟨r1, rfl, hO⟩
  refine rb hG 5 7 11 [.astore 6, .aload 6] [] [] [(6, .ref r1), (0, .ref 1), (1, .int x1), (2, .int x2), (3, .int x3), (4, .int x4), (5, .int x5)] [.ref r1] h2 [] (by decide +kernel) rfl trivial ?_
  refine rn hG (16) 27 11 (by decide +kernel) (by decide) (fun c3 => ?_) (fun c3 => ?_)
  · have hO := ok_pos c3 hO
    refine rs hG [] [] rfl ?_
    exact j27 h2 hO
  · have hO := ok_neg c3 hO
    obtain ⟨g4, hOg4⟩ := ok_if hO
    subst g4
    have hO := hOg4
    obtain ⟨g5, hO⟩ := ok_if hO
    refine rb hG 6 14 21 [.aload 6, .instanceof 706, .iload 4] [] [] [(6, .ref 57), (0, .ref 1), (1, .int x1), (2, .int x2), (3, .int x3), (4, .int x4), (5, .int x5)] [.int x4, .ref (Int32.toNatClampNeg (h2.1 57 6))] h2 [kd 57 = 7] (by decide +kernel) rfl kd_57 ?_
    refine rv hG z_H_hasGuest 183 1 21 (Int32.toNatClampNeg (h2.1 57 6)) [.int x4] [] (by decide +kernel) mk_H_hasGuest lk_11_183 (rcv_H g5) rfl ⟨rfl, Nat.le_of_ble_eq_true rfl⟩ (c_H_hasGuest (d := d + 6) h2 (Int32.toNatClampNeg (h2.1 57 6)) x4 (ok_bind hO)) ?_
    rintro _ _ ⟨r6, rfl, rfl, hO⟩
    refine riN hG (6) 30 24 (by decide +kernel) (by decide) (fun c7 => ?_) (fun c7 => ?_)
    · have hO := ok_pos c7 hO
      refine rs hG [] [] rfl ?_
      exact j27 h2 hO
    · have hO := ok_neg c7 hO
      refine rb hG 4 30 32 [.iload 5] [] [] [(6, .ref 57), (0, .ref 1), (1, .int x1), (2, .int x2), (3, .int x3), (4, .int x4), (5, .int x5)] [.int x5] h2 [] (by decide +kernel) rfl trivial ?_
      refine rw9 hG (98) (0) (5) #[(40), (48), (56), (64), (72), (85)] 40 32 [72, 80, 88, 96, 104, 117] 130 (by decide +kernel) (by decide +kernel) ?_
      refine sw_c (0 : Int32) (by decide) (fun c8 => ?_) (fun c8 => ?_)
      · have hO := ok_pos c8 hO
        refine rb hG 5 72 76 [.aload 6, .iload 4] [] [] [(6, .ref 57), (0, .ref 1), (1, .int x1), (2, .int x2), (3, .int x3), (4, .int x4), (5, .int x5)] [.int x4, .ref 57] h2 [] (by decide +kernel) rfl trivial ?_
        refine rv hG z_S_heardBy 188 1 76 57 [.int x4] [] (by decide +kernel) mk_S_heardBy lk_11_188 rcv_57 rfl ⟨rfl, Nat.le_of_ble_eq_true rfl⟩ (c_S_heardBy (d := d + 5) h2 x4 (ok_bind hO)) ?_
        rintro _ _ ⟨r9, rfl, rfl, hO⟩
        exact eI hG 79 (by decide +kernel) rfl ⟨r9, rfl, ok_some (Q := P) hO⟩
      have hO := ok_neg c8 hO
      refine sw_c (1 : Int32) (by decide) (fun c10 => ?_) (fun c10 => ?_)
      · have hO := ok_pos c10 hO
        refine rb hG 5 80 84 [.aload 6, .iload 4] [] [] [(6, .ref 57), (0, .ref 1), (1, .int x1), (2, .int x2), (3, .int x3), (4, .int x4), (5, .int x5)] [.int x4, .ref 57] h2 [] (by decide +kernel) rfl trivial ?_
        refine rv hG z_S_paidBy 191 1 84 57 [.int x4] [] (by decide +kernel) mk_S_paidBy lk_11_191 rcv_57 rfl ⟨rfl, Nat.le_of_ble_eq_true rfl⟩ (c_S_paidBy (d := d + 5) h2 x4 (ok_bind hO)) ?_
        rintro _ _ ⟨r11, rfl, rfl, hO⟩
        exact eI hG 87 (by decide +kernel) rfl ⟨r11, rfl, ok_some (Q := P) hO⟩
      have hO := ok_neg c10 hO
      refine sw_c (2 : Int32) (by decide) (fun c12 => ?_) (fun c12 => ?_)
      · have hO := ok_pos c12 hO
        refine rb hG 5 88 92 [.aload 6, .iload 4] [] [] [(6, .ref 57), (0, .ref 1), (1, .int x1), (2, .int x2), (3, .int x3), (4, .int x4), (5, .int x5)] [.int x4, .ref 57] h2 [] (by decide +kernel) rfl trivial ?_
        refine rv hG z_S_tableOf 194 1 92 57 [.int x4] [] (by decide +kernel) mk_S_tableOf lk_11_194 rcv_57 rfl ⟨rfl, Nat.le_of_ble_eq_true rfl⟩ (c_S_tableOf (d := d + 5) h2 x4 (ok_bind hO)) ?_
        rintro _ _ ⟨r13, rfl, rfl, hO⟩
        exact eI hG 95 (by decide +kernel) rfl ⟨r13, rfl, ok_some (Q := P) hO⟩
      have hO := ok_neg c12 hO
      refine sw_c (3 : Int32) (by decide) (fun c14 => ?_) (fun c14 => ?_)
      · have hO := ok_pos c14 hO
        refine rb hG 5 96 100 [.aload 6, .iload 4] [] [] [(6, .ref 57), (0, .ref 1), (1, .int x1), (2, .int x2), (3, .int x3), (4, .int x4), (5, .int x5)] [.int x4, .ref 57] h2 [] (by decide +kernel) rfl trivial ?_
        refine rv hG z_S_netOf 197 1 100 57 [.int x4] [] (by decide +kernel) mk_S_netOf lk_11_197 rcv_57 rfl ⟨rfl, Nat.le_of_ble_eq_true rfl⟩ (c_S_netOf (d := d + 4) h2 x4 (ok_bind hO)) ?_
        rintro _ _ ⟨r15, rfl, rfl, hO⟩
        exact eI hG 103 (by decide +kernel) rfl ⟨r15, rfl, ok_some (Q := P) hO⟩
      have hO := ok_neg c14 hO
      refine sw_c (4 : Int32) (by decide) (fun c16 => ?_) (fun c16 => ?_)
      · have hO := ok_pos c16 hO
        refine rb hG 5 104 108 [.aload 6, .iload 4] [] [] [(6, .ref 57), (0, .ref 1), (1, .int x1), (2, .int x2), (3, .int x3), (4, .int x4), (5, .int x5)] [.int x4, .ref 57] h2 [] (by decide +kernel) rfl trivial ?_
        refine rv hG z_S_followDebts 200 1 108 57 [.int x4] [] (by decide +kernel) mk_S_followDebts lk_11_200 rcv_57 rfl ⟨rfl, Nat.le_of_ble_eq_true rfl⟩ (c_S_followDebts (d := d + 3) h2 x4 (ok_bind hO)) ?_
        rintro _ h17 ⟨rfl, hO⟩
        refine rb hG 5 111 116 [.aload 6, .getfield 710] [] [] [(6, .ref 57), (0, .ref 1), (1, .int x1), (2, .int x2), (3, .int x3), (4, .int x4), (5, .int x5)] [.int (h17.1 57 10)] h17 [kd 57 = 7] (by decide +kernel) rfl kd_57 ?_
        exact eI hG 116 (by decide +kernel) rfl ⟨(h17.1 57 10), rfl, ok_some (Q := P) hO⟩
      have hO := ok_neg c16 hO
      refine sw_c (5 : Int32) (by decide) (fun c18 => ?_) (fun c18 => ?_)
      · have hO := ok_pos c18 hO
        refine rb hG 5 117 121 [.aload 6, .iload 4] [] [] [(6, .ref 57), (0, .ref 1), (1, .int x1), (2, .int x2), (3, .int x3), (4, .int x4), (5, .int x5)] [.int x4, .ref 57] h2 [] (by decide +kernel) rfl trivial ?_
        refine rv hG z_S_followDebts 200 1 121 57 [.int x4] [] (by decide +kernel) mk_S_followDebts lk_11_200 rcv_57 rfl ⟨rfl, Nat.le_of_ble_eq_true rfl⟩ (c_S_followDebts (d := d + 3) h2 x4 (ok_bind hO)) ?_
        rintro _ h19 ⟨rfl, hO⟩
        refine rb hG 5 124 129 [.aload 6, .getfield 711] [] [] [(6, .ref 57), (0, .ref 1), (1, .int x1), (2, .int x2), (3, .int x3), (4, .int x4), (5, .int x5)] [.int (h19.1 57 11)] h19 [kd 57 = 7] (by decide +kernel) rfl kd_57 ?_
        exact eI hG 129 (by decide +kernel) rfl ⟨(h19.1 57 11), rfl, ok_some (Q := P) hO⟩
      have hO := ok_neg c18 hO
      show G 130 _ _ _
      refine rb hG 8 130 142 [.iload 5, .ldc_w 0, .aload 6, .instanceof 706, .getfield 106] [10] [] [(6, .ref 57), (0, .ref 1), (1, .int x1), (2, .int x2), (3, .int x3), (4, .int x4), (5, .int x5)] [.int (h2.1 (Int32.toNatClampNeg (h2.1 57 6)) 6), .int (10 : Int32), .int x5] h2 [kd 57 = 7, kd (Int32.toNatClampNeg (h2.1 57 6)) = 1] (by decide +kernel) rfl ⟨kd_57, g5⟩ ?_
      refine rt hG z_K_isOf 119 3 142 [.int x5, .int (10 : Int32), .int (h2.1 (Int32.toNatClampNeg (h2.1 57 6)) 6)] [] (by decide +kernel) mk_K_isOf lk_11_119 rfl ⟨rfl, Nat.le_of_ble_eq_true rfl⟩ (c_K_isOf (d := d + 6) h2 x5 (10 : Int32) (h2.1 (Int32.toNatClampNeg (h2.1 57 6)) 6) (ok_bind hO)) ?_
      rintro _ _ ⟨r20, rfl, rfl, hO⟩
      refine ri hG .eq (18) 163 145 (by decide +kernel) (by decide) (fun c21 => ?_) (fun c21 => ?_)
      · have hO := ok_pos c21 hO
        refine rb hG 4 163 165 [.ldc_w 0] [-1000000] [] [(6, .ref 57), (0, .ref 1), (1, .int x1), (2, .int x2), (3, .int x3), (4, .int x4), (5, .int x5)] [.int (-1000000 : Int32)] h2 [] (by decide +kernel) rfl trivial ?_
        refine rs hG [] [] rfl ?_
        exact j165 (-1000000 : Int32) h2 hO
      · have hO := ok_neg c21 hO
        refine rb hG 8 148 157 [.aload 6, .iload 4, .iload 5, .ldc_w 0, .isub] [10] [] [(6, .ref 57), (0, .ref 1), (1, .int x1), (2, .int x2), (3, .int x3), (4, .int x4), (5, .int x5)] [.int (x5 - (10 : Int32)), .int x4, .ref 57] h2 [] (by decide +kernel) rfl trivial ?_
        refine rv hG z_S_debtOf 209 2 157 57 [.int x4, .int (x5 - (10 : Int32))] [] (by decide +kernel) mk_S_debtOf lk_11_209 rcv_57 rfl ⟨rfl, Nat.le_of_ble_eq_true rfl⟩ (c_S_debtOf (d := d + 5) h2 x4 (x5 - (10 : Int32)) (ok_bind hO)) ?_
        rintro _ _ ⟨r22, rfl, rfl, hO⟩
        refine rb hG 4 160 165 [] [] [] [(6, .ref 57), (0, .ref 1), (1, .int x1), (2, .int x2), (3, .int x3), (4, .int x4), (5, .int x5)] [.int r22] h2 [] (by decide +kernel) rfl trivial ?_
        refine rs hG [] [] rfl ?_
        exact j165 r22 h2 hO
/-! GrainInnModel.owesMost(I)I -/
noncomputable def M_owesMost_j63 (x2 : Int32) (h : Hp) : Option Int32 := some x2
noncomputable def M_owesMost_j56 (x1 : Int32) (x3 : Int32) (s0 : Int32) (h : Hp) : Option ((Int32 × Int32) ⊕ Int32) := bnd ((x3 + (1 : Int32))) fun y1 => some (.inl (s0, y1))
noncomputable def M_owesMost_j55 (x1 : Int32) (x2 : Int32) (x3 : Int32) (h : Hp) : Option ((Int32 × Int32) ⊕ Int32) := (M_owesMost_j56 x1 x3 x2 h)
noncomputable def M_owesMost_j51 (x1 : Int32) (x3 : Int32) (h : Hp) : Option ((Int32 × Int32) ⊕ Int32) := (M_owesMost_j56 x1 x3 x3 h)
noncomputable def M_owesMost_b4 (x1 : Int32) (x2 : Int32) (x3 : Int32) (h : Hp) : Option ((Int32 × Int32) ⊕ Int32) := if (h.1 251 25) ≤ x3 then (((M_owesMost_j63 x2 h).map Sum.inr)) else (if inb (((8 : Int32) * x1) + x3) (ln 272) then (bnd ((h.1 272 (Int32.toNatClampNeg (((8 : Int32) * x1) + x3)))) fun y4 => if y4 ≤ 0 then ((M_owesMost_j55 x1 x2 x3 h)) else (if x2 = (-1 : Int32) then ((M_owesMost_j51 x1 x3 h)) else (if inb (((8 : Int32) * x1) + x2) (ln 272) then (if y4 ≤ (h.1 272 (Int32.toNatClampNeg (((8 : Int32) * x1) + x2))) then ((M_owesMost_j55 x1 x2 x3 h)) else ((M_owesMost_j51 x1 x3 h))) else none))) else none)
noncomputable def M_owesMost_l4 (x1 : Int32) (x2 : Int32) (x3 : Int32) (h : Hp) : Option Int32 := lp (fun s : (Int32 × Int32) => M_owesMost_b4 x1 s.1 s.2 h) (x2, x3)
theorem M_owesMost_l4_eq (x1 : Int32) (x2 : Int32) (x3 : Int32) (h : Hp) : M_owesMost_l4 x1 x2 x3 h = (M_owesMost_b4 x1 x2 x3 h).bind (Sum.elim (fun q : (Int32 × Int32) => M_owesMost_l4 x1 q.1 q.2 h) some) := lp_eq _ _
noncomputable def M_owesMost (h : Hp) (x1 : Int32) : Option Int32 := (M_owesMost_l4 x1 (-1 : Int32) (0 : Int32) h)
set_option maxRecDepth 100000 in
set_option maxHeartbeats 4000000 in
theorem c_M_owesMost {E : En} {d : Nat} (h : Hp) (x1 : Int32) {P : Int32 → Prop} (hO : Okk (M_owesMost h x1) P) : Cn E (d + 1) z_M_owesMost [.ref 251, .int x1] h (RIp h P) := by
  refine cn_of (on := 12) (d := d + 0) ⟨rfl, by decide +kernel, Nat.le_of_ble_eq_true rfl⟩ (fun G hG => ?_)
  unfold M_owesMost at hO
  show G 0 [(0, .ref 251), (1, .int x1)] [] h
  have j63 : ∀ (x2 : Int32), Okk (M_owesMost_j63 x2 h) P → G 63 [(2, .int x2)] [] h := by
    intro x2 hO
    unfold M_owesMost_j63 at hO
    refine rb hG 4 63 64 [.iload 2] [] [] [(2, .int x2)] [.int x2] h [] (by decide +kernel) rfl trivial ?_
    exact eI hG 64 (by decide +kernel) rfl ⟨x2, rfl, rfl, ok_some (Q := P) hO⟩
  have l4 : ∀ (x2 : Int32) (x3 : Int32), Okk (M_owesMost_l4 x1 x2 x3 h) P → G 4 [(0, .ref 251), (1, .int x1), (2, .int x2), (3, .int x3)] [] h := by
    intro x2 x3 hO
    obtain ⟨H4, eH4⟩ : ∃ q : (Int32 × Int32) → Prop, q = fun s => G 4 [(0, .ref 251), (1, .int x1), (2, .int (s.1)), (3, .int (s.2))] [] (h) := ⟨_, rfl⟩
    have w9 : H4 (x2, x3) := by
      refine lp_wp (f := fun s : (Int32 × Int32) => M_owesMost_b4 x1 s.1 s.2 h) (H := H4) (Q := P) ?_ (x2, x3) hO
      rintro ⟨x2, x3⟩ hO
      rw [eH4]
      show G 4 [(0, .ref 251), (1, .int x1), (2, .int x2), (3, .int x3)] [] h
      have k4 : ∀ s : (Int32 × Int32), H4 s → G 4 [(0, .ref 251), (1, .int x1), (2, .int (s.1)), (3, .int (s.2))] [] (h) := fun s q => by rw [eH4] at q; exact q
      replace hO : Okk (M_owesMost_b4 x1 x2 x3 h) (Sum.elim H4 P) := hO
      clear eH4
      have j56 : ∀ (x3 : Int32) (s0 : Int32), Okk (M_owesMost_j56 x1 x3 s0 h) (Sum.elim H4 P) → G 56 [(0, .ref 251), (1, .int x1), (3, .int x3)] [.int s0] h := by
        intro x3 s0 hO
        unfold M_owesMost_j56 at hO
        refine rbx hG 5 56 60 [.istore 2, .iinc 3 0] [1] [] ((x3 + (1 : Int32))) (fun y1 => [(3, .int y1), (2, .int s0), (0, .ref 251), (1, .int x1)]) (fun y1 => []) (fun y1 => h) [] (by decide +kernel) rfl trivial hO (fun y1 hO => ?_)
        refine rb hG 4 60 4 [] [] [] [(3, .int y1), (2, .int s0), (0, .ref 251), (1, .int x1)] [] h [] (by decide +kernel) rfl trivial ?_
        refine rs hG [(0, .ref 251), (1, .int x1), (2, .int s0), (3, .int y1)] [2, 3, 1, 0] rfl ?_
        exact k4 (s0, y1) (ok_some (Q := (Sum.elim H4 P)) hO)
      have j55 : ∀ (x2 : Int32) (x3 : Int32), Okk (M_owesMost_j55 x1 x2 x3 h) (Sum.elim H4 P) → G 55 [(0, .ref 251), (1, .int x1), (2, .int x2), (3, .int x3)] [] h := by
        intro x2 x3 hO
        unfold M_owesMost_j55 at hO
        refine rb hG 4 55 56 [.iload 2] [] [] [(0, .ref 251), (1, .int x1), (2, .int x2), (3, .int x3)] [.int x2] h [] (by decide +kernel) rfl trivial ?_
        refine rs hG [(0, .ref 251), (1, .int x1), (3, .int x3)] [0, 1, 3] rfl ?_
        exact j56 x3 x2 hO
      have j51 : ∀ (x3 : Int32), Okk (M_owesMost_j51 x1 x3 h) (Sum.elim H4 P) → G 51 [(0, .ref 251), (1, .int x1), (3, .int x3)] [] h := by
        intro x3 hO
        unfold M_owesMost_j51 at hO
        refine rb hG 5 51 56 [.iload 3] [] [] [(0, .ref 251), (1, .int x1), (3, .int x3)] [.int x3] h [] (by decide +kernel) rfl trivial ?_
        exact j56 x3 x3 hO
      unfold M_owesMost_b4 at hO
      refine rb hG 6 4 9 [.iload 3, .aload 0, .getfield 1225] [] [] [(0, .ref 251), (1, .int x1), (2, .int x2), (3, .int x3)] [.int (h.1 251 25), .int x3] h [kd 251 = 12] (by decide +kernel) rfl kd_251 ?_
      refine rj hG .ge (54) 63 9 (by decide +kernel) (by decide) (fun c2 => ?_) (fun c2 => ?_)
      · have hO := ok_pos c2 hO
        refine rs hG [(2, .int x2)] [2] rfl ?_
        exact j63 x2 (ok_inr hO)
      · have hO := ok_neg c2 hO
        obtain ⟨g3, hO⟩ := ok_if hO
        refine rbx hG 12 12 25 [.aload 0, .invokeinterface 1236 21, .ldc_w 0, .iload 1, .imul, .iload 3, .iadd, .iaload, .istore 4] [8] [] ((h.1 272 (Int32.toNatClampNeg (((8 : Int32) * x1) + x3)))) (fun y4 => [(4, .int y4), (0, .ref 251), (1, .int x1), (2, .int x2), (3, .int x3)]) (fun y4 => []) (fun y4 => h) [kd 251 = 12, kd 272 = 20 ∧ inb (((8 : Int32) * x1) + x3) (ln 272)] (by decide +kernel) rfl ⟨kd_251, ⟨kd_272, g3⟩⟩ hO (fun y4 hO => ?_)
        refine rb hG 4 25 27 [.iload 4] [] [] [(4, .int y4), (0, .ref 251), (1, .int x1), (2, .int x2), (3, .int x3)] [.int y4] h [] (by decide +kernel) rfl trivial ?_
        refine ri hG .le (28) 55 27 (by decide +kernel) (by decide) (fun c5 => ?_) (fun c5 => ?_)
        · have hO := ok_pos c5 hO
          refine rs hG [(0, .ref 251), (1, .int x1), (2, .int x2), (3, .int x3)] [1, 2, 3, 4] rfl ?_
          exact j55 x2 x3 hO
        · have hO := ok_neg c5 hO
          refine rb hG 5 30 32 [.iload 2, .ldc_w 0] [-1] [] [(4, .int y4), (0, .ref 251), (1, .int x1), (2, .int x2), (3, .int x3)] [.int (-1 : Int32), .int x2] h [] (by decide +kernel) rfl trivial ?_
          refine rj hG .eq (19) 51 32 (by decide +kernel) (by decide) (fun c6 => ?_) (fun c6 => ?_)
          · have hO := ok_pos c6 hO
            refine rs hG [(0, .ref 251), (1, .int x1), (3, .int x3)] [1, 2, 4] rfl ?_
            exact j51 x3 hO
          · have hO := ok_neg c6 hO
            obtain ⟨g7, hO⟩ := ok_if hO
            refine rb hG 12 35 48 [.iload 4, .aload 0, .invokeinterface 1236 21, .ldc_w 0, .iload 1, .imul, .iload 2, .iadd, .iaload] [8] [] [(4, .int y4), (0, .ref 251), (1, .int x1), (2, .int x2), (3, .int x3)] [.int (h.1 272 (Int32.toNatClampNeg (((8 : Int32) * x1) + x2))), .int y4] h [kd 251 = 12, kd 272 = 20 ∧ inb (((8 : Int32) * x1) + x2) (ln 272)] (by decide +kernel) rfl ⟨kd_251, ⟨kd_272, g7⟩⟩ ?_
            refine rj hG .le (7) 55 48 (by decide +kernel) (by decide) (fun c8 => ?_) (fun c8 => ?_)
            · have hO := ok_pos c8 hO
              refine rs hG [(0, .ref 251), (1, .int x1), (2, .int x2), (3, .int x3)] [1, 2, 3, 4] rfl ?_
              exact j55 x2 x3 hO
            · have hO := ok_neg c8 hO
              refine rs hG [(0, .ref 251), (1, .int x1), (3, .int x3)] [1, 2, 4] rfl ?_
              exact j51 x3 hO
    rw [eH4] at w9
    exact w9
  refine rb hG 7 0 4 [.ldc_w 0, .istore 2, .ldc_w 1, .istore 3] [-1, 0] [] [(3, .int (0 : Int32)), (2, .int (-1 : Int32)), (0, .ref 251), (1, .int x1)] [] h [] (by decide +kernel) rfl trivial ?_
  refine rs hG [(0, .ref 251), (1, .int x1), (2, .int (-1 : Int32)), (3, .int (0 : Int32))] [2, 3, 1, 0] rfl ?_
  exact l4 (-1 : Int32) (0 : Int32) hO
/-! GrainInnModel.chain(I)V -/
noncomputable def M_chain_j63 (h : Hp) : Option Hp := some h
noncomputable def M_chain_b20 (x2 : Int32) (x3 : Int32) (h : Hp) : Option ((Int32 × Int32 × Hp) ⊕ Hp) := if x3 = (-1 : Int32) then (((M_chain_j63 h).map Sum.inr)) else ((M_has x2 x3).bind fun r2 => if r2 = 0 then (bnd ((x2 ||| (sh (1 : Int32) x3))) fun y4 => bnd (wr h 251 41 ((h.1 251 41) + (1 : Int32))) fun h5 => bnd (wr h5 251 42 x3) fun h6 => (M_owesMost h6 x3).bind fun r7 => some (.inl (y4, r7, h6))) else (((M_chain_j63 h).map Sum.inr)))
noncomputable def M_chain_l20 (x2 : Int32) (x3 : Int32) (h : Hp) : Option Hp := lp (fun s : (Int32 × Int32 × Hp) => M_chain_b20 s.1 s.2.1 s.2.2) (x2, x3, h)
theorem M_chain_l20_eq (x2 : Int32) (x3 : Int32) (h : Hp) : M_chain_l20 x2 x3 h = (M_chain_b20 x2 x3 h).bind (Sum.elim (fun q : (Int32 × Int32 × Hp) => M_chain_l20 q.1 q.2.1 q.2.2) some) := lp_eq _ _
noncomputable def M_chain (h : Hp) (x1 : Int32) : Option Hp := bnd ((sh (1 : Int32) x1)) fun y8 => bnd (wr h 251 41 (1 : Int32)) fun h9 => bnd (wr h9 251 42 x1) fun h10 => (M_owesMost h10 x1).bind fun r11 => (M_chain_l20 y8 r11 h10)
set_option maxRecDepth 100000 in
set_option maxHeartbeats 4000000 in
theorem c_M_chain {E : En} {d : Nat} (h : Hp) (x1 : Int32) {P : Hp → Prop} (hO : Okk (M_chain h x1) P) : Cn E (d + 2) z_M_chain [.ref 251, .int x1] h (RV P) := by
  refine cn_of (on := 12) (d := d + 1) ⟨rfl, by decide +kernel, Nat.le_of_ble_eq_true rfl⟩ (fun G hG => ?_)
  unfold M_chain at hO
  show G 0 [(0, .ref 251), (1, .int x1)] [] h
  have j63 : ∀ (h : Hp), Okk (M_chain_j63 h) P → G 63 [] [] h := by
    intro h hO
    unfold M_chain_j63 at hO
    exact eV hG 63 (by decide +kernel) rfl ⟨rfl, ok_some (Q := P) hO⟩
  have l20 : ∀ (x2 : Int32) (x3 : Int32) (h : Hp), Okk (M_chain_l20 x2 x3 h) P → G 20 [(0, .ref 251), (2, .int x2), (3, .int x3)] [] h := by
    intro x2 x3 h hO
    obtain ⟨H20, eH20⟩ : ∃ q : (Int32 × Int32 × Hp) → Prop, q = fun s => G 20 [(0, .ref 251), (2, .int (s.1)), (3, .int (s.2.1))] [] (s.2.2) := ⟨_, rfl⟩
    have w9 : H20 (x2, x3, h) := by
      refine lp_wp (f := fun s : (Int32 × Int32 × Hp) => M_chain_b20 s.1 s.2.1 s.2.2) (H := H20) (Q := P) ?_ (x2, x3, h) hO
      rintro ⟨x2, x3, h⟩ hO
      rw [eH20]
      show G 20 [(0, .ref 251), (2, .int x2), (3, .int x3)] [] h
      have k20 : ∀ s : (Int32 × Int32 × Hp), H20 s → G 20 [(0, .ref 251), (2, .int (s.1)), (3, .int (s.2.1))] [] (s.2.2) := fun s q => by rw [eH20] at q; exact q
      replace hO : Okk (M_chain_b20 x2 x3 h) (Sum.elim H20 P) := hO
      clear eH20
      unfold M_chain_b20 at hO
      refine rb hG 5 20 22 [.iload 3, .ldc_w 0] [-1] [] [(0, .ref 251), (2, .int x2), (3, .int x3)] [.int (-1 : Int32), .int x3] h [] (by decide +kernel) rfl trivial ?_
      refine rj hG .eq (41) 63 22 (by decide +kernel) (by decide) (fun c1 => ?_) (fun c1 => ?_)
      · have hO := ok_pos c1 hO
        refine rs hG [] [] rfl ?_
        exact j63 h (ok_inr hO)
      · have hO := ok_neg c1 hO
        refine rb hG 5 25 27 [.iload 2, .iload 3] [] [] [(0, .ref 251), (2, .int x2), (3, .int x3)] [.int x3, .int x2] h [] (by decide +kernel) rfl trivial ?_
        refine rt hG z_M_has 103 2 27 [.int x2, .int x3] [] (by decide +kernel) mk_M_has lk_12_103 rfl ⟨rfl, Nat.le_of_ble_eq_true rfl⟩ (c_M_has (d := d) h x2 x3 (ok_bind hO)) ?_
        rintro _ _ ⟨r2, rfl, rfl, hO⟩
        refine riN hG (33) 63 30 (by decide +kernel) (by decide) (fun c3 => ?_) (fun c3 => ?_)
        · have hO := ok_pos c3 hO
          refine rbx hG 9 33 39 [.iload 2, .ldc_w 0, .iload 3, .ishl, .ior, .istore 2] [1] [] ((x2 ||| (sh (1 : Int32) x3))) (fun y4 => [(2, .int y4), (0, .ref 251), (3, .int x3)]) (fun y4 => []) (fun y4 => h) [] (by decide +kernel) rfl trivial hO (fun y4 hO => ?_)
          refine rbx hG 9 39 49 [.aload 0, .dup, .getfield 1241, .ldc_w 0, .iadd, .putfield 1241] [1] [] (wr h 251 41 ((h.1 251 41) + (1 : Int32))) (fun h5 => [(2, .int y4), (0, .ref 251), (3, .int x3)]) (fun h5 => []) (fun h5 => h5) [kd 251 = 12, kd 251 = 12] (by decide +kernel) rfl ⟨kd_251, kd_251⟩ hO (fun h5 hO => ?_)
          refine rbx hG 6 49 54 [.aload 0, .iload 3, .putfield 1242] [] [] (wr h5 251 42 x3) (fun h6 => [(2, .int y4), (0, .ref 251), (3, .int x3)]) (fun h6 => []) (fun h6 => h6) [kd 251 = 12] (by decide +kernel) rfl kd_251 hO (fun h6 hO => ?_)
          refine rb hG 5 54 56 [.aload 0, .iload 3] [] [] [(2, .int y4), (0, .ref 251), (3, .int x3)] [.int x3, .ref 251] h6 [] (by decide +kernel) rfl trivial ?_
          refine rv hG z_M_owesMost 392 1 56 251 [.int x3] [] (by decide +kernel) mk_M_owesMost lk_12_392 rcv_251 rfl ⟨rfl, Nat.le_of_ble_eq_true rfl⟩ (c_M_owesMost (d := d) h6 x3 (ok_bind hO)) ?_
          rintro _ _ ⟨r7, rfl, rfl, hO⟩
          refine rb hG 5 59 20 [.istore 3] [] [] [(3, .int r7), (2, .int y4), (0, .ref 251)] [] h6 [] (by decide +kernel) rfl trivial ?_
          refine rs hG [(0, .ref 251), (2, .int y4), (3, .int r7)] [2, 1, 0] rfl ?_
          exact k20 (y4, r7, h6) (ok_some (Q := (Sum.elim H20 P)) hO)
        · have hO := ok_neg c3 hO
          refine rs hG [] [] rfl ?_
          exact j63 h (ok_inr hO)
    rw [eH20] at w9
    exact w9
  refine rbx hG 7 0 4 [.ldc_w 0, .iload 1, .ishl, .istore 2] [1] [] ((sh (1 : Int32) x1)) (fun y8 => [(2, .int y8), (0, .ref 251), (1, .int x1)]) (fun y8 => []) (fun y8 => h) [] (by decide +kernel) rfl trivial hO (fun y8 hO => ?_)
  refine rbx hG 6 4 9 [.aload 0, .ldc_w 0, .putfield 1241] [1] [] (wr h 251 41 (1 : Int32)) (fun h9 => [(2, .int y8), (0, .ref 251), (1, .int x1)]) (fun h9 => []) (fun h9 => h9) [kd 251 = 12] (by decide +kernel) rfl kd_251 hO (fun h9 hO => ?_)
  refine rbx hG 6 9 14 [.aload 0, .iload 1, .putfield 1242] [] [] (wr h9 251 42 x1) (fun h10 => [(2, .int y8), (0, .ref 251), (1, .int x1)]) (fun h10 => []) (fun h10 => h10) [kd 251 = 12] (by decide +kernel) rfl kd_251 hO (fun h10 hO => ?_)
  refine rb hG 5 14 16 [.aload 0, .iload 1] [] [] [(2, .int y8), (0, .ref 251), (1, .int x1)] [.int x1, .ref 251] h10 [] (by decide +kernel) rfl trivial ?_
  refine rv hG z_M_owesMost 392 1 16 251 [.int x1] [] (by decide +kernel) mk_M_owesMost lk_12_392 rcv_251 rfl ⟨rfl, Nat.le_of_ble_eq_true rfl⟩ (c_M_owesMost (d := d) h10 x1 (ok_bind hO)) ?_
  rintro _ _ ⟨r11, rfl, rfl, hO⟩
  refine rb hG 4 19 20 [.istore 3] [] [] [(3, .int r11), (2, .int y8), (0, .ref 251), (1, .int x1)] [] h10 [] (by decide +kernel) rfl trivial ?_
  refine rs hG [(0, .ref 251), (2, .int y8), (3, .int r11)] [2, 1, 0] rfl ?_
  exact l20 y8 r11 h10 hO
/-! GrainInnModel.net(I)I -/
noncomputable def M_net_j44 (x2 : Int32) (h : Hp) : Option Int32 := some x2
noncomputable def M_net_b4 (x1 : Int32) (x2 : Int32) (x3 : Int32) (h : Hp) : Option ((Int32 × Int32) ⊕ Int32) := if (h.1 251 25) ≤ x3 then (((M_net_j44 x2 h).map Sum.inr)) else (if inb (((8 : Int32) * x3) + x1) (ln 272) then (if inb (((8 : Int32) * x1) + x3) (ln 272) then (bnd ((x2 + ((h.1 272 (Int32.toNatClampNeg (((8 : Int32) * x3) + x1))) - (h.1 272 (Int32.toNatClampNeg (((8 : Int32) * x1) + x3)))))) fun y4 => bnd ((x3 + (1 : Int32))) fun y5 => some (.inl (y4, y5))) else none) else none)
noncomputable def M_net_l4 (x1 : Int32) (x2 : Int32) (x3 : Int32) (h : Hp) : Option Int32 := lp (fun s : (Int32 × Int32) => M_net_b4 x1 s.1 s.2 h) (x2, x3)
theorem M_net_l4_eq (x1 : Int32) (x2 : Int32) (x3 : Int32) (h : Hp) : M_net_l4 x1 x2 x3 h = (M_net_b4 x1 x2 x3 h).bind (Sum.elim (fun q : (Int32 × Int32) => M_net_l4 x1 q.1 q.2 h) some) := lp_eq _ _
noncomputable def M_net (h : Hp) (x1 : Int32) : Option Int32 := (M_net_l4 x1 (0 : Int32) (0 : Int32) h)
set_option maxRecDepth 100000 in
set_option maxHeartbeats 4000000 in
theorem c_M_net {E : En} {d : Nat} (h : Hp) (x1 : Int32) {P : Int32 → Prop} (hO : Okk (M_net h x1) P) : Cn E (d + 1) z_M_net [.ref 251, .int x1] h (RIp h P) := by
  refine cn_of (on := 12) (d := d + 0) ⟨rfl, by decide +kernel, Nat.le_of_ble_eq_true rfl⟩ (fun G hG => ?_)
  unfold M_net at hO
  show G 0 [(0, .ref 251), (1, .int x1)] [] h
  have j44 : ∀ (x2 : Int32), Okk (M_net_j44 x2 h) P → G 44 [(2, .int x2)] [] h := by
    intro x2 hO
    unfold M_net_j44 at hO
    refine rb hG 4 44 45 [.iload 2] [] [] [(2, .int x2)] [.int x2] h [] (by decide +kernel) rfl trivial ?_
    exact eI hG 45 (by decide +kernel) rfl ⟨x2, rfl, rfl, ok_some (Q := P) hO⟩
  have l4 : ∀ (x2 : Int32) (x3 : Int32), Okk (M_net_l4 x1 x2 x3 h) P → G 4 [(0, .ref 251), (1, .int x1), (2, .int x2), (3, .int x3)] [] h := by
    intro x2 x3 hO
    obtain ⟨H4, eH4⟩ : ∃ q : (Int32 × Int32) → Prop, q = fun s => G 4 [(0, .ref 251), (1, .int x1), (2, .int (s.1)), (3, .int (s.2))] [] (h) := ⟨_, rfl⟩
    have w9 : H4 (x2, x3) := by
      refine lp_wp (f := fun s : (Int32 × Int32) => M_net_b4 x1 s.1 s.2 h) (H := H4) (Q := P) ?_ (x2, x3) hO
      rintro ⟨x2, x3⟩ hO
      rw [eH4]
      show G 4 [(0, .ref 251), (1, .int x1), (2, .int x2), (3, .int x3)] [] h
      have k4 : ∀ s : (Int32 × Int32), H4 s → G 4 [(0, .ref 251), (1, .int x1), (2, .int (s.1)), (3, .int (s.2))] [] (h) := fun s q => by rw [eH4] at q; exact q
      replace hO : Okk (M_net_b4 x1 x2 x3 h) (Sum.elim H4 P) := hO
      clear eH4
      unfold M_net_b4 at hO
      refine rb hG 6 4 9 [.iload 3, .aload 0, .getfield 1225] [] [] [(0, .ref 251), (1, .int x1), (2, .int x2), (3, .int x3)] [.int (h.1 251 25), .int x3] h [kd 251 = 12] (by decide +kernel) rfl kd_251 ?_
      refine rj hG .ge (35) 44 9 (by decide +kernel) (by decide) (fun c1 => ?_) (fun c1 => ?_)
      · have hO := ok_pos c1 hO
        refine rs hG [(2, .int x2)] [2] rfl ?_
        exact j44 x2 (ok_inr hO)
      · have hO := ok_neg c1 hO
        obtain ⟨g2, hO⟩ := ok_if hO
        obtain ⟨g3, hO⟩ := ok_if hO
        refine rbx hG 23 12 38 [.iload 2, .aload 0, .invokeinterface 1236 21, .ldc_w 0, .iload 3, .imul, .iload 1, .iadd, .iaload, .aload 0, .invokeinterface 1236 21, .ldc_w 0, .iload 1, .imul, .iload 3, .iadd, .iaload, .isub, .iadd, .istore 2] [8] [] ((x2 + ((h.1 272 (Int32.toNatClampNeg (((8 : Int32) * x3) + x1))) - (h.1 272 (Int32.toNatClampNeg (((8 : Int32) * x1) + x3)))))) (fun y4 => [(2, .int y4), (0, .ref 251), (1, .int x1), (3, .int x3)]) (fun y4 => []) (fun y4 => h) [kd 251 = 12, kd 272 = 20 ∧ inb (((8 : Int32) * x3) + x1) (ln 272), kd 251 = 12, kd 272 = 20 ∧ inb (((8 : Int32) * x1) + x3) (ln 272)] (by decide +kernel) rfl ⟨kd_251, ⟨kd_272, g2⟩, kd_251, ⟨kd_272, g3⟩⟩ hO (fun y4 hO => ?_)
        refine rbx hG 4 38 41 [.iinc 3 0] [1] [] ((x3 + (1 : Int32))) (fun y5 => [(3, .int y5), (2, .int y4), (0, .ref 251), (1, .int x1)]) (fun y5 => []) (fun y5 => h) [] (by decide +kernel) rfl trivial hO (fun y5 hO => ?_)
        refine rb hG 4 41 4 [] [] [] [(3, .int y5), (2, .int y4), (0, .ref 251), (1, .int x1)] [] h [] (by decide +kernel) rfl trivial ?_
        refine rs hG [(0, .ref 251), (1, .int x1), (2, .int y4), (3, .int y5)] [2, 3, 1, 0] rfl ?_
        exact k4 (y4, y5) (ok_some (Q := (Sum.elim H4 P)) hO)
    rw [eH4] at w9
    exact w9
  refine rb hG 7 0 4 [.ldc_w 0, .istore 2, .ldc_w 0, .istore 3] [0] [] [(3, .int (0 : Int32)), (2, .int (0 : Int32)), (0, .ref 251), (1, .int x1)] [] h [] (by decide +kernel) rfl trivial ?_
  refine rs hG [(0, .ref 251), (1, .int x1), (2, .int (0 : Int32)), (3, .int (0 : Int32))] [2, 3, 1, 0] rfl ?_
  exact l4 (0 : Int32) (0 : Int32) hO
/-! GrainInnModel.guest(IIIII)I -/
noncomputable def M_guest_j24 (h : Hp) : Option (Int32 × Hp) := some ((-1000000 : Int32), h)
noncomputable def M_guest (h : Hp) (x1 : Int32) (x2 : Int32) (x3 : Int32) (x4 : Int32) (x5 : Int32) : Option (Int32 × Hp) := bnd (wr h 251 0 (0 : Int32)) fun h1 => (M_layState h1 x1 x2 x3).bind fun (r2, h3) => if r2 = 0 then ((M_guest_j24 h3)) else ((M_isGuest h3 x4).bind fun r5 => if r5 = 0 then ((M_guest_j24 h3)) else ((M_in x5 (10 : Int32) ((9 : Int32) + (h3.1 251 25))).bind fun r7 => if r7 = 0 then ((M_chain h3 x4).bind fun h9 => if x5 = (0 : Int32) then (if inb x4 (ln 270) then (some ((h9.1 270 (Int32.toNatClampNeg x4)), h9)) else none) else (if x5 = (1 : Int32) then (if inb x4 (ln 271) then (some ((h9.1 271 (Int32.toNatClampNeg x4)), h9)) else none) else (if x5 = (2 : Int32) then ((M_tableOf h9 x4).bind fun r15 => some (r15, h9)) else (if x5 = (3 : Int32) then ((M_net h9 x4).bind fun r17 => some (r17, h9)) else (if x5 = (4 : Int32) then (some ((h9.1 251 41), h9)) else (if x5 = (5 : Int32) then (some ((h9.1 251 42), h9)) else (some ((-1000000 : Int32), h9)))))))) else (if inb ((((8 : Int32) * x4) + x5) - (10 : Int32)) (ln 272) then (some ((h3.1 272 (Int32.toNatClampNeg ((((8 : Int32) * x4) + x5) - (10 : Int32)))), h3)) else none)))
set_option maxRecDepth 100000 in
set_option maxHeartbeats 4000000 in
theorem c_M_guest {E : En} {d : Nat} (h : Hp) (x1 : Int32) (x2 : Int32) (x3 : Int32) (x4 : Int32) (x5 : Int32) {P : (Int32 × Hp) → Prop} (hO : Okk (M_guest h x1 x2 x3 x4 x5) P) : Cn E (d + 9) z_M_guest [.ref 251, .int x1, .int x2, .int x3, .int x4, .int x5] h (RI P) := by
  refine cn_of (on := 12) (d := d + 8) ⟨rfl, by decide +kernel, Nat.le_of_ble_eq_true rfl⟩ (fun G hG => ?_)
  unfold M_guest at hO
  show G 0 [(0, .ref 251), (1, .int x1), (2, .int x2), (3, .int x3), (4, .int x4), (5, .int x5)] [] h
  have j24 : ∀ (h : Hp), Okk (M_guest_j24 h) P → G 24 [] [] h := by
    intro h hO
    unfold M_guest_j24 at hO
    refine rb hG 4 24 27 [.ldc_w 0] [-1000000] [] [] [.int (-1000000 : Int32)] h [] (by decide +kernel) rfl trivial ?_
    exact eI hG 27 (by decide +kernel) rfl ⟨(-1000000 : Int32), rfl, ok_some (Q := P) hO⟩
  refine rbx hG 6 0 5 [.aload 0, .ldc_w 0, .putfield 1200] [0] [] (wr h 251 0 (0 : Int32)) (fun h1 => [(0, .ref 251), (1, .int x1), (2, .int x2), (3, .int x3), (4, .int x4), (5, .int x5)]) (fun h1 => []) (fun h1 => h1) [kd 251 = 12] (by decide +kernel) rfl kd_251 hO (fun h1 hO => ?_)
  refine rb hG 7 5 9 [.aload 0, .iload 1, .iload 2, .iload 3] [] [] [(0, .ref 251), (1, .int x1), (2, .int x2), (3, .int x3), (4, .int x4), (5, .int x5)] [.int x3, .int x2, .int x1, .ref 251] h1 [] (by decide +kernel) rfl trivial ?_
  refine rv hG z_M_layState 380 3 9 251 [.int x1, .int x2, .int x3] [] (by decide +kernel) mk_M_layState lk_12_380 rcv_251 rfl ⟨rfl, Nat.le_of_ble_eq_true rfl⟩ (c_M_layState (d := d) h1 x1 x2 x3 (ok_bind hO)) ?_
  rintro _ h3 ⟨r2, rfl, hO⟩
  refine ri hG .eq (12) 24 12 (by decide +kernel) (by decide) (fun c4 => ?_) (fun c4 => ?_)
  · have hO := ok_pos c4 hO
    refine rs hG [] [] rfl ?_
    exact j24 h3 hO
  · have hO := ok_neg c4 hO
    refine rb hG 5 15 18 [.aload 0, .iload 4] [] [] [(0, .ref 251), (1, .int x1), (2, .int x2), (3, .int x3), (4, .int x4), (5, .int x5)] [.int x4, .ref 251] h3 [] (by decide +kernel) rfl trivial ?_
    refine rv hG z_M_isGuest 332 1 18 251 [.int x4] [] (by decide +kernel) mk_M_isGuest lk_12_332 rcv_251 rfl ⟨rfl, Nat.le_of_ble_eq_true rfl⟩ (c_M_isGuest (d := d + 6) h3 x4 (ok_bind hO)) ?_
    rintro _ _ ⟨r5, rfl, rfl, hO⟩
    refine riN hG (7) 28 21 (by decide +kernel) (by decide) (fun c6 => ?_) (fun c6 => ?_)
    · have hO := ok_pos c6 hO
      refine rs hG [] [] rfl ?_
      exact j24 h3 hO
    · have hO := ok_neg c6 hO
      refine rb hG 9 28 39 [.iload 5, .ldc_w 0, .ldc_w 1, .aload 0, .getfield 1225, .iadd] [10, 9] [] [(0, .ref 251), (1, .int x1), (2, .int x2), (3, .int x3), (4, .int x4), (5, .int x5)] [.int ((9 : Int32) + (h3.1 251 25)), .int (10 : Int32), .int x5] h3 [kd 251 = 12] (by decide +kernel) rfl kd_251 ?_
      refine rt hG z_M_in 111 3 39 [.int x5, .int (10 : Int32), .int ((9 : Int32) + (h3.1 251 25))] [] (by decide +kernel) mk_M_in lk_12_111 rfl ⟨rfl, Nat.le_of_ble_eq_true rfl⟩ (c_M_in (d := d + 7) h3 x5 (10 : Int32) ((9 : Int32) + (h3.1 251 25)) (ok_bind hO)) ?_
      rintro _ _ ⟨r7, rfl, rfl, hO⟩
      refine ri hG .eq (20) 62 42 (by decide +kernel) (by decide) (fun c8 => ?_) (fun c8 => ?_)
      · have hO := ok_pos c8 hO
        refine rb hG 5 62 65 [.aload 0, .iload 4] [] [] [(0, .ref 251), (1, .int x1), (2, .int x2), (3, .int x3), (4, .int x4), (5, .int x5)] [.int x4, .ref 251] h3 [] (by decide +kernel) rfl trivial ?_
        refine rv hG z_M_chain 396 1 65 251 [.int x4] [] (by decide +kernel) mk_M_chain lk_12_396 rcv_251 rfl ⟨rfl, Nat.le_of_ble_eq_true rfl⟩ (c_M_chain (d := d + 6) h3 x4 (ok_bind hO)) ?_
        rintro _ h9 ⟨rfl, hO⟩
        refine rb hG 4 68 70 [.iload 5] [] [] [(0, .ref 251), (1, .int x1), (2, .int x2), (3, .int x3), (4, .int x4), (5, .int x5)] [.int x5] h9 [] (by decide +kernel) rfl trivial ?_
        refine rw9 hG (78) (0) (5) #[(38), (46), (54), (61), (68), (73)] 38 70 [108, 116, 124, 131, 138, 143] 148 (by decide +kernel) (by decide +kernel) ?_
        refine sw_c (0 : Int32) (by decide) (fun c10 => ?_) (fun c10 => ?_)
        · have hO := ok_pos c10 hO
          obtain ⟨g11, hO⟩ := ok_if hO
          refine rb hG 7 108 115 [.aload 0, .invokeinterface 1234 19, .iload 4, .iaload] [] [] [(0, .ref 251), (1, .int x1), (2, .int x2), (3, .int x3), (4, .int x4), (5, .int x5)] [.int (h9.1 270 (Int32.toNatClampNeg x4))] h9 [kd 251 = 12, kd 270 = 20 ∧ inb x4 (ln 270)] (by decide +kernel) rfl ⟨kd_251, ⟨kd_270, g11⟩⟩ ?_
          exact eI hG 115 (by decide +kernel) rfl ⟨(h9.1 270 (Int32.toNatClampNeg x4)), rfl, ok_some (Q := P) hO⟩
        have hO := ok_neg c10 hO
        refine sw_c (1 : Int32) (by decide) (fun c12 => ?_) (fun c12 => ?_)
        · have hO := ok_pos c12 hO
          obtain ⟨g13, hO⟩ := ok_if hO
          refine rb hG 7 116 123 [.aload 0, .invokeinterface 1235 20, .iload 4, .iaload] [] [] [(0, .ref 251), (1, .int x1), (2, .int x2), (3, .int x3), (4, .int x4), (5, .int x5)] [.int (h9.1 271 (Int32.toNatClampNeg x4))] h9 [kd 251 = 12, kd 271 = 20 ∧ inb x4 (ln 271)] (by decide +kernel) rfl ⟨kd_251, ⟨kd_271, g13⟩⟩ ?_
          exact eI hG 123 (by decide +kernel) rfl ⟨(h9.1 271 (Int32.toNatClampNeg x4)), rfl, ok_some (Q := P) hO⟩
        have hO := ok_neg c12 hO
        refine sw_c (2 : Int32) (by decide) (fun c14 => ?_) (fun c14 => ?_)
        · have hO := ok_pos c14 hO
          refine rb hG 5 124 127 [.aload 0, .iload 4] [] [] [(0, .ref 251), (1, .int x1), (2, .int x2), (3, .int x3), (4, .int x4), (5, .int x5)] [.int x4, .ref 251] h9 [] (by decide +kernel) rfl trivial ?_
          refine rv hG z_M_tableOf 335 1 127 251 [.int x4] [] (by decide +kernel) mk_M_tableOf lk_12_335 rcv_251 rfl ⟨rfl, Nat.le_of_ble_eq_true rfl⟩ (c_M_tableOf (d := d + 6) h9 x4 (ok_bind hO)) ?_
          rintro _ _ ⟨r15, rfl, rfl, hO⟩
          exact eI hG 130 (by decide +kernel) rfl ⟨r15, rfl, ok_some (Q := P) hO⟩
        have hO := ok_neg c14 hO
        refine sw_c (3 : Int32) (by decide) (fun c16 => ?_) (fun c16 => ?_)
        · have hO := ok_pos c16 hO
          refine rb hG 5 131 134 [.aload 0, .iload 4] [] [] [(0, .ref 251), (1, .int x1), (2, .int x2), (3, .int x3), (4, .int x4), (5, .int x5)] [.int x4, .ref 251] h9 [] (by decide +kernel) rfl trivial ?_
          refine rv hG z_M_net 399 1 134 251 [.int x4] [] (by decide +kernel) mk_M_net lk_12_399 rcv_251 rfl ⟨rfl, Nat.le_of_ble_eq_true rfl⟩ (c_M_net (d := d + 7) h9 x4 (ok_bind hO)) ?_
          rintro _ _ ⟨r17, rfl, rfl, hO⟩
          exact eI hG 137 (by decide +kernel) rfl ⟨r17, rfl, ok_some (Q := P) hO⟩
        have hO := ok_neg c16 hO
        refine sw_c (4 : Int32) (by decide) (fun c18 => ?_) (fun c18 => ?_)
        · have hO := ok_pos c18 hO
          refine rb hG 5 138 142 [.aload 0, .getfield 1241] [] [] [(0, .ref 251), (1, .int x1), (2, .int x2), (3, .int x3), (4, .int x4), (5, .int x5)] [.int (h9.1 251 41)] h9 [kd 251 = 12] (by decide +kernel) rfl kd_251 ?_
          exact eI hG 142 (by decide +kernel) rfl ⟨(h9.1 251 41), rfl, ok_some (Q := P) hO⟩
        have hO := ok_neg c18 hO
        refine sw_c (5 : Int32) (by decide) (fun c19 => ?_) (fun c19 => ?_)
        · have hO := ok_pos c19 hO
          refine rb hG 5 143 147 [.aload 0, .getfield 1242] [] [] [(0, .ref 251), (1, .int x1), (2, .int x2), (3, .int x3), (4, .int x4), (5, .int x5)] [.int (h9.1 251 42)] h9 [kd 251 = 12] (by decide +kernel) rfl kd_251 ?_
          exact eI hG 147 (by decide +kernel) rfl ⟨(h9.1 251 42), rfl, ok_some (Q := P) hO⟩
        have hO := ok_neg c19 hO
        show G 148 _ _ _
        refine rb hG 4 148 151 [.ldc_w 0] [-1000000] [] [(0, .ref 251), (1, .int x1), (2, .int x2), (3, .int x3), (4, .int x4), (5, .int x5)] [.int (-1000000 : Int32)] h9 [] (by decide +kernel) rfl trivial ?_
        exact eI hG 151 (by decide +kernel) rfl ⟨(-1000000 : Int32), rfl, ok_some (Q := P) hO⟩
      · have hO := ok_neg c8 hO
        obtain ⟨g20, hO⟩ := ok_if hO
        refine rb hG 13 45 61 [.aload 0, .invokeinterface 1236 21, .ldc_w 0, .iload 4, .imul, .iload 5, .iadd, .ldc_w 1, .isub, .iaload] [8, 10] [] [(0, .ref 251), (1, .int x1), (2, .int x2), (3, .int x3), (4, .int x4), (5, .int x5)] [.int (h3.1 272 (Int32.toNatClampNeg ((((8 : Int32) * x4) + x5) - (10 : Int32))))] h3 [kd 251 = 12, kd 272 = 20 ∧ inb ((((8 : Int32) * x4) + x5) - (10 : Int32)) (ln 272)] (by decide +kernel) rfl ⟨kd_251, ⟨kd_272, g20⟩⟩ ?_
        exact eI hG 61 (by decide +kernel) rfl ⟨(h3.1 272 (Int32.toNatClampNeg ((((8 : Int32) * x4) + x5) - (10 : Int32)))), rfl, ok_some (Q := P) hO⟩
/-! GrainInn.past(IIIIII)I -/
noncomputable def K_past_j47 (h : Hp) : Option (Int32 × Hp) := some ((-1 : Int32), h)
noncomputable def K_past_j25 (x5 : Int32) (x6 : Int32) (s0 : Nat) (h : Hp) : Option (Int32 × Hp) := if s0 = 0 then ((K_past_j47 h)) else (if x5 < 0 then ((K_past_j47 h)) else (if kd s0 = 0 then (if x5 < (h.1 s0 3) then (if x6 = (0 : Int32) then ((B_guestsOf h s0 x5).bind fun r6 => some (r6, h)) else (if x6 = (1 : Int32) then ((B_wordsOf h s0 x5).bind fun r8 => some (r8, h)) else (if x6 = (2 : Int32) then ((B_nightOf h s0 x5).bind fun r10 => some (r10, h)) else (some ((-1 : Int32), h))))) else ((K_past_j47 h))) else none))
noncomputable def K_past (h : Hp) (x1 : Int32) (x2 : Int32) (x3 : Int32) (x4 : Int32) (x5 : Int32) (x6 : Int32) : Option (Int32 × Hp) := (K_reach h x1 x2 x3).bind fun (r11, h12) => if r11 = 0 then ((K_past_j25 x5 x6 0 h12)) else (if r11 = 57 then ((S_benchAt h12 x4).bind fun r15 => (K_past_j25 x5 x6 r15 h12)) else none)
set_option maxRecDepth 100000 in
set_option maxHeartbeats 4000000 in
theorem c_K_past {E : En} {d : Nat} (h : Hp) (x1 : Int32) (x2 : Int32) (x3 : Int32) (x4 : Int32) (x5 : Int32) (x6 : Int32) {P : (Int32 × Hp) → Prop} (hO : Okk (K_past h x1 x2 x3 x4 x5 x6) P) : Cn E (d + 8) z_K_past [.ref 1, .int x1, .int x2, .int x3, .int x4, .int x5, .int x6] h (RI P) := by
  refine cn_of (on := 11) (d := d + 7) ⟨rfl, by decide +kernel, Nat.le_of_ble_eq_true rfl⟩ (fun G hG => ?_)
  unfold K_past at hO
  show G 0 [(0, .ref 1), (1, .int x1), (2, .int x2), (3, .int x3), (4, .int x4), (5, .int x5), (6, .int x6)] [] h
  have j47 : ∀ (h : Hp), Okk (K_past_j47 h) P → G 47 [] [] h := by
    intro h hO
    unfold K_past_j47 at hO
    refine rb hG 4 47 48 [.ldc_w 0] [-1] [] [] [.int (-1 : Int32)] h [] (by decide +kernel) rfl trivial ?_
    exact eI hG 48 (by decide +kernel) rfl ⟨(-1 : Int32), rfl, ok_some (Q := P) hO⟩
  have j25 : ∀ (s0 : Nat) (h : Hp), Okk (K_past_j25 x5 x6 s0 h) P → G 25 [(5, .int x5), (6, .int x6)] [.ref s0] h := by
    intro s0 h hO
    unfold K_past_j25 at hO
    refine rb hG 5 25 29 [.astore 8, .aload 8] [] [] [(8, .ref s0), (5, .int x5), (6, .int x6)] [.ref s0] h [] (by decide +kernel) rfl trivial ?_
    refine rn hG (18) 47 29 (by decide +kernel) (by decide) (fun c1 => ?_) (fun c1 => ?_)
    · have hO := ok_pos c1 hO
      refine rs hG [] [] rfl ?_
      exact j47 h hO
    · have hO := ok_neg c1 hO
      refine rb hG 4 32 34 [.iload 5] [] [] [(8, .ref s0), (5, .int x5), (6, .int x6)] [.int x5] h [] (by decide +kernel) rfl trivial ?_
      refine ri hG .lt (13) 47 34 (by decide +kernel) (by decide) (fun c2 => ?_) (fun c2 => ?_)
      · have hO := ok_pos c2 hO
        refine rs hG [] [] rfl ?_
        exact j47 h hO
      · have hO := ok_neg c2 hO
        obtain ⟨g3, hO⟩ := ok_if hO
        refine rb hG 6 37 44 [.iload 5, .aload 8, .getfield 3] [] [] [(8, .ref s0), (5, .int x5), (6, .int x6)] [.int (h.1 s0 3), .int x5] h [kd s0 = 0] (by decide +kernel) rfl g3 ?_
        refine rj hG .lt (5) 49 44 (by decide +kernel) (by decide) (fun c4 => ?_) (fun c4 => ?_)
        · have hO := ok_pos c4 hO
          refine rb hG 4 49 51 [.iload 6] [] [] [(8, .ref s0), (5, .int x5), (6, .int x6)] [.int x6] h [] (by decide +kernel) rfl trivial ?_
          refine rw9 hG (49) (0) (2) #[(25), (33), (41)] 25 51 [76, 84, 92] 100 (by decide +kernel) (by decide +kernel) ?_
          refine sw_c (0 : Int32) (by decide) (fun c5 => ?_) (fun c5 => ?_)
          · have hO := ok_pos c5 hO
            refine rb hG 5 76 80 [.aload 8, .iload 5] [] [] [(8, .ref s0), (5, .int x5), (6, .int x6)] [.int x5, .ref s0] h [] (by decide +kernel) rfl trivial ?_
            refine rv hG z_B_guestsOf 220 1 80 s0 [.int x5] [] (by decide +kernel) mk_B_guestsOf lk_11_220 (rcv_B g3) rfl ⟨rfl, Nat.le_of_ble_eq_true rfl⟩ (c_B_guestsOf (d := d + 6) h s0 x5 (ok_bind hO)) ?_
            rintro _ _ ⟨r6, rfl, rfl, hO⟩
            exact eI hG 83 (by decide +kernel) rfl ⟨r6, rfl, ok_some (Q := P) hO⟩
          have hO := ok_neg c5 hO
          refine sw_c (1 : Int32) (by decide) (fun c7 => ?_) (fun c7 => ?_)
          · have hO := ok_pos c7 hO
            refine rb hG 5 84 88 [.aload 8, .iload 5] [] [] [(8, .ref s0), (5, .int x5), (6, .int x6)] [.int x5, .ref s0] h [] (by decide +kernel) rfl trivial ?_
            refine rv hG z_B_wordsOf 223 1 88 s0 [.int x5] [] (by decide +kernel) mk_B_wordsOf lk_11_223 (rcv_B g3) rfl ⟨rfl, Nat.le_of_ble_eq_true rfl⟩ (c_B_wordsOf (d := d + 6) h s0 x5 (ok_bind hO)) ?_
            rintro _ _ ⟨r8, rfl, rfl, hO⟩
            exact eI hG 91 (by decide +kernel) rfl ⟨r8, rfl, ok_some (Q := P) hO⟩
          have hO := ok_neg c7 hO
          refine sw_c (2 : Int32) (by decide) (fun c9 => ?_) (fun c9 => ?_)
          · have hO := ok_pos c9 hO
            refine rb hG 5 92 96 [.aload 8, .iload 5] [] [] [(8, .ref s0), (5, .int x5), (6, .int x6)] [.int x5, .ref s0] h [] (by decide +kernel) rfl trivial ?_
            refine rv hG z_B_nightOf 226 1 96 s0 [.int x5] [] (by decide +kernel) mk_B_nightOf lk_11_226 (rcv_B g3) rfl ⟨rfl, Nat.le_of_ble_eq_true rfl⟩ (c_B_nightOf (d := d + 6) h s0 x5 (ok_bind hO)) ?_
            rintro _ _ ⟨r10, rfl, rfl, hO⟩
            exact eI hG 99 (by decide +kernel) rfl ⟨r10, rfl, ok_some (Q := P) hO⟩
          have hO := ok_neg c9 hO
          show G 100 _ _ _
          refine rb hG 4 100 101 [.ldc_w 0] [-1] [] [(8, .ref s0), (5, .int x5), (6, .int x6)] [.int (-1 : Int32)] h [] (by decide +kernel) rfl trivial ?_
          exact eI hG 101 (by decide +kernel) rfl ⟨(-1 : Int32), rfl, ok_some (Q := P) hO⟩
        · have hO := ok_neg c4 hO
          refine rs hG [] [] rfl ?_
          exact j47 h hO
  refine rb hG 7 0 4 [.aload 0, .iload 1, .iload 2, .iload 3] [] [] [(0, .ref 1), (1, .int x1), (2, .int x2), (3, .int x3), (4, .int x4), (5, .int x5), (6, .int x6)] [.int x3, .int x2, .int x1, .ref 1] h [] (by decide +kernel) rfl trivial ?_
  refine rv hG z_K_reach 155 3 4 1 [.int x1, .int x2, .int x3] [] (by decide +kernel) mk_K_reach lk_11_155 rcv_1 rfl ⟨rfl, Nat.le_of_ble_eq_true rfl⟩ (c_K_reach (d := d) h x1 x2 x3 (ok_bind hO)) ?_
  rintro _ h12 ⟨r11, rfl, hO⟩
  refine rb hG 5 7 11 [.astore 7, .aload 7] [] [] [(7, .ref r11), (0, .ref 1), (1, .int x1), (2, .int x2), (3, .int x3), (4, .int x4), (5, .int x5), (6, .int x6)] [.ref r11] h12 [] (by decide +kernel) rfl trivial ?_
  refine rnn hG (7) 18 11 (by decide +kernel) (by decide) (fun c13 => ?_) (fun c13 => ?_)
  · have hO := ok_pos c13 hO
    refine rb hG 5 14 25 [.aconst_null] [] [] [(7, .ref r11), (0, .ref 1), (1, .int x1), (2, .int x2), (3, .int x3), (4, .int x4), (5, .int x5), (6, .int x6)] [.ref 0] h12 [] (by decide +kernel) rfl trivial ?_
    refine rs hG [(5, .int x5), (6, .int x6)] [6, 7] rfl ?_
    exact j25 0 h12 hO
  · have hO := ok_neg c13 hO
    obtain ⟨g14, hOg14⟩ := ok_if hO
    subst g14
    have hO := hOg14
    refine rb hG 5 18 22 [.aload 7, .iload 4] [] [] [(7, .ref 57), (0, .ref 1), (1, .int x1), (2, .int x2), (3, .int x3), (4, .int x4), (5, .int x5), (6, .int x6)] [.int x4, .ref 57] h12 [] (by decide +kernel) rfl trivial ?_
    refine rv hG z_S_benchAt 213 1 22 57 [.int x4] [] (by decide +kernel) mk_S_benchAt lk_11_213 rcv_57 rfl ⟨rfl, Nat.le_of_ble_eq_true rfl⟩ (c_S_benchAt (d := d + 5) h12 x4 (ok_bind hO)) ?_
    rintro _ _ ⟨r15, rfl, rfl, hO⟩
    refine rs hG [(5, .int x5), (6, .int x6)] [6, 7] rfl ?_
    exact j25 r15 h12 hO
/-! GrainInnModel.past(IIIIII)I -/
noncomputable def M_past_j42 (h : Hp) : Option (Int32 × Hp) := some ((-1 : Int32), h)
noncomputable def M_past_j102 (s0 : Int32) (h : Hp) : Option (Int32 × Hp) := some (s0, h)
noncomputable def M_past (h : Hp) (x1 : Int32) (x2 : Int32) (x3 : Int32) (x4 : Int32) (x5 : Int32) (x6 : Int32) : Option (Int32 × Hp) := bnd (wr h 251 0 (0 : Int32)) fun h1 => (M_layState h1 x1 x2 x3).bind fun (r2, h3) => if r2 = 0 then ((M_past_j42 h3)) else ((M_isTable h3 x4).bind fun r5 => if r5 = 0 then ((M_past_j42 h3)) else (if inb x4 (ln 266) then ((M_in x5 (0 : Int32) ((h3.1 266 (Int32.toNatClampNeg x4)) - (1 : Int32))).bind fun r8 => if r8 = 0 then ((M_past_j42 h3)) else (bnd ((((16 : Int32) * x4) + x5)) fun y10 => if x6 = 0 then (if inb y10 (ln 263) then ((M_past_j102 (h3.1 263 (Int32.toNatClampNeg y10)) h3)) else none) else (if x6 = (1 : Int32) then (if inb y10 (ln 264) then ((M_past_j102 (h3.1 264 (Int32.toNatClampNeg y10)) h3)) else none) else (if x6 = (2 : Int32) then (if inb y10 (ln 265) then ((M_past_j102 (h3.1 265 (Int32.toNatClampNeg y10)) h3)) else none) else ((M_past_j102 (-1 : Int32) h3)))))) else none))
set_option maxRecDepth 100000 in
set_option maxHeartbeats 4000000 in
theorem c_M_past {E : En} {d : Nat} (h : Hp) (x1 : Int32) (x2 : Int32) (x3 : Int32) (x4 : Int32) (x5 : Int32) (x6 : Int32) {P : (Int32 × Hp) → Prop} (hO : Okk (M_past h x1 x2 x3 x4 x5 x6) P) : Cn E (d + 9) z_M_past [.ref 251, .int x1, .int x2, .int x3, .int x4, .int x5, .int x6] h (RI P) := by
  refine cn_of (on := 12) (d := d + 8) ⟨rfl, by decide +kernel, Nat.le_of_ble_eq_true rfl⟩ (fun G hG => ?_)
  unfold M_past at hO
  show G 0 [(0, .ref 251), (1, .int x1), (2, .int x2), (3, .int x3), (4, .int x4), (5, .int x5), (6, .int x6)] [] h
  have j42 : ∀ (h : Hp), Okk (M_past_j42 h) P → G 42 [] [] h := by
    intro h hO
    unfold M_past_j42 at hO
    refine rb hG 4 42 43 [.ldc_w 0] [-1] [] [] [.int (-1 : Int32)] h [] (by decide +kernel) rfl trivial ?_
    exact eI hG 43 (by decide +kernel) rfl ⟨(-1 : Int32), rfl, ok_some (Q := P) hO⟩
  have j102 : ∀ (s0 : Int32) (h : Hp), Okk (M_past_j102 s0 h) P → G 102 [] [.int s0] h := by
    intro s0 h hO
    unfold M_past_j102 at hO
    exact eI hG 102 (by decide +kernel) rfl ⟨s0, rfl, ok_some (Q := P) hO⟩
  refine rbx hG 6 0 5 [.aload 0, .ldc_w 0, .putfield 1200] [0] [] (wr h 251 0 (0 : Int32)) (fun h1 => [(0, .ref 251), (1, .int x1), (2, .int x2), (3, .int x3), (4, .int x4), (5, .int x5), (6, .int x6)]) (fun h1 => []) (fun h1 => h1) [kd 251 = 12] (by decide +kernel) rfl kd_251 hO (fun h1 hO => ?_)
  refine rb hG 7 5 9 [.aload 0, .iload 1, .iload 2, .iload 3] [] [] [(0, .ref 251), (1, .int x1), (2, .int x2), (3, .int x3), (4, .int x4), (5, .int x5), (6, .int x6)] [.int x3, .int x2, .int x1, .ref 251] h1 [] (by decide +kernel) rfl trivial ?_
  refine rv hG z_M_layState 380 3 9 251 [.int x1, .int x2, .int x3] [] (by decide +kernel) mk_M_layState lk_12_380 rcv_251 rfl ⟨rfl, Nat.le_of_ble_eq_true rfl⟩ (c_M_layState (d := d) h1 x1 x2 x3 (ok_bind hO)) ?_
  rintro _ h3 ⟨r2, rfl, hO⟩
  refine ri hG .eq (30) 42 12 (by decide +kernel) (by decide) (fun c4 => ?_) (fun c4 => ?_)
  · have hO := ok_pos c4 hO
    refine rs hG [] [] rfl ?_
    exact j42 h3 hO
  · have hO := ok_neg c4 hO
    refine rb hG 5 15 18 [.aload 0, .iload 4] [] [] [(0, .ref 251), (1, .int x1), (2, .int x2), (3, .int x3), (4, .int x4), (5, .int x5), (6, .int x6)] [.int x4, .ref 251] h3 [] (by decide +kernel) rfl trivial ?_
    refine rv hG z_M_isTable 338 1 18 251 [.int x4] [] (by decide +kernel) mk_M_isTable lk_12_338 rcv_251 rfl ⟨rfl, Nat.le_of_ble_eq_true rfl⟩ (c_M_isTable (d := d + 6) h3 x4 (ok_bind hO)) ?_
    rintro _ _ ⟨r5, rfl, rfl, hO⟩
    refine ri hG .eq (21) 42 21 (by decide +kernel) (by decide) (fun c6 => ?_) (fun c6 => ?_)
    · have hO := ok_pos c6 hO
      refine rs hG [] [] rfl ?_
      exact j42 h3 hO
    · have hO := ok_neg c6 hO
      obtain ⟨g7, hO⟩ := ok_if hO
      refine rb hG 11 24 36 [.iload 5, .ldc_w 0, .aload 0, .invokeinterface 1230 15, .iload 4, .iaload, .ldc_w 1, .isub] [0, 1] [] [(0, .ref 251), (1, .int x1), (2, .int x2), (3, .int x3), (4, .int x4), (5, .int x5), (6, .int x6)] [.int ((h3.1 266 (Int32.toNatClampNeg x4)) - (1 : Int32)), .int (0 : Int32), .int x5] h3 [kd 251 = 12, kd 266 = 20 ∧ inb x4 (ln 266)] (by decide +kernel) rfl ⟨kd_251, ⟨kd_266, g7⟩⟩ ?_
      refine rt hG z_M_in 111 3 36 [.int x5, .int (0 : Int32), .int ((h3.1 266 (Int32.toNatClampNeg x4)) - (1 : Int32))] [] (by decide +kernel) mk_M_in lk_12_111 rfl ⟨rfl, Nat.le_of_ble_eq_true rfl⟩ (c_M_in (d := d + 7) h3 x5 (0 : Int32) ((h3.1 266 (Int32.toNatClampNeg x4)) - (1 : Int32)) (ok_bind hO)) ?_
      rintro _ _ ⟨r8, rfl, rfl, hO⟩
      refine riN hG (5) 44 39 (by decide +kernel) (by decide) (fun c9 => ?_) (fun c9 => ?_)
      · have hO := ok_pos c9 hO
        refine rs hG [] [] rfl ?_
        exact j42 h3 hO
      · have hO := ok_neg c9 hO
        refine rbx hG 9 44 54 [.ldc_w 0, .iload 4, .imul, .iload 5, .iadd, .istore 7] [16] [] ((((16 : Int32) * x4) + x5)) (fun y10 => [(7, .int y10), (0, .ref 251), (1, .int x1), (2, .int x2), (3, .int x3), (4, .int x4), (5, .int x5), (6, .int x6)]) (fun y10 => []) (fun y10 => h3) [] (by decide +kernel) rfl trivial hO (fun y10 hO => ?_)
        refine rb hG 4 54 56 [.iload 6] [] [] [(7, .int y10), (0, .ref 251), (1, .int x1), (2, .int x2), (3, .int x3), (4, .int x4), (5, .int x5), (6, .int x6)] [.int x6] h3 [] (by decide +kernel) rfl trivial ?_
        refine riN hG (13) 69 56 (by decide +kernel) (by decide) (fun c11 => ?_) (fun c11 => ?_)
        · have hO := ok_pos c11 hO
          obtain ⟨g12, hO⟩ := ok_if hO
          refine rb hG 8 59 102 [.aload 0, .invokeinterface 1227 12, .iload 7, .iaload] [] [] [(7, .int y10), (0, .ref 251), (1, .int x1), (2, .int x2), (3, .int x3), (4, .int x4), (5, .int x5), (6, .int x6)] [.int (h3.1 263 (Int32.toNatClampNeg y10))] h3 [kd 251 = 12, kd 263 = 20 ∧ inb y10 (ln 263)] (by decide +kernel) rfl ⟨kd_251, ⟨kd_263, g12⟩⟩ ?_
          refine rs hG [] [] rfl ?_
          exact j102 (h3.1 263 (Int32.toNatClampNeg y10)) h3 hO
        · have hO := ok_neg c11 hO
          refine rb hG 5 69 72 [.iload 6, .ldc_w 0] [1] [] [(7, .int y10), (0, .ref 251), (1, .int x1), (2, .int x2), (3, .int x3), (4, .int x4), (5, .int x5), (6, .int x6)] [.int (1 : Int32), .int x6] h3 [] (by decide +kernel) rfl trivial ?_
          refine rjN hG (13) 85 72 (by decide +kernel) (by decide) (fun c13 => ?_) (fun c13 => ?_)
          · have hO := ok_pos c13 hO
            obtain ⟨g14, hO⟩ := ok_if hO
            refine rb hG 8 75 102 [.aload 0, .invokeinterface 1228 13, .iload 7, .iaload] [] [] [(7, .int y10), (0, .ref 251), (1, .int x1), (2, .int x2), (3, .int x3), (4, .int x4), (5, .int x5), (6, .int x6)] [.int (h3.1 264 (Int32.toNatClampNeg y10))] h3 [kd 251 = 12, kd 264 = 20 ∧ inb y10 (ln 264)] (by decide +kernel) rfl ⟨kd_251, ⟨kd_264, g14⟩⟩ ?_
            refine rs hG [] [] rfl ?_
            exact j102 (h3.1 264 (Int32.toNatClampNeg y10)) h3 hO
          · have hO := ok_neg c13 hO
            refine rb hG 5 85 88 [.iload 6, .ldc_w 0] [2] [] [(7, .int y10), (0, .ref 251), (1, .int x1), (2, .int x2), (3, .int x3), (4, .int x4), (5, .int x5), (6, .int x6)] [.int (2 : Int32), .int x6] h3 [] (by decide +kernel) rfl trivial ?_
            refine rjN hG (13) 101 88 (by decide +kernel) (by decide) (fun c15 => ?_) (fun c15 => ?_)
            · have hO := ok_pos c15 hO
              obtain ⟨g16, hO⟩ := ok_if hO
              refine rb hG 8 91 102 [.aload 0, .invokeinterface 1229 14, .iload 7, .iaload] [] [] [(7, .int y10), (0, .ref 251), (1, .int x1), (2, .int x2), (3, .int x3), (4, .int x4), (5, .int x5), (6, .int x6)] [.int (h3.1 265 (Int32.toNatClampNeg y10))] h3 [kd 251 = 12, kd 265 = 20 ∧ inb y10 (ln 265)] (by decide +kernel) rfl ⟨kd_251, ⟨kd_265, g16⟩⟩ ?_
              refine rs hG [] [] rfl ?_
              exact j102 (h3.1 265 (Int32.toNatClampNeg y10)) h3 hO
            · have hO := ok_neg c15 hO
              refine rb hG 4 101 102 [.ldc_w 0] [-1] [] [(7, .int y10), (0, .ref 251), (1, .int x1), (2, .int x2), (3, .int x3), (4, .int x4), (5, .int x5), (6, .int x6)] [.int (-1 : Int32)] h3 [] (by decide +kernel) rfl trivial ?_
              refine rs hG [] [] rfl ?_
              exact j102 (-1 : Int32) h3 hO
/-! GrainInn.wish(III)I -/
noncomputable def K_wish (h : Hp) (x1 : Int32) (x2 : Int32) (x3 : Int32) : Option Int32 := (D_linesAt h 2 (2 : Int32) x1).bind fun r1 => (K_lineOf h r1 x2 x3).bind fun r2 => some r2
set_option maxRecDepth 100000 in
set_option maxHeartbeats 4000000 in
theorem c_K_wish {E : En} {d : Nat} (h : Hp) (x1 : Int32) (x2 : Int32) (x3 : Int32) {P : Int32 → Prop} (hO : Okk (K_wish h x1 x2 x3) P) : Cn E (d + 5) z_K_wish [.ref 1, .int x1, .int x2, .int x3] h (RIp h P) := by
  refine cn_of (on := 11) (d := d + 4) ⟨rfl, by decide +kernel, Nat.le_of_ble_eq_true rfl⟩ (fun G hG => ?_)
  unfold K_wish at hO
  show G 0 [(0, .ref 1), (1, .int x1), (2, .int x2), (3, .int x3)] [] h
  refine rb hG 7 0 6 [.aload 0, .invokeinterface 1100 1, .ldc_w 0, .iload 1] [2] [] [(0, .ref 1), (1, .int x1), (2, .int x2), (3, .int x3)] [.int x1, .int (2 : Int32), .ref 2] h [kd 1 = 11] (by decide +kernel) rfl kd_1 ?_
  refine rv hG z_D_linesAt 138 2 6 2 [.int (2 : Int32), .int x1] [] (by decide +kernel) mk_D_linesAt lk_11_138 rcv_2 rfl ⟨rfl, Nat.le_of_ble_eq_true rfl⟩ (c_D_linesAt (d := d) h 2 (2 : Int32) x1 (ok_bind hO)) ?_
  rintro _ _ ⟨r1, rfl, rfl, hO⟩
  refine rb hG 5 9 11 [.iload 2, .iload 3] [] [] [(0, .ref 1), (1, .int x1), (2, .int x2), (3, .int x3)] [.int x3, .int x2, .ref r1] h [] (by decide +kernel) rfl trivial ?_
  refine rt hG z_K_lineOf 142 3 11 [.ref r1, .int x2, .int x3] [] (by decide +kernel) mk_K_lineOf lk_11_142 rfl ⟨rfl, Nat.le_of_ble_eq_true rfl⟩ (c_K_lineOf (d := d + 1) h r1 x2 x3 (ok_bind hO)) ?_
  rintro _ _ ⟨r2, rfl, rfl, hO⟩
  exact eI hG 14 (by decide +kernel) rfl ⟨r2, rfl, rfl, ok_some (Q := P) hO⟩
/-! GrainInnModel.hasWishes(I)Z -/
noncomputable def M_hasWishes (h : Hp) (x1 : Int32) : Option (Int32 × Hp) := bnd (wr h 251 43 x1) fun h1 => (M_is h1 (2 : Int32) x1).bind fun r2 => if r2 = 0 ∨ r2 = 1 then (some (r2, h1)) else none
set_option maxRecDepth 100000 in
set_option maxHeartbeats 4000000 in
theorem c_M_hasWishes {E : En} {d : Nat} (h : Hp) (x1 : Int32) {P : (Int32 × Hp) → Prop} (hO : Okk (M_hasWishes h x1) P) : Cn E (d + 3) z_M_hasWishes [.ref 251, .int x1] h (RI P) := by
  refine cn_of (on := 12) (d := d + 2) ⟨rfl, by decide +kernel, Nat.le_of_ble_eq_true rfl⟩ (fun G hG => ?_)
  unfold M_hasWishes at hO
  show G 0 [(0, .ref 251), (1, .int x1)] [] h
  refine rbx hG 6 0 5 [.aload 0, .iload 1, .putfield 1243] [] [] (wr h 251 43 x1) (fun h1 => [(0, .ref 251), (1, .int x1)]) (fun h1 => []) (fun h1 => h1) [kd 251 = 12] (by decide +kernel) rfl kd_251 hO (fun h1 hO => ?_)
  refine rb hG 6 5 8 [.aload 0, .ldc_w 0, .iload 1] [2] [] [(0, .ref 251), (1, .int x1)] [.int x1, .int (2 : Int32), .ref 251] h1 [] (by decide +kernel) rfl trivial ?_
  refine rv hG z_M_is 258 2 8 251 [.int (2 : Int32), .int x1] [] (by decide +kernel) mk_M_is lk_12_258 rcv_251 rfl ⟨rfl, Nat.le_of_ble_eq_true rfl⟩ (c_M_is (d := d) h1 (2 : Int32) x1 (ok_bind hO)) ?_
  rintro _ _ ⟨r2, rfl, rfl, hO⟩
  obtain ⟨g3, hO⟩ := ok_if hO
  exact eZ hG 11 (by decide +kernel) rfl g3 ⟨r2, rfl, ok_some (Q := P) hO⟩
/-! GrainInnModel.wishMany()I -/
noncomputable def M_wishMany (h : Hp) : Option Int32 := if inb ((31 : Int32) * (h.1 251 43)) (ln 259) then (some (h.1 259 (Int32.toNatClampNeg ((31 : Int32) * (h.1 251 43))))) else none
set_option maxRecDepth 100000 in
set_option maxHeartbeats 4000000 in
theorem c_M_wishMany {E : En} {d : Nat} (h : Hp) {P : Int32 → Prop} (hO : Okk (M_wishMany h) P) : Cn E (d + 1) z_M_wishMany [.ref 251] h (RIp h P) := by
  refine cn_of (on := 12) (d := d + 0) ⟨rfl, by decide +kernel, Nat.le_of_ble_eq_true rfl⟩ (fun G hG => ?_)
  unfold M_wishMany at hO
  show G 0 [(0, .ref 251)] [] h
  obtain ⟨g1, hO⟩ := ok_if hO
  refine rb hG 10 0 12 [.aload 0, .invokeinterface 1208 8, .ldc_w 0, .aload 0, .getfield 1243, .imul, .iaload] [31] [] [(0, .ref 251)] [.int (h.1 259 (Int32.toNatClampNeg ((31 : Int32) * (h.1 251 43))))] h [kd 251 = 12, kd 251 = 12, kd 259 = 20 ∧ inb ((31 : Int32) * (h.1 251 43)) (ln 259)] (by decide +kernel) rfl ⟨kd_251, kd_251, ⟨kd_259, g1⟩⟩ ?_
  exact eI hG 12 (by decide +kernel) rfl ⟨(h.1 259 (Int32.toNatClampNeg ((31 : Int32) * (h.1 251 43)))), rfl, rfl, ok_some (Q := P) hO⟩
/-! GrainInnModel.wishOf(II)I -/
noncomputable def M_wishOf (h : Hp) (x1 : Int32) (x2 : Int32) : Option Int32 := if inb (((((31 : Int32) * (h.1 251 43)) + (1 : Int32)) + ((3 : Int32) * x1)) + x2) (ln 259) then (some (h.1 259 (Int32.toNatClampNeg (((((31 : Int32) * (h.1 251 43)) + (1 : Int32)) + ((3 : Int32) * x1)) + x2)))) else none
set_option maxRecDepth 100000 in
set_option maxHeartbeats 4000000 in
theorem c_M_wishOf {E : En} {d : Nat} (h : Hp) (x1 : Int32) (x2 : Int32) {P : Int32 → Prop} (hO : Okk (M_wishOf h x1 x2) P) : Cn E (d + 1) z_M_wishOf [.ref 251, .int x1, .int x2] h (RIp h P) := by
  refine cn_of (on := 12) (d := d + 0) ⟨rfl, by decide +kernel, Nat.le_of_ble_eq_true rfl⟩ (fun G hG => ?_)
  unfold M_wishOf at hO
  show G 0 [(0, .ref 251), (1, .int x1), (2, .int x2)] [] h
  obtain ⟨g1, hO⟩ := ok_if hO
  refine rb hG 18 0 20 [.aload 0, .invokeinterface 1208 8, .ldc_w 0, .aload 0, .getfield 1243, .imul, .ldc_w 1, .iadd, .ldc_w 2, .iload 1, .imul, .iadd, .iload 2, .iadd, .iaload] [31, 1, 3] [] [(0, .ref 251), (1, .int x1), (2, .int x2)] [.int (h.1 259 (Int32.toNatClampNeg (((((31 : Int32) * (h.1 251 43)) + (1 : Int32)) + ((3 : Int32) * x1)) + x2)))] h [kd 251 = 12, kd 251 = 12, kd 259 = 20 ∧ inb (((((31 : Int32) * (h.1 251 43)) + (1 : Int32)) + ((3 : Int32) * x1)) + x2) (ln 259)] (by decide +kernel) rfl ⟨kd_251, kd_251, ⟨kd_259, g1⟩⟩ ?_
  exact eI hG 20 (by decide +kernel) rfl ⟨(h.1 259 (Int32.toNatClampNeg (((((31 : Int32) * (h.1 251 43)) + (1 : Int32)) + ((3 : Int32) * x1)) + x2))), rfl, rfl, ok_some (Q := P) hO⟩
/-! GrainInnModel.wish(III)I -/
noncomputable def M_wish_j69 (s0 : Int32) (h : Hp) : Option (Int32 × Hp) := some (s0, h)
noncomputable def M_wish_j67 (h : Hp) : Option (Int32 × Hp) := (M_wish_j69 (-2 : Int32) h)
noncomputable def M_wish_j34 (s0 : Int32) (h : Hp) : Option (Int32 × Hp) := some (s0, h)
noncomputable def M_wish (h : Hp) (x1 : Int32) (x2 : Int32) (x3 : Int32) : Option (Int32 × Hp) := bnd (wr h 251 0 (0 : Int32)) fun h1 => (M_hasWishes h1 x1).bind fun (r2, h3) => if r2 = 0 then (some ((-2 : Int32), h3)) else (if x2 = (-1 : Int32) then (if x3 = 0 then ((M_wishMany h3).bind fun r7 => (M_wish_j34 r7 h3)) else ((M_wish_j34 (-2 : Int32) h3))) else ((M_wishMany h3).bind fun r8 => (M_in x2 (0 : Int32) (r8 - (1 : Int32))).bind fun r9 => if r9 = 0 then ((M_wish_j67 h3)) else ((M_in x3 (0 : Int32) (2 : Int32)).bind fun r11 => if r11 = 0 then ((M_wish_j67 h3)) else ((M_wishOf h3 x2 x3).bind fun r13 => (M_wish_j69 r13 h3)))))
set_option maxRecDepth 100000 in
set_option maxHeartbeats 4000000 in
theorem c_M_wish {E : En} {d : Nat} (h : Hp) (x1 : Int32) (x2 : Int32) (x3 : Int32) {P : (Int32 × Hp) → Prop} (hO : Okk (M_wish h x1 x2 x3) P) : Cn E (d + 4) z_M_wish [.ref 251, .int x1, .int x2, .int x3] h (RI P) := by
  refine cn_of (on := 12) (d := d + 3) ⟨rfl, by decide +kernel, Nat.le_of_ble_eq_true rfl⟩ (fun G hG => ?_)
  unfold M_wish at hO
  show G 0 [(0, .ref 251), (1, .int x1), (2, .int x2), (3, .int x3)] [] h
  have j69 : ∀ (s0 : Int32) (h : Hp), Okk (M_wish_j69 s0 h) P → G 69 [] [.int s0] h := by
    intro s0 h hO
    unfold M_wish_j69 at hO
    exact eI hG 69 (by decide +kernel) rfl ⟨s0, rfl, ok_some (Q := P) hO⟩
  have j67 : ∀ (h : Hp), Okk (M_wish_j67 h) P → G 67 [] [] h := by
    intro h hO
    unfold M_wish_j67 at hO
    refine rb hG 4 67 69 [.ldc_w 0] [-2] [] [] [.int (-2 : Int32)] h [] (by decide +kernel) rfl trivial ?_
    exact j69 (-2 : Int32) h hO
  have j34 : ∀ (s0 : Int32) (h : Hp), Okk (M_wish_j34 s0 h) P → G 34 [] [.int s0] h := by
    intro s0 h hO
    unfold M_wish_j34 at hO
    exact eI hG 34 (by decide +kernel) rfl ⟨s0, rfl, ok_some (Q := P) hO⟩
  refine rbx hG 6 0 5 [.aload 0, .ldc_w 0, .putfield 1200] [0] [] (wr h 251 0 (0 : Int32)) (fun h1 => [(0, .ref 251), (1, .int x1), (2, .int x2), (3, .int x3)]) (fun h1 => []) (fun h1 => h1) [kd 251 = 12] (by decide +kernel) rfl kd_251 hO (fun h1 hO => ?_)
  refine rb hG 5 5 7 [.aload 0, .iload 1] [] [] [(0, .ref 251), (1, .int x1), (2, .int x2), (3, .int x3)] [.int x1, .ref 251] h1 [] (by decide +kernel) rfl trivial ?_
  refine rv hG z_M_hasWishes 405 1 7 251 [.int x1] [] (by decide +kernel) mk_M_hasWishes lk_12_405 rcv_251 rfl ⟨rfl, Nat.le_of_ble_eq_true rfl⟩ (c_M_hasWishes (d := d) h1 x1 (ok_bind hO)) ?_
  rintro _ h3 ⟨r2, rfl, hO⟩
  refine riN hG (6) 16 10 (by decide +kernel) (by decide) (fun c4 => ?_) (fun c4 => ?_)
  · have hO := ok_pos c4 hO
    refine rb hG 4 13 15 [.ldc_w 0] [-2] [] [(0, .ref 251), (1, .int x1), (2, .int x2), (3, .int x3)] [.int (-2 : Int32)] h3 [] (by decide +kernel) rfl trivial ?_
    exact eI hG 15 (by decide +kernel) rfl ⟨(-2 : Int32), rfl, ok_some (Q := P) hO⟩
  · have hO := ok_neg c4 hO
    refine rb hG 5 16 18 [.iload 2, .ldc_w 0] [-1] [] [(0, .ref 251), (1, .int x1), (2, .int x2), (3, .int x3)] [.int (-1 : Int32), .int x2] h3 [] (by decide +kernel) rfl trivial ?_
    refine rjN hG (17) 35 18 (by decide +kernel) (by decide) (fun c5 => ?_) (fun c5 => ?_)
    · have hO := ok_pos c5 hO
      refine rb hG 4 21 22 [.iload 3] [] [] [(0, .ref 251), (1, .int x1), (2, .int x2), (3, .int x3)] [.int x3] h3 [] (by decide +kernel) rfl trivial ?_
      refine riN hG (10) 32 22 (by decide +kernel) (by decide) (fun c6 => ?_) (fun c6 => ?_)
      · have hO := ok_pos c6 hO
        refine rb hG 4 25 26 [.aload 0] [] [] [(0, .ref 251), (1, .int x1), (2, .int x2), (3, .int x3)] [.ref 251] h3 [] (by decide +kernel) rfl trivial ?_
        refine rv hG z_M_wishMany 408 0 26 251 [] [] (by decide +kernel) mk_M_wishMany lk_12_408 rcv_251 rfl ⟨rfl, Nat.le_of_ble_eq_true rfl⟩ (c_M_wishMany (d := d + 2) h3 (ok_bind hO)) ?_
        rintro _ _ ⟨r7, rfl, rfl, hO⟩
        refine rb hG 4 29 34 [] [] [] [(0, .ref 251), (1, .int x1), (2, .int x2), (3, .int x3)] [.int r7] h3 [] (by decide +kernel) rfl trivial ?_
        refine rs hG [] [] rfl ?_
        exact j34 r7 h3 hO
      · have hO := ok_neg c6 hO
        refine rb hG 4 32 34 [.ldc_w 0] [-2] [] [(0, .ref 251), (1, .int x1), (2, .int x2), (3, .int x3)] [.int (-2 : Int32)] h3 [] (by decide +kernel) rfl trivial ?_
        refine rs hG [] [] rfl ?_
        exact j34 (-2 : Int32) h3 hO
    · have hO := ok_neg c5 hO
      refine rb hG 6 35 38 [.iload 2, .ldc_w 0, .aload 0] [0] [] [(0, .ref 251), (1, .int x1), (2, .int x2), (3, .int x3)] [.ref 251, .int (0 : Int32), .int x2] h3 [] (by decide +kernel) rfl trivial ?_
      refine rv hG z_M_wishMany 408 0 38 251 [] [.int (0 : Int32), .int x2] (by decide +kernel) mk_M_wishMany lk_12_408 rcv_251 rfl ⟨rfl, Nat.le_of_ble_eq_true rfl⟩ (c_M_wishMany (d := d + 2) h3 (ok_bind hO)) ?_
      rintro _ _ ⟨r8, rfl, rfl, hO⟩
      refine rb hG 5 41 43 [.ldc_w 0, .isub] [1] [] [(0, .ref 251), (1, .int x1), (2, .int x2), (3, .int x3)] [.int (r8 - (1 : Int32)), .int (0 : Int32), .int x2] h3 [] (by decide +kernel) rfl trivial ?_
      refine rt hG z_M_in 111 3 43 [.int x2, .int (0 : Int32), .int (r8 - (1 : Int32))] [] (by decide +kernel) mk_M_in lk_12_111 rfl ⟨rfl, Nat.le_of_ble_eq_true rfl⟩ (c_M_in (d := d + 2) h3 x2 (0 : Int32) (r8 - (1 : Int32)) (ok_bind hO)) ?_
      rintro _ _ ⟨r9, rfl, rfl, hO⟩
      refine ri hG .eq (21) 67 46 (by decide +kernel) (by decide) (fun c10 => ?_) (fun c10 => ?_)
      · have hO := ok_pos c10 hO
        refine rs hG [] [] rfl ?_
        exact j67 h3 hO
      · have hO := ok_neg c10 hO
        refine rb hG 6 49 52 [.iload 3, .ldc_w 0, .ldc_w 1] [0, 2] [] [(0, .ref 251), (1, .int x1), (2, .int x2), (3, .int x3)] [.int (2 : Int32), .int (0 : Int32), .int x3] h3 [] (by decide +kernel) rfl trivial ?_
        refine rt hG z_M_in 111 3 52 [.int x3, .int (0 : Int32), .int (2 : Int32)] [] (by decide +kernel) mk_M_in lk_12_111 rfl ⟨rfl, Nat.le_of_ble_eq_true rfl⟩ (c_M_in (d := d + 2) h3 x3 (0 : Int32) (2 : Int32) (ok_bind hO)) ?_
        rintro _ _ ⟨r11, rfl, rfl, hO⟩
        refine ri hG .eq (12) 67 55 (by decide +kernel) (by decide) (fun c12 => ?_) (fun c12 => ?_)
        · have hO := ok_pos c12 hO
          refine rs hG [] [] rfl ?_
          exact j67 h3 hO
        · have hO := ok_neg c12 hO
          refine rb hG 6 58 61 [.aload 0, .iload 2, .iload 3] [] [] [(0, .ref 251), (1, .int x1), (2, .int x2), (3, .int x3)] [.int x3, .int x2, .ref 251] h3 [] (by decide +kernel) rfl trivial ?_
          refine rv hG z_M_wishOf 411 2 61 251 [.int x2, .int x3] [] (by decide +kernel) mk_M_wishOf lk_12_411 rcv_251 rfl ⟨rfl, Nat.le_of_ble_eq_true rfl⟩ (c_M_wishOf (d := d + 2) h3 x2 x3 (ok_bind hO)) ?_
          rintro _ _ ⟨r13, rfl, rfl, hO⟩
          refine rb hG 4 64 69 [] [] [] [(0, .ref 251), (1, .int x1), (2, .int x2), (3, .int x3)] [.int r13] h3 [] (by decide +kernel) rfl trivial ?_
          refine rs hG [] [] rfl ?_
          exact j69 r13 h3 hO
/-! GrainInn.Seating.isHere(I)Z -/
noncomputable def G_isHere_j22 (s0 : Int32) (h : Hp) : Option Int32 := if s0 = 0 ∨ s0 = 1 then (some s0) else none
noncomputable def G_isHere_j21 (h : Hp) : Option Int32 := (G_isHere_j22 (0 : Int32) h)
noncomputable def G_isHere (h : Hp) (x1 : Int32) : Option Int32 := if kd (Int32.toNatClampNeg (h.1 99 7)) = 1 then ((H_hasGuest h (Int32.toNatClampNeg (h.1 99 7)) x1).bind fun r3 => if r3 = 0 then ((G_isHere_j21 h)) else (if (6 : Int32) ≤ x1 then ((G_isHere_j21 h)) else ((G_isHere_j22 (1 : Int32) h)))) else none
set_option maxRecDepth 100000 in
set_option maxHeartbeats 4000000 in
theorem c_G_isHere {E : En} {d : Nat} (h : Hp) (x1 : Int32) {P : Int32 → Prop} (hO : Okk (G_isHere h x1) P) : Cn E (d + 2) z_G_isHere [.ref 99, .int x1] h (RIp h P) := by
  refine cn_of (on := 6) (d := d + 1) ⟨rfl, by decide +kernel, Nat.le_of_ble_eq_true rfl⟩ (fun G hG => ?_)
  unfold G_isHere at hO
  show G 0 [(0, .ref 99), (1, .int x1)] [] h
  have j22 : ∀ (s0 : Int32), Okk (G_isHere_j22 s0 h) P → G 22 [] [.int s0] h := by
    intro s0 hO
    unfold G_isHere_j22 at hO
    obtain ⟨g1, hO⟩ := ok_if hO
    exact eZ hG 22 (by decide +kernel) rfl g1 ⟨s0, rfl, rfl, ok_some (Q := P) hO⟩
  have j21 : Okk (G_isHere_j21 h) P → G 21 [] [] h := by
    intro hO
    unfold G_isHere_j21 at hO
    refine rb hG 4 21 22 [.ldc_w 0] [0] [] [] [.int (0 : Int32)] h [] (by decide +kernel) rfl trivial ?_
    exact j22 (0 : Int32) hO
  obtain ⟨g2, hO⟩ := ok_if hO
  refine rb hG 6 0 5 [.aload 0, .instanceof 607, .iload 1] [] [] [(0, .ref 99), (1, .int x1)] [.int x1, .ref (Int32.toNatClampNeg (h.1 99 7))] h [kd 99 = 6] (by decide +kernel) rfl kd_99 ?_
  refine rv hG z_H_hasGuest 102 1 5 (Int32.toNatClampNeg (h.1 99 7)) [.int x1] [] (by decide +kernel) mk_H_hasGuest lk_6_102 (rcv_H g2) rfl ⟨rfl, Nat.le_of_ble_eq_true rfl⟩ (c_H_hasGuest (d := d) h (Int32.toNatClampNeg (h.1 99 7)) x1 (ok_bind hO)) ?_
  rintro _ _ ⟨r3, rfl, rfl, hO⟩
  refine ri hG .eq (13) 21 8 (by decide +kernel) (by decide) (fun c4 => ?_) (fun c4 => ?_)
  · have hO := ok_pos c4 hO
    refine rs hG [] [] rfl ?_
    exact j21 hO
  · have hO := ok_neg c4 hO
    refine rb hG 5 11 14 [.iload 1, .ldc_w 0] [6] [] [(0, .ref 99), (1, .int x1)] [.int (6 : Int32), .int x1] h [] (by decide +kernel) rfl trivial ?_
    refine rj hG .ge (7) 21 14 (by decide +kernel) (by decide) (fun c5 => ?_) (fun c5 => ?_)
    · have hO := ok_pos c5 hO
      refine rs hG [] [] rfl ?_
      exact j21 hO
    · have hO := ok_neg c5 hO
      refine rb hG 5 17 22 [.ldc_w 0] [1] [] [(0, .ref 99), (1, .int x1)] [.int (1 : Int32)] h [] (by decide +kernel) rfl trivial ?_
      refine rs hG [] [] rfl ?_
      exact j22 (1 : Int32) hO
/-! GrainInn.Seating.tablesWith(LGrainInn$State;IZ)I -/
noncomputable def G_tablesWith_j55 (x0 : Nat) (x3 : Int32) (h : Hp) : Option Int32 := some x3
noncomputable def G_tablesWith_j49 (x0 : Nat) (x1 : Int32) (x2 : Int32) (x3 : Int32) (x4 : Int32) (h : Hp) : Option ((Int32 × Int32) ⊕ Int32) := bnd ((x4 + (1 : Int32))) fun y1 => some (.inl (x3, y1))
noncomputable def G_tablesWith_b5 (x0 : Nat) (x1 : Int32) (x2 : Int32) (x3 : Int32) (x4 : Int32) (h : Hp) : Option ((Int32 × Int32) ⊕ Int32) := if (5 : Int32) ≤ x4 then (((G_tablesWith_j55 x0 x3 h).map Sum.inr)) else (if x0 = 57 then ((S_benchAt h x4).bind fun r4 => if r4 = 0 then ((G_tablesWith_j49 x0 x1 x2 x3 x4 h)) else (if kd r4 = 0 then ((B_wordsOf h r4 (h.1 r4 4)).bind fun r7 => (K_isIn r7 x1).bind fun r8 => if r8 = x2 then (bnd ((x3 ||| (sh (1 : Int32) x4))) fun y10 => (G_tablesWith_j49 x0 x1 x2 y10 x4 h)) else ((G_tablesWith_j49 x0 x1 x2 x3 x4 h))) else none)) else none)
noncomputable def G_tablesWith_l5 (x0 : Nat) (x1 : Int32) (x2 : Int32) (x3 : Int32) (x4 : Int32) (h : Hp) : Option Int32 := lp (fun s : (Int32 × Int32) => G_tablesWith_b5 x0 x1 x2 s.1 s.2 h) (x3, x4)
theorem G_tablesWith_l5_eq (x0 : Nat) (x1 : Int32) (x2 : Int32) (x3 : Int32) (x4 : Int32) (h : Hp) : G_tablesWith_l5 x0 x1 x2 x3 x4 h = (G_tablesWith_b5 x0 x1 x2 x3 x4 h).bind (Sum.elim (fun q : (Int32 × Int32) => G_tablesWith_l5 x0 x1 x2 q.1 q.2 h) some) := lp_eq _ _
noncomputable def G_tablesWith (h : Hp) (x0 : Nat) (x1 : Int32) (x2 : Int32) : Option Int32 := (G_tablesWith_l5 x0 x1 x2 (0 : Int32) (0 : Int32) h)
set_option maxRecDepth 100000 in
set_option maxHeartbeats 4000000 in
theorem c_G_tablesWith {E : En} {d : Nat} (h : Hp) (x0 : Nat) (x1 : Int32) (x2 : Int32) {P : Int32 → Prop} (hO : Okk (G_tablesWith h x0 x1 x2) P) : Cn E (d + 3) z_G_tablesWith [.ref x0, .int x1, .int x2] h (RIp h P) := by
  refine cn_of (on := 6) (d := d + 2) ⟨rfl, by decide +kernel, Nat.le_of_ble_eq_true rfl⟩ (fun G hG => ?_)
  unfold G_tablesWith at hO
  show G 0 [(0, .ref x0), (1, .int x1), (2, .int x2)] [] h
  have j55 : ∀ (x3 : Int32), Okk (G_tablesWith_j55 x0 x3 h) P → G 55 [(3, .int x3)] [] h := by
    intro x3 hO
    unfold G_tablesWith_j55 at hO
    refine rb hG 4 55 56 [.iload 3] [] [] [(3, .int x3)] [.int x3] h [] (by decide +kernel) rfl trivial ?_
    exact eI hG 56 (by decide +kernel) rfl ⟨x3, rfl, rfl, ok_some (Q := P) hO⟩
  have l5 : ∀ (x3 : Int32) (x4 : Int32), Okk (G_tablesWith_l5 x0 x1 x2 x3 x4 h) P → G 5 [(0, .ref x0), (1, .int x1), (2, .int x2), (3, .int x3), (4, .int x4)] [] h := by
    intro x3 x4 hO
    obtain ⟨H5, eH5⟩ : ∃ q : (Int32 × Int32) → Prop, q = fun s => G 5 [(0, .ref x0), (1, .int x1), (2, .int x2), (3, .int (s.1)), (4, .int (s.2))] [] (h) := ⟨_, rfl⟩
    have w9 : H5 (x3, x4) := by
      refine lp_wp (f := fun s : (Int32 × Int32) => G_tablesWith_b5 x0 x1 x2 s.1 s.2 h) (H := H5) (Q := P) ?_ (x3, x4) hO
      rintro ⟨x3, x4⟩ hO
      rw [eH5]
      show G 5 [(0, .ref x0), (1, .int x1), (2, .int x2), (3, .int x3), (4, .int x4)] [] h
      have k5 : ∀ s : (Int32 × Int32), H5 s → G 5 [(0, .ref x0), (1, .int x1), (2, .int x2), (3, .int (s.1)), (4, .int (s.2))] [] (h) := fun s q => by rw [eH5] at q; exact q
      replace hO : Okk (G_tablesWith_b5 x0 x1 x2 x3 x4 h) (Sum.elim H5 P) := hO
      clear eH5
      have j49 : ∀ (x3 : Int32) (x4 : Int32), Okk (G_tablesWith_j49 x0 x1 x2 x3 x4 h) (Sum.elim H5 P) → G 49 [(0, .ref x0), (1, .int x1), (2, .int x2), (3, .int x3), (4, .int x4)] [] h := by
        intro x3 x4 hO
        unfold G_tablesWith_j49 at hO
        refine rbx hG 4 49 52 [.iinc 4 0] [1] [] ((x4 + (1 : Int32))) (fun y1 => [(4, .int y1), (0, .ref x0), (1, .int x1), (2, .int x2), (3, .int x3)]) (fun y1 => []) (fun y1 => h) [] (by decide +kernel) rfl trivial hO (fun y1 hO => ?_)
        refine rb hG 4 52 5 [] [] [] [(4, .int y1), (0, .ref x0), (1, .int x1), (2, .int x2), (3, .int x3)] [] h [] (by decide +kernel) rfl trivial ?_
        refine rs hG [(0, .ref x0), (1, .int x1), (2, .int x2), (3, .int x3), (4, .int y1)] [1, 2, 3, 4, 0] rfl ?_
        exact k5 (x3, y1) (ok_some (Q := (Sum.elim H5 P)) hO)
      unfold G_tablesWith_b5 at hO
      refine rb hG 5 5 8 [.iload 4, .ldc_w 0] [5] [] [(0, .ref x0), (1, .int x1), (2, .int x2), (3, .int x3), (4, .int x4)] [.int (5 : Int32), .int x4] h [] (by decide +kernel) rfl trivial ?_
      refine rj hG .ge (47) 55 8 (by decide +kernel) (by decide) (fun c2 => ?_) (fun c2 => ?_)
      · have hO := ok_pos c2 hO
        refine rs hG [(3, .int x3)] [3] rfl ?_
        exact j55 x3 (ok_inr hO)
      · have hO := ok_neg c2 hO
        obtain ⟨g3, hOg3⟩ := ok_if hO
        subst g3
        have hO := hOg3
        refine rb hG 5 11 14 [.aload 0, .iload 4] [] [] [(0, .ref 57), (1, .int x1), (2, .int x2), (3, .int x3), (4, .int x4)] [.int x4, .ref 57] h [] (by decide +kernel) rfl trivial ?_
        refine rv hG z_S_benchAt 59 1 14 57 [.int x4] [] (by decide +kernel) mk_S_benchAt lk_6_59 rcv_57 rfl ⟨rfl, Nat.le_of_ble_eq_true rfl⟩ (c_S_benchAt (d := d) h x4 (ok_bind hO)) ?_
        rintro _ _ ⟨r4, rfl, rfl, hO⟩
        refine rb hG 5 17 21 [.astore 5, .aload 5] [] [] [(5, .ref r4), (0, .ref 57), (1, .int x1), (2, .int x2), (3, .int x3), (4, .int x4)] [.ref r4] h [] (by decide +kernel) rfl trivial ?_
        refine rn hG (28) 49 21 (by decide +kernel) (by decide) (fun c5 => ?_) (fun c5 => ?_)
        · have hO := ok_pos c5 hO
          refine rs hG [(0, .ref 57), (1, .int x1), (2, .int x2), (3, .int x3), (4, .int x4)] [1, 2, 3, 4, 5] rfl ?_
          exact j49 x3 x4 hO
        · have hO := ok_neg c5 hO
          obtain ⟨g6, hO⟩ := ok_if hO
          refine rb hG 6 24 31 [.aload 5, .aload 5, .getfield 4] [] [] [(5, .ref r4), (0, .ref 57), (1, .int x1), (2, .int x2), (3, .int x3), (4, .int x4)] [.int (h.1 r4 4), .ref r4] h [kd r4 = 0] (by decide +kernel) rfl g6 ?_
          refine rv hG z_B_wordsOf 105 1 31 r4 [.int (h.1 r4 4)] [] (by decide +kernel) mk_B_wordsOf lk_6_105 (rcv_B g6) rfl ⟨rfl, Nat.le_of_ble_eq_true rfl⟩ (c_B_wordsOf (d := d + 1) h r4 (h.1 r4 4) (ok_bind hO)) ?_
          rintro _ _ ⟨r7, rfl, rfl, hO⟩
          refine rb hG 4 34 35 [.iload 1] [] [] [(5, .ref r4), (0, .ref 57), (1, .int x1), (2, .int x2), (3, .int x3), (4, .int x4)] [.int x1, .int r7] h [] (by decide +kernel) rfl trivial ?_
          refine rt hG z_K_isIn 108 2 35 [.int r7, .int x1] [] (by decide +kernel) mk_K_isIn lk_6_108 rfl ⟨rfl, Nat.le_of_ble_eq_true rfl⟩ (c_K_isIn (d := d + 1) h r7 x1 (ok_bind hO)) ?_
          rintro _ _ ⟨r8, rfl, rfl, hO⟩
          refine rb hG 4 38 39 [.iload 2] [] [] [(5, .ref r4), (0, .ref 57), (1, .int x1), (2, .int x2), (3, .int x3), (4, .int x4)] [.int x2, .int r8] h [] (by decide +kernel) rfl trivial ?_
          refine rjN hG (10) 49 39 (by decide +kernel) (by decide) (fun c9 => ?_) (fun c9 => ?_)
          · have hO := ok_pos c9 hO
            refine rbx hG 9 42 49 [.iload 3, .ldc_w 0, .iload 4, .ishl, .ior, .istore 3] [1] [] ((x3 ||| (sh (1 : Int32) x4))) (fun y10 => [(3, .int y10), (5, .ref r4), (0, .ref 57), (1, .int x1), (2, .int x2), (4, .int x4)]) (fun y10 => []) (fun y10 => h) [] (by decide +kernel) rfl trivial hO (fun y10 hO => ?_)
            refine rs hG [(0, .ref 57), (1, .int x1), (2, .int x2), (3, .int y10), (4, .int x4)] [2, 3, 4, 0, 5] rfl ?_
            exact j49 y10 x4 hO
          · have hO := ok_neg c9 hO
            refine rs hG [(0, .ref 57), (1, .int x1), (2, .int x2), (3, .int x3), (4, .int x4)] [1, 2, 3, 4, 5] rfl ?_
            exact j49 x3 x4 hO
    rw [eH5] at w9
    exact w9
  refine rb hG 7 0 5 [.ldc_w 0, .istore 3, .ldc_w 0, .istore 4] [0] [] [(4, .int (0 : Int32)), (3, .int (0 : Int32)), (0, .ref x0), (1, .int x1), (2, .int x2)] [] h [] (by decide +kernel) rfl trivial ?_
  refine rs hG [(0, .ref x0), (1, .int x1), (2, .int x2), (3, .int (0 : Int32)), (4, .int (0 : Int32))] [2, 3, 4, 1, 0] rfl ?_
  exact l5 (0 : Int32) (0 : Int32) hO
/-! GrainInn.Seating.takeWish(LGrainInn$State;III)Z -/
noncomputable def G_takeWish_j38 (x1 : Nat) (s1 : Int32) (s2 : Int32) (s4 : Int32) (s5 : Int32) (h : Hp) : Option (Int32 × Hp) := (G_tablesWith h x1 s4 s5).bind fun r1 => if inb s1 (ln 100) then (bnd (wr h 100 (Int32.toNatClampNeg s1) (s2 &&& r1)) fun h3 => some ((1 : Int32), h3)) else none
noncomputable def G_takeWish_j19 (x1 : Nat) (x2 : Int32) (x3 : Int32) (x4 : Int32) (h : Hp) : Option (Int32 × Hp) := if inb x3 (ln 100) then (if x2 = 0 then ((G_takeWish_j38 x1 x3 (h.1 100 (Int32.toNatClampNeg x3)) x4 (1 : Int32) h)) else ((G_takeWish_j38 x1 x3 (h.1 100 (Int32.toNatClampNeg x3)) x4 (0 : Int32) h))) else none
noncomputable def G_takeWish_j72 (x1 : Nat) (x3 : Int32) (x4 : Int32) (s0 : Nat) (h : Hp) : Option (Int32 × Hp) := if kd s0 = 20 ∧ inb x3 (ln s0) then (if kd s0 = 20 ∧ inb x3 (ln s0) then (bnd (wr h s0 (Int32.toNatClampNeg x3) ((h.1 s0 (Int32.toNatClampNeg x3)) ||| (sh (1 : Int32) x4))) fun h8 => if kd s0 = 20 ∧ inb x4 (ln s0) then (if kd s0 = 20 ∧ inb x4 (ln s0) then (bnd (wr h8 s0 (Int32.toNatClampNeg x4) ((h8.1 s0 (Int32.toNatClampNeg x4)) ||| (sh (1 : Int32) x3))) fun h11 => some ((1 : Int32), h11)) else none) else none) else none) else none
noncomputable def G_takeWish (h : Hp) (x1 : Nat) (x2 : Int32) (x3 : Int32) (x4 : Int32) : Option (Int32 × Hp) := (G_isHere h x3).bind fun r12 => if r12 = 0 then (some ((0 : Int32), h)) else (if x2 = 0 then ((G_takeWish_j19 x1 x2 x3 x4 h)) else (if x2 = (1 : Int32) then ((G_takeWish_j19 x1 x2 x3 x4 h)) else ((G_isHere h x4).bind fun r16 => if r16 = 0 then (some ((0 : Int32), h)) else (if x2 = (2 : Int32) then ((G_takeWish_j72 x1 x3 x4 101 h)) else ((G_takeWish_j72 x1 x3 x4 102 h))))))
set_option maxRecDepth 100000 in
set_option maxHeartbeats 4000000 in
theorem c_G_takeWish {E : En} {d : Nat} (h : Hp) (x1 : Nat) (x2 : Int32) (x3 : Int32) (x4 : Int32) {P : (Int32 × Hp) → Prop} (hO : Okk (G_takeWish h x1 x2 x3 x4) P) : Cn E (d + 4) z_G_takeWish [.ref 99, .ref x1, .int x2, .int x3, .int x4] h (RI P) := by
  refine cn_of (on := 6) (d := d + 3) ⟨rfl, by decide +kernel, Nat.le_of_ble_eq_true rfl⟩ (fun G hG => ?_)
  unfold G_takeWish at hO
  show G 0 [(0, .ref 99), (1, .ref x1), (2, .int x2), (3, .int x3), (4, .int x4)] [] h
  have j38 : ∀ (s1 : Int32) (s2 : Int32) (s4 : Int32) (s5 : Int32) (h : Hp), Okk (G_takeWish_j38 x1 s1 s2 s4 s5 h) P → G 38 [] [.int s5, .int s4, .ref x1, .int s2, .int s1, .ref 100] h := by
    intro s1 s2 s4 s5 h hO
    unfold G_takeWish_j38 at hO
    refine rt hG z_G_tablesWith 98 3 38 [.ref x1, .int s4, .int s5] [.int s2, .int s1, .ref 100] (by decide +kernel) mk_G_tablesWith lk_6_98 rfl ⟨rfl, Nat.le_of_ble_eq_true rfl⟩ (c_G_tablesWith (d := d) h x1 s4 s5 (ok_bind hO)) ?_
    rintro _ _ ⟨r1, rfl, rfl, hO⟩
    obtain ⟨g2, hO⟩ := ok_if hO
    refine rbx hG 5 41 43 [.iand, .iastore] [] [] (wr h 100 (Int32.toNatClampNeg s1) (s2 &&& r1)) (fun h3 => []) (fun h3 => []) (fun h3 => h3) [kd 100 = 20 ∧ inb s1 (ln 100)] (by decide +kernel) rfl ⟨kd_100, g2⟩ hO (fun h3 hO => ?_)
    refine rb hG 4 43 44 [.ldc_w 0] [1] [] [] [.int (1 : Int32)] h3 [] (by decide +kernel) rfl trivial ?_
    exact eZ hG 44 (by decide +kernel) rfl (Or.inr rfl) ⟨(1 : Int32), rfl, ok_some (Q := P) hO⟩
  have j19 : ∀ (h : Hp), Okk (G_takeWish_j19 x1 x2 x3 x4 h) P → G 19 [(0, .ref 99), (1, .ref x1), (2, .int x2), (3, .int x3), (4, .int x4)] [] h := by
    intro h hO
    unfold G_takeWish_j19 at hO
    obtain ⟨g4, hO⟩ := ok_if hO
    refine rb hG 11 19 30 [.aload 0, .invokeinterface 600 1, .iload 3, .dup2, .iaload, .aload 1, .iload 4, .iload 2] [] [] [(0, .ref 99), (1, .ref x1), (2, .int x2), (3, .int x3), (4, .int x4)] [.int x2, .int x4, .ref x1, .int (h.1 100 (Int32.toNatClampNeg x3)), .int x3, .ref 100] h [kd 99 = 6, kd 100 = 20 ∧ inb x3 (ln 100)] (by decide +kernel) rfl ⟨kd_99, ⟨kd_100, g4⟩⟩ ?_
    refine riN hG (7) 37 30 (by decide +kernel) (by decide) (fun c5 => ?_) (fun c5 => ?_)
    · have hO := ok_pos c5 hO
      refine rb hG 5 33 38 [.ldc_w 0] [1] [] [(0, .ref 99), (1, .ref x1), (2, .int x2), (3, .int x3), (4, .int x4)] [.int (1 : Int32), .int x4, .ref x1, .int (h.1 100 (Int32.toNatClampNeg x3)), .int x3, .ref 100] h [] (by decide +kernel) rfl trivial ?_
      refine rs hG [] [] rfl ?_
      exact j38 x3 (h.1 100 (Int32.toNatClampNeg x3)) x4 (1 : Int32) h hO
    · have hO := ok_neg c5 hO
      refine rb hG 4 37 38 [.ldc_w 0] [0] [] [(0, .ref 99), (1, .ref x1), (2, .int x2), (3, .int x3), (4, .int x4)] [.int (0 : Int32), .int x4, .ref x1, .int (h.1 100 (Int32.toNatClampNeg x3)), .int x3, .ref 100] h [] (by decide +kernel) rfl trivial ?_
      refine rs hG [] [] rfl ?_
      exact j38 x3 (h.1 100 (Int32.toNatClampNeg x3)) x4 (0 : Int32) h hO
  have j72 : ∀ (s0 : Nat) (h : Hp), Okk (G_takeWish_j72 x1 x3 x4 s0 h) P → G 72 [(3, .int x3), (4, .int x4)] [.ref s0] h := by
    intro s0 h hO
    unfold G_takeWish_j72 at hO
    obtain ⟨g6, hO⟩ := ok_if hO
    obtain ⟨g7, hO⟩ := ok_if hO
    refine rbx hG 13 72 85 [.astore 5, .aload 5, .iload 3, .dup2, .iaload, .ldc_w 0, .iload 4, .ishl, .ior, .iastore] [1] [] (wr h s0 (Int32.toNatClampNeg x3) ((h.1 s0 (Int32.toNatClampNeg x3)) ||| (sh (1 : Int32) x4))) (fun h8 => [(5, .ref s0), (3, .int x3), (4, .int x4)]) (fun h8 => []) (fun h8 => h8) [kd s0 = 20 ∧ inb x3 (ln s0), kd s0 = 20 ∧ inb x3 (ln s0)] (by decide +kernel) rfl ⟨g6, g7⟩ hO (fun h8 hO => ?_)
    obtain ⟨g9, hO⟩ := ok_if hO
    obtain ⟨g10, hO⟩ := ok_if hO
    refine rbx hG 12 85 96 [.aload 5, .iload 4, .dup2, .iaload, .ldc_w 0, .iload 3, .ishl, .ior, .iastore] [1] [] (wr h8 s0 (Int32.toNatClampNeg x4) ((h8.1 s0 (Int32.toNatClampNeg x4)) ||| (sh (1 : Int32) x3))) (fun h11 => [(5, .ref s0), (3, .int x3), (4, .int x4)]) (fun h11 => []) (fun h11 => h11) [kd s0 = 20 ∧ inb x4 (ln s0), kd s0 = 20 ∧ inb x4 (ln s0)] (by decide +kernel) rfl ⟨g9, g10⟩ hO (fun h11 hO => ?_)
    refine rb hG 4 96 97 [.ldc_w 0] [1] [] [(5, .ref s0), (3, .int x3), (4, .int x4)] [.int (1 : Int32)] h11 [] (by decide +kernel) rfl trivial ?_
    exact eZ hG 97 (by decide +kernel) rfl (Or.inr rfl) ⟨(1 : Int32), rfl, ok_some (Q := P) hO⟩
  refine rb hG 5 0 2 [.aload 0, .iload 3] [] [] [(0, .ref 99), (1, .ref x1), (2, .int x2), (3, .int x3), (4, .int x4)] [.int x3, .ref 99] h [] (by decide +kernel) rfl trivial ?_
  refine rv hG z_G_isHere 94 1 2 99 [.int x3] [] (by decide +kernel) mk_G_isHere lk_6_94 rcv_99 rfl ⟨rfl, Nat.le_of_ble_eq_true rfl⟩ (c_G_isHere (d := d + 1) h x3 (ok_bind hO)) ?_
  rintro _ _ ⟨r12, rfl, rfl, hO⟩
  refine riN hG (5) 10 5 (by decide +kernel) (by decide) (fun c13 => ?_) (fun c13 => ?_)
  · have hO := ok_pos c13 hO
    refine rb hG 4 8 9 [.ldc_w 0] [0] [] [(0, .ref 99), (1, .ref x1), (2, .int x2), (3, .int x3), (4, .int x4)] [.int (0 : Int32)] h [] (by decide +kernel) rfl trivial ?_
    exact eZ hG 9 (by decide +kernel) rfl (Or.inl rfl) ⟨(0 : Int32), rfl, ok_some (Q := P) hO⟩
  · have hO := ok_neg c13 hO
    refine rb hG 4 10 11 [.iload 2] [] [] [(0, .ref 99), (1, .ref x1), (2, .int x2), (3, .int x3), (4, .int x4)] [.int x2] h [] (by decide +kernel) rfl trivial ?_
    refine ri hG .eq (8) 19 11 (by decide +kernel) (by decide) (fun c14 => ?_) (fun c14 => ?_)
    · have hO := ok_pos c14 hO
      exact j19 h hO
    · have hO := ok_neg c14 hO
      refine rb hG 5 14 16 [.iload 2, .ldc_w 0] [1] [] [(0, .ref 99), (1, .ref x1), (2, .int x2), (3, .int x3), (4, .int x4)] [.int (1 : Int32), .int x2] h [] (by decide +kernel) rfl trivial ?_
      refine rjN hG (29) 45 16 (by decide +kernel) (by decide) (fun c15 => ?_) (fun c15 => ?_)
      · have hO := ok_pos c15 hO
        exact j19 h hO
      · have hO := ok_neg c15 hO
        refine rb hG 5 45 48 [.aload 0, .iload 4] [] [] [(0, .ref 99), (1, .ref x1), (2, .int x2), (3, .int x3), (4, .int x4)] [.int x4, .ref 99] h [] (by decide +kernel) rfl trivial ?_
        refine rv hG z_G_isHere 94 1 48 99 [.int x4] [] (by decide +kernel) mk_G_isHere lk_6_94 rcv_99 rfl ⟨rfl, Nat.le_of_ble_eq_true rfl⟩ (c_G_isHere (d := d + 1) h x4 (ok_bind hO)) ?_
        rintro _ _ ⟨r16, rfl, rfl, hO⟩
        refine riN hG (5) 56 51 (by decide +kernel) (by decide) (fun c17 => ?_) (fun c17 => ?_)
        · have hO := ok_pos c17 hO
          refine rb hG 4 54 55 [.ldc_w 0] [0] [] [(0, .ref 99), (1, .ref x1), (2, .int x2), (3, .int x3), (4, .int x4)] [.int (0 : Int32)] h [] (by decide +kernel) rfl trivial ?_
          exact eZ hG 55 (by decide +kernel) rfl (Or.inl rfl) ⟨(0 : Int32), rfl, ok_some (Q := P) hO⟩
        · have hO := ok_neg c17 hO
          refine rb hG 5 56 58 [.iload 2, .ldc_w 0] [2] [] [(0, .ref 99), (1, .ref x1), (2, .int x2), (3, .int x3), (4, .int x4)] [.int (2 : Int32), .int x2] h [] (by decide +kernel) rfl trivial ?_
          refine rjN hG (10) 68 58 (by decide +kernel) (by decide) (fun c18 => ?_) (fun c18 => ?_)
          · have hO := ok_pos c18 hO
            refine rb hG 6 61 72 [.aload 0, .invokeinterface 601 2] [] [] [(0, .ref 99), (1, .ref x1), (2, .int x2), (3, .int x3), (4, .int x4)] [.ref 101] h [kd 99 = 6] (by decide +kernel) rfl kd_99 ?_
            refine rs hG [(3, .int x3), (4, .int x4)] [3, 4] rfl ?_
            exact j72 101 h hO
          · have hO := ok_neg c18 hO
            refine rb hG 5 68 72 [.aload 0, .invokeinterface 602 3] [] [] [(0, .ref 99), (1, .ref x1), (2, .int x2), (3, .int x3), (4, .int x4)] [.ref 102] h [kd 99 = 6] (by decide +kernel) rfl kd_99 ?_
            refine rs hG [(3, .int x3), (4, .int x4)] [3, 4] rfl ?_
            exact j72 102 h hO
/-! GrainInn.Seating.weigh(II)V -/
noncomputable def G_weigh_j56 (h : Hp) : Option Hp := bnd (wr h 99 8 ((h.1 99 8) + (1 : Int32))) fun h1 => some h1
noncomputable def G_weigh_j31 (x1 : Int32) (x2 : Int32) (h : Hp) : Option Hp := bnd (wr h 99 9 x1) fun h2 => bnd (wr h2 99 10 x2) fun h3 => bnd (cpy h3 105 (Int32.toNatClampNeg (0 : Int32)) 106 (Int32.toNatClampNeg (0 : Int32)) (Int32.toNatClampNeg (6 : Int32))) fun h4 => (G_weigh_j56 h4)
noncomputable def G_weigh (h : Hp) (x1 : Int32) (x2 : Int32) : Option Hp := if (h.1 99 8) = 0 then ((G_weigh_j31 x1 x2 h)) else (if x1 < (h.1 99 9) then ((G_weigh_j31 x1 x2 h)) else (if x1 = (h.1 99 9) then (if (h.1 99 10) ≤ x2 then ((G_weigh_j56 h)) else ((G_weigh_j31 x1 x2 h))) else ((G_weigh_j56 h))))
set_option maxRecDepth 100000 in
set_option maxHeartbeats 4000000 in
theorem c_G_weigh {E : En} {d : Nat} (h : Hp) (x1 : Int32) (x2 : Int32) {P : Hp → Prop} (hO : Okk (G_weigh h x1 x2) P) : Cn E (d + 1) z_G_weigh [.ref 99, .int x1, .int x2] h (RV P) := by
  refine cn_of (on := 6) (d := d + 0) ⟨rfl, by decide +kernel, Nat.le_of_ble_eq_true rfl⟩ (fun G hG => ?_)
  unfold G_weigh at hO
  show G 0 [(0, .ref 99), (1, .int x1), (2, .int x2)] [] h
  have j56 : ∀ (h : Hp), Okk (G_weigh_j56 h) P → G 56 [(0, .ref 99)] [] h := by
    intro h hO
    unfold G_weigh_j56 at hO
    refine rbx hG 9 56 66 [.aload 0, .dup, .getfield 608, .ldc_w 0, .iadd, .putfield 608] [1] [] (wr h 99 8 ((h.1 99 8) + (1 : Int32))) (fun h1 => [(0, .ref 99)]) (fun h1 => []) (fun h1 => h1) [kd 99 = 6, kd 99 = 6] (by decide +kernel) rfl ⟨kd_99, kd_99⟩ hO (fun h1 hO => ?_)
    exact eV hG 66 (by decide +kernel) rfl ⟨rfl, ok_some (Q := P) hO⟩
  have j31 : ∀ (h : Hp), Okk (G_weigh_j31 x1 x2 h) P → G 31 [(0, .ref 99), (1, .int x1), (2, .int x2)] [] h := by
    intro h hO
    unfold G_weigh_j31 at hO
    refine rbx hG 6 31 36 [.aload 0, .iload 1, .putfield 609] [] [] (wr h 99 9 x1) (fun h2 => [(0, .ref 99), (1, .int x1), (2, .int x2)]) (fun h2 => []) (fun h2 => h2) [kd 99 = 6] (by decide +kernel) rfl kd_99 hO (fun h2 hO => ?_)
    refine rbx hG 6 36 41 [.aload 0, .iload 2, .putfield 610] [] [] (wr h2 99 10 x2) (fun h3 => [(0, .ref 99), (1, .int x1), (2, .int x2)]) (fun h3 => []) (fun h3 => h3) [kd 99 = 6] (by decide +kernel) rfl kd_99 hO (fun h3 hO => ?_)
    refine rbx hG 11 41 56 [.aload 0, .invokeinterface 605 6, .ldc_w 0, .aload 0, .invokeinterface 606 7, .ldc_w 0, .ldc_w 1, .invokestatic 3] [0, 6] [] (cpy h3 105 (Int32.toNatClampNeg (0 : Int32)) 106 (Int32.toNatClampNeg (0 : Int32)) (Int32.toNatClampNeg (6 : Int32))) (fun h4 => [(0, .ref 99), (1, .int x1), (2, .int x2)]) (fun h4 => []) (fun h4 => h4) [kd 99 = 6, kd 99 = 6, sm [] ≤ 8 ∧ (kd 105 = 20 ∧ kd 106 = 20) ∧ (¬ (0 : Int32) < 0 ∧ ¬ (0 : Int32) < 0 ∧ ¬ (6 : Int32) < 0) ∧ (Int32.toNatClampNeg (0 : Int32)) + (Int32.toNatClampNeg (6 : Int32)) ≤ ln 105 ∧ (Int32.toNatClampNeg (0 : Int32)) + (Int32.toNatClampNeg (6 : Int32)) ≤ ln 106] (by decide +kernel) rfl ⟨kd_99, kd_99, ⟨Nat.le_of_ble_eq_true rfl, (by decide +kernel)⟩⟩ hO (fun h4 hO => ?_)
    refine rs hG [(0, .ref 99)] [0] rfl ?_
    exact j56 h4 hO
  refine rb hG 5 0 4 [.aload 0, .getfield 608] [] [] [(0, .ref 99), (1, .int x1), (2, .int x2)] [.int (h.1 99 8)] h [kd 99 = 6] (by decide +kernel) rfl kd_99 ?_
  refine ri hG .eq (27) 31 4 (by decide +kernel) (by decide) (fun c5 => ?_) (fun c5 => ?_)
  · have hO := ok_pos c5 hO
    exact j31 h hO
  · have hO := ok_neg c5 hO
    refine rb hG 6 7 12 [.iload 1, .aload 0, .getfield 609] [] [] [(0, .ref 99), (1, .int x1), (2, .int x2)] [.int (h.1 99 9), .int x1] h [kd 99 = 6] (by decide +kernel) rfl kd_99 ?_
    refine rj hG .lt (19) 31 12 (by decide +kernel) (by decide) (fun c6 => ?_) (fun c6 => ?_)
    · have hO := ok_pos c6 hO
      exact j31 h hO
    · have hO := ok_neg c6 hO
      refine rb hG 6 15 20 [.iload 1, .aload 0, .getfield 609] [] [] [(0, .ref 99), (1, .int x1), (2, .int x2)] [.int (h.1 99 9), .int x1] h [kd 99 = 6] (by decide +kernel) rfl kd_99 ?_
      refine rjN hG (36) 56 20 (by decide +kernel) (by decide) (fun c7 => ?_) (fun c7 => ?_)
      · have hO := ok_pos c7 hO
        refine rb hG 6 23 28 [.iload 2, .aload 0, .getfield 610] [] [] [(0, .ref 99), (1, .int x1), (2, .int x2)] [.int (h.1 99 10), .int x2] h [kd 99 = 6] (by decide +kernel) rfl kd_99 ?_
        refine rj hG .ge (28) 56 28 (by decide +kernel) (by decide) (fun c8 => ?_) (fun c8 => ?_)
        · have hO := ok_pos c8 hO
          refine rs hG [(0, .ref 99)] [0] rfl ?_
          exact j56 h hO
        · have hO := ok_neg c8 hO
          exact j31 h hO
      · have hO := ok_neg c7 hO
        refine rs hG [(0, .ref 99)] [0] rfl ?_
        exact j56 h hO
/-! GrainInn.Seating.maySit(II)Z -/
noncomputable def G_maySit_j32 (h : Hp) : Option Int32 := some (0 : Int32)
noncomputable def G_maySit_j95 (s0 : Int32) (h : Hp) : Option Int32 := if s0 = 0 ∨ s0 = 1 then (some s0) else none
noncomputable def G_maySit_j94 (h : Hp) : Option Int32 := (G_maySit_j95 (0 : Int32) h)
noncomputable def G_maySit (h : Hp) (x1 : Int32) (x2 : Int32) : Option Int32 := (K_isOf x1 (0 : Int32) (6 : Int32)).bind fun r2 => if r2 = 0 then ((G_maySit_j32 h)) else ((K_isOf x2 (0 : Int32) (5 : Int32)).bind fun r4 => if r4 = 0 then ((G_maySit_j32 h)) else (if inb x1 (ln 100) then ((K_isIn (h.1 100 (Int32.toNatClampNeg x1)) x2).bind fun r7 => if r7 = 0 then ((G_maySit_j32 h)) else (if inb x2 (ln 104) then (bnd ((h.1 104 (Int32.toNatClampNeg x2))) fun y10 => bnd (((sh (1 : Int32) x1) - (1 : Int32))) fun y11 => (J_bitCount y10).bind fun r12 => if kd (Int32.toNatClampNeg (h.1 99 7)) = 1 then ((H_seatsOf h (Int32.toNatClampNeg (h.1 99 7)) x2).bind fun r14 => if r14 ≤ r12 then ((G_maySit_j94 h)) else (if inb x1 (ln 101) then (if ((h.1 101 (Int32.toNatClampNeg x1)) &&& y10) = 0 then (if inb x1 (ln 102) then (if (((h.1 102 (Int32.toNatClampNeg x1)) &&& y11) &&& (y10 ^^^ (-1 : Int32))) = 0 then ((G_maySit_j95 (1 : Int32) h)) else ((G_maySit_j94 h))) else none) else ((G_maySit_j94 h))) else none)) else none) else none)) else none))
set_option maxRecDepth 100000 in
set_option maxHeartbeats 4000000 in
theorem c_G_maySit {E : En} {d : Nat} (h : Hp) (x1 : Int32) (x2 : Int32) {P : Int32 → Prop} (hO : Okk (G_maySit h x1 x2) P) : Cn E (d + 3) z_G_maySit [.ref 99, .int x1, .int x2] h (RIp h P) := by
  refine cn_of (on := 6) (d := d + 2) ⟨rfl, by decide +kernel, Nat.le_of_ble_eq_true rfl⟩ (fun G hG => ?_)
  unfold G_maySit at hO
  show G 0 [(0, .ref 99), (1, .int x1), (2, .int x2)] [] h
  have j32 : Okk (G_maySit_j32 h) P → G 32 [] [] h := by
    intro hO
    unfold G_maySit_j32 at hO
    refine rb hG 4 32 33 [.ldc_w 0] [0] [] [] [.int (0 : Int32)] h [] (by decide +kernel) rfl trivial ?_
    exact eZ hG 33 (by decide +kernel) rfl (Or.inl rfl) ⟨(0 : Int32), rfl, rfl, ok_some (Q := P) hO⟩
  have j95 : ∀ (s0 : Int32), Okk (G_maySit_j95 s0 h) P → G 95 [] [.int s0] h := by
    intro s0 hO
    unfold G_maySit_j95 at hO
    obtain ⟨g1, hO⟩ := ok_if hO
    exact eZ hG 95 (by decide +kernel) rfl g1 ⟨s0, rfl, rfl, ok_some (Q := P) hO⟩
  have j94 : Okk (G_maySit_j94 h) P → G 94 [] [] h := by
    intro hO
    unfold G_maySit_j94 at hO
    refine rb hG 4 94 95 [.ldc_w 0] [0] [] [] [.int (0 : Int32)] h [] (by decide +kernel) rfl trivial ?_
    exact j95 (0 : Int32) hO
  refine rb hG 6 0 4 [.iload 1, .ldc_w 0, .ldc_w 1] [0, 6] [] [(0, .ref 99), (1, .int x1), (2, .int x2)] [.int (6 : Int32), .int (0 : Int32), .int x1] h [] (by decide +kernel) rfl trivial ?_
  refine rt hG z_K_isOf 136 3 4 [.int x1, .int (0 : Int32), .int (6 : Int32)] [] (by decide +kernel) mk_K_isOf lk_6_136 rfl ⟨rfl, Nat.le_of_ble_eq_true rfl⟩ (c_K_isOf (d := d + 1) h x1 (0 : Int32) (6 : Int32) (ok_bind hO)) ?_
  rintro _ _ ⟨r2, rfl, rfl, hO⟩
  refine ri hG .eq (25) 32 7 (by decide +kernel) (by decide) (fun c3 => ?_) (fun c3 => ?_)
  · have hO := ok_pos c3 hO
    refine rs hG [] [] rfl ?_
    exact j32 hO
  · have hO := ok_neg c3 hO
    refine rb hG 6 10 13 [.iload 2, .ldc_w 0, .ldc_w 1] [0, 5] [] [(0, .ref 99), (1, .int x1), (2, .int x2)] [.int (5 : Int32), .int (0 : Int32), .int x2] h [] (by decide +kernel) rfl trivial ?_
    refine rt hG z_K_isOf 136 3 13 [.int x2, .int (0 : Int32), .int (5 : Int32)] [] (by decide +kernel) mk_K_isOf lk_6_136 rfl ⟨rfl, Nat.le_of_ble_eq_true rfl⟩ (c_K_isOf (d := d + 1) h x2 (0 : Int32) (5 : Int32) (ok_bind hO)) ?_
    rintro _ _ ⟨r4, rfl, rfl, hO⟩
    refine ri hG .eq (16) 32 16 (by decide +kernel) (by decide) (fun c5 => ?_) (fun c5 => ?_)
    · have hO := ok_pos c5 hO
      refine rs hG [] [] rfl ?_
      exact j32 hO
    · have hO := ok_neg c5 hO
      obtain ⟨g6, hO⟩ := ok_if hO
      refine rb hG 8 19 26 [.aload 0, .invokeinterface 600 1, .iload 1, .iaload, .iload 2] [] [] [(0, .ref 99), (1, .int x1), (2, .int x2)] [.int x2, .int (h.1 100 (Int32.toNatClampNeg x1))] h [kd 99 = 6, kd 100 = 20 ∧ inb x1 (ln 100)] (by decide +kernel) rfl ⟨kd_99, ⟨kd_100, g6⟩⟩ ?_
      refine rt hG z_K_isIn 108 2 26 [.int (h.1 100 (Int32.toNatClampNeg x1)), .int x2] [] (by decide +kernel) mk_K_isIn lk_6_108 rfl ⟨rfl, Nat.le_of_ble_eq_true rfl⟩ (c_K_isIn (d := d + 1) h (h.1 100 (Int32.toNatClampNeg x1)) x2 (ok_bind hO)) ?_
      rintro _ _ ⟨r7, rfl, rfl, hO⟩
      refine riN hG (5) 34 29 (by decide +kernel) (by decide) (fun c8 => ?_) (fun c8 => ?_)
      · have hO := ok_pos c8 hO
        refine rs hG [] [] rfl ?_
        exact j32 hO
      · have hO := ok_neg c8 hO
        obtain ⟨g9, hO⟩ := ok_if hO
        refine rbx hG 8 34 41 [.aload 0, .invokeinterface 604 5, .iload 2, .iaload, .istore 3] [] [] ((h.1 104 (Int32.toNatClampNeg x2))) (fun y10 => [(3, .int y10), (0, .ref 99), (1, .int x1), (2, .int x2)]) (fun y10 => []) (fun y10 => h) [kd 99 = 6, kd 104 = 20 ∧ inb x2 (ln 104)] (by decide +kernel) rfl ⟨kd_99, ⟨kd_104, g9⟩⟩ hO (fun y10 hO => ?_)
        refine rbx hG 9 41 48 [.ldc_w 0, .iload 1, .ishl, .ldc_w 0, .isub, .istore 4] [1] [] (((sh (1 : Int32) x1) - (1 : Int32))) (fun y11 => [(4, .int y11), (3, .int y10), (0, .ref 99), (1, .int x1), (2, .int x2)]) (fun y11 => []) (fun y11 => h) [] (by decide +kernel) rfl trivial hO (fun y11 hO => ?_)
        refine rb hG 4 48 49 [.iload 3] [] [] [(4, .int y11), (3, .int y10), (0, .ref 99), (1, .int x1), (2, .int x2)] [.int y10] h [] (by decide +kernel) rfl trivial ?_
        refine rt hG z_J_bitCount 128 1 49 [.int y10] [] (by decide +kernel) mk_J_bitCount lk_6_128 rfl ⟨rfl, Nat.le_of_ble_eq_true rfl⟩ (c_J_bitCount (d := d + 1) h y10 (ok_bind hO)) ?_
        rintro _ _ ⟨r12, rfl, rfl, hO⟩
        obtain ⟨g13, hO⟩ := ok_if hO
        refine rb hG 6 52 57 [.aload 0, .instanceof 607, .iload 2] [] [] [(4, .int y11), (3, .int y10), (0, .ref 99), (1, .int x1), (2, .int x2)] [.int x2, .ref (Int32.toNatClampNeg (h.1 99 7)), .int r12] h [kd 99 = 6] (by decide +kernel) rfl kd_99 ?_
        refine rv hG z_H_seatsOf 140 1 57 (Int32.toNatClampNeg (h.1 99 7)) [.int x2] [.int r12] (by decide +kernel) mk_H_seatsOf lk_6_140 (rcv_H g13) rfl ⟨rfl, Nat.le_of_ble_eq_true rfl⟩ (c_H_seatsOf (d := d) h (Int32.toNatClampNeg (h.1 99 7)) x2 (ok_bind hO)) ?_
        rintro _ _ ⟨r14, rfl, rfl, hO⟩
        refine rj hG .ge (34) 94 60 (by decide +kernel) (by decide) (fun c15 => ?_) (fun c15 => ?_)
        · have hO := ok_pos c15 hO
          refine rs hG [] [] rfl ?_
          exact j94 hO
        · have hO := ok_neg c15 hO
          obtain ⟨g16, hO⟩ := ok_if hO
          refine rb hG 9 63 71 [.aload 0, .invokeinterface 601 2, .iload 1, .iaload, .iload 3, .iand] [] [] [(4, .int y11), (3, .int y10), (0, .ref 99), (1, .int x1), (2, .int x2)] [.int ((h.1 101 (Int32.toNatClampNeg x1)) &&& y10)] h [kd 99 = 6, kd 101 = 20 ∧ inb x1 (ln 101)] (by decide +kernel) rfl ⟨kd_99, ⟨kd_101, g16⟩⟩ ?_
          refine riN hG (23) 94 71 (by decide +kernel) (by decide) (fun c17 => ?_) (fun c17 => ?_)
          · have hO := ok_pos c17 hO
            obtain ⟨g18, hO⟩ := ok_if hO
            refine rb hG 13 74 87 [.aload 0, .invokeinterface 602 3, .iload 1, .iaload, .iload 4, .iand, .iload 3, .ldc_w 0, .ixor, .iand] [-1] [] [(4, .int y11), (3, .int y10), (0, .ref 99), (1, .int x1), (2, .int x2)] [.int (((h.1 102 (Int32.toNatClampNeg x1)) &&& y11) &&& (y10 ^^^ (-1 : Int32)))] h [kd 99 = 6, kd 102 = 20 ∧ inb x1 (ln 102)] (by decide +kernel) rfl ⟨kd_99, ⟨kd_102, g18⟩⟩ ?_
            refine riN hG (7) 94 87 (by decide +kernel) (by decide) (fun c19 => ?_) (fun c19 => ?_)
            · have hO := ok_pos c19 hO
              refine rb hG 5 90 95 [.ldc_w 0] [1] [] [(4, .int y11), (3, .int y10), (0, .ref 99), (1, .int x1), (2, .int x2)] [.int (1 : Int32)] h [] (by decide +kernel) rfl trivial ?_
              refine rs hG [] [] rfl ?_
              exact j95 (1 : Int32) hO
            · have hO := ok_neg c19 hO
              refine rs hG [] [] rfl ?_
              exact j94 hO
          · have hO := ok_neg c17 hO
            refine rs hG [] [] rfl ?_
            exact j94 hO
/-! GrainInn.Seating.seatFrom(III)V -/
noncomputable def G_seatFrom_j17 (rec : Hp → Int32 → Int32 → Int32 → Option Hp) (x2 : Int32) (x3 : Int32) (h : Hp) : Option Hp := (G_weigh h x2 x3).bind fun h1 => some h1
noncomputable def G_seatFrom_j191 (rec : Hp → Int32 → Int32 → Int32 → Option Hp) (h : Hp) : Option Hp := some h
noncomputable def G_seatFrom_j185 (rec : Hp → Int32 → Int32 → Int32 → Option Hp) (x1 : Int32) (x2 : Int32) (x3 : Int32) (x4 : Int32) (h : Hp) : Option ((Int32 × Hp) ⊕ Hp) := bnd ((x4 + (1 : Int32))) fun y2 => some (.inl (y2, h))
noncomputable def G_seatFrom_j121 (rec : Hp → Int32 → Int32 → Int32 → Option Hp) (x1 : Int32) (x2 : Int32) (x3 : Int32) (x4 : Int32) (x5 : Int32) (s0 : Int32) (s1 : Int32) (h : Hp) : Option ((Int32 × Hp) ⊕ Hp) := bnd ((s0 + s1)) fun y3 => if inb x4 (ln 104) then (if inb x4 (ln 104) then (bnd (wr h 104 (Int32.toNatClampNeg x4) ((h.1 104 (Int32.toNatClampNeg x4)) ||| (sh (1 : Int32) x1))) fun h6 => if inb x1 (ln 105) then (bnd (wr h6 105 (Int32.toNatClampNeg x1) x4) fun h8 => if kd (Int32.toNatClampNeg (h8.1 99 7)) = 1 then ((H_priceOf h8 (Int32.toNatClampNeg (h8.1 99 7)) x4).bind fun r10 => (rec h8 (x1 + (1 : Int32)) (x2 + x5) (x3 + (y3 * r10))).bind fun h11 => if inb x4 (ln 104) then (if inb x4 (ln 104) then (bnd (wr h11 104 (Int32.toNatClampNeg x4) ((h11.1 104 (Int32.toNatClampNeg x4)) &&& ((sh (1 : Int32) x1) ^^^ (-1 : Int32)))) fun h14 => (G_seatFrom_j185 rec x1 x2 x3 x4 h14)) else none) else none) else none) else none) else none) else none
noncomputable def G_seatFrom_b27 (rec : Hp → Int32 → Int32 → Int32 → Option Hp) (x1 : Int32) (x2 : Int32) (x3 : Int32) (x4 : Int32) (h : Hp) : Option ((Int32 × Hp) ⊕ Hp) := if kd (Int32.toNatClampNeg (h.1 99 7)) = 1 then (if (h.1 (Int32.toNatClampNeg (h.1 99 7)) 5) ≤ x4 then (((G_seatFrom_j191 rec h).map Sum.inr)) else (if (5 : Int32) ≤ x4 then (((G_seatFrom_j191 rec h).map Sum.inr)) else ((G_maySit h x1 x4).bind fun r18 => if r18 = 0 then ((G_seatFrom_j185 rec x1 x2 x3 x4 h)) else ((H_quarrelsOf h (Int32.toNatClampNeg (h.1 99 7)) x1).bind fun r20 => if inb x4 (ln 103) then ((J_bitCount (r20 &&& (h.1 103 (Int32.toNatClampNeg x4)))).bind fun r22 => (H_quarrelsOf h (Int32.toNatClampNeg (h.1 99 7)) x1).bind fun r23 => if inb x4 (ln 104) then ((J_bitCount (r23 &&& (h.1 104 (Int32.toNatClampNeg x4)))).bind fun r25 => bnd ((r22 + r25)) fun y26 => if inb x4 (ln 104) then (if (h.1 104 (Int32.toNatClampNeg x4)) = 0 then (if inb x4 (ln 103) then ((J_bitCount (h.1 103 (Int32.toNatClampNeg x4))).bind fun r30 => (G_seatFrom_j121 rec x1 x2 x3 x4 y26 (1 : Int32) r30 h)) else none) else ((G_seatFrom_j121 rec x1 x2 x3 x4 y26 (1 : Int32) (0 : Int32) h))) else none) else none) else none)))) else none
noncomputable def G_seatFrom_l27 (rec : Hp → Int32 → Int32 → Int32 → Option Hp) (x1 : Int32) (x2 : Int32) (x3 : Int32) (x4 : Int32) (h : Hp) : Option Hp := lp (fun s : (Int32 × Hp) => G_seatFrom_b27 rec x1 x2 x3 s.1 s.2) (x4, h)
theorem G_seatFrom_l27_eq (rec : Hp → Int32 → Int32 → Int32 → Option Hp) (x1 : Int32) (x2 : Int32) (x3 : Int32) (x4 : Int32) (h : Hp) : G_seatFrom_l27 rec x1 x2 x3 x4 h = (G_seatFrom_b27 rec x1 x2 x3 x4 h).bind (Sum.elim (fun q : (Int32 × Hp) => G_seatFrom_l27 rec x1 x2 x3 q.1 q.2) some) := lp_eq _ _
noncomputable def G_seatFrom_b (rec : Hp → Int32 → Int32 → Int32 → Option Hp) (h : Hp) (x1 : Int32) (x2 : Int32) (x3 : Int32) : Option Hp := if kd (Int32.toNatClampNeg (h.1 99 7)) = 1 then (if (h.1 (Int32.toNatClampNeg (h.1 99 7)) 6) ≤ x1 then ((G_seatFrom_j17 rec x2 x3 h)) else (if x1 < (6 : Int32) then ((G_seatFrom_l27 rec x1 x2 x3 (0 : Int32) h)) else ((G_seatFrom_j17 rec x2 x3 h)))) else none
noncomputable def G_seatFrom : Nat → Hp → Int32 → Int32 → Int32 → Option Hp
  | 0 => fun _ _ _ _ => none
  | n + 1 => G_seatFrom_b (G_seatFrom n)
set_option maxRecDepth 100000 in
set_option maxHeartbeats 4000000 in
theorem cb_G_seatFrom {E : En} {D : Nat} (rec : Hp → Int32 → Int32 → Int32 → Option Hp) (hrec : ∀ (h : Hp) (x1 : Int32) (x2 : Int32) (x3 : Int32) (P : Hp → Prop), Okk (rec h x1 x2 x3) P → Cn E (D + 4) z_G_seatFrom [.ref 99, .int x1, .int x2, .int x3] h (RV P)) (h : Hp) (x1 : Int32) (x2 : Int32) (x3 : Int32) {P : Hp → Prop} (hO : Okk (G_seatFrom_b rec h x1 x2 x3) P) : Cn E (D + 4 + 1) z_G_seatFrom [.ref 99, .int x1, .int x2, .int x3] h (RV P) := by
  refine cn_of (on := 6) (d := D + 4) ⟨rfl, by decide +kernel, by simp only [lg_sl]; exact Nat.le_of_ble_eq_true rfl⟩ (fun G hG => ?_)
  unfold G_seatFrom_b at hO
  show G 0 [(0, .ref 99), (1, .int x1), (2, .int x2), (3, .int x3)] [] h
  have j17 : ∀ (h : Hp), Okk (G_seatFrom_j17 rec x2 x3 h) P → G 17 [(0, .ref 99), (2, .int x2), (3, .int x3)] [] h := by
    intro h hO
    unfold G_seatFrom_j17 at hO
    refine rb hG 6 17 20 [.aload 0, .iload 2, .iload 3] [] [] [(0, .ref 99), (2, .int x2), (3, .int x3)] [.int x3, .int x2, .ref 99] h [] (by decide +kernel) rfl trivial ?_
    refine rv hG z_G_weigh 115 2 20 99 [.int x2, .int x3] [] (by decide +kernel) mk_G_weigh lk_6_115 rcv_99 rfl ⟨rfl, Nat.le_of_ble_eq_true rfl⟩ (c_G_weigh (d := D + 3) h x2 x3 (ok_bind hO)) ?_
    rintro _ h1 ⟨rfl, hO⟩
    exact eV hG 23 (by decide +kernel) rfl ⟨rfl, ok_some (Q := P) hO⟩
  have j191 : ∀ (h : Hp), Okk (G_seatFrom_j191 rec h) P → G 191 [] [] h := by
    intro h hO
    unfold G_seatFrom_j191 at hO
    exact eV hG 191 (by decide +kernel) rfl ⟨rfl, ok_some (Q := P) hO⟩
  have l27 : ∀ (x4 : Int32) (h : Hp), Okk (G_seatFrom_l27 rec x1 x2 x3 x4 h) P → G 27 [(0, .ref 99), (1, .int x1), (2, .int x2), (3, .int x3), (4, .int x4)] [] h := by
    intro x4 h hO
    obtain ⟨H27, eH27⟩ : ∃ q : (Int32 × Hp) → Prop, q = fun s => G 27 [(0, .ref 99), (1, .int x1), (2, .int x2), (3, .int x3), (4, .int (s.1))] [] (s.2) := ⟨_, rfl⟩
    have w9 : H27 (x4, h) := by
      refine lp_wp (f := fun s : (Int32 × Hp) => G_seatFrom_b27 rec x1 x2 x3 s.1 s.2) (H := H27) (Q := P) ?_ (x4, h) hO
      rintro ⟨x4, h⟩ hO
      rw [eH27]
      show G 27 [(0, .ref 99), (1, .int x1), (2, .int x2), (3, .int x3), (4, .int x4)] [] h
      have k27 : ∀ s : (Int32 × Hp), H27 s → G 27 [(0, .ref 99), (1, .int x1), (2, .int x2), (3, .int x3), (4, .int (s.1))] [] (s.2) := fun s q => by rw [eH27] at q; exact q
      replace hO : Okk (G_seatFrom_b27 rec x1 x2 x3 x4 h) (Sum.elim H27 P) := hO
      clear eH27
      have j185 : ∀ (x4 : Int32) (h : Hp), Okk (G_seatFrom_j185 rec x1 x2 x3 x4 h) (Sum.elim H27 P) → G 185 [(0, .ref 99), (1, .int x1), (2, .int x2), (3, .int x3), (4, .int x4)] [] h := by
        intro x4 h hO
        unfold G_seatFrom_j185 at hO
        refine rbx hG 4 185 188 [.iinc 4 0] [1] [] ((x4 + (1 : Int32))) (fun y2 => [(4, .int y2), (0, .ref 99), (1, .int x1), (2, .int x2), (3, .int x3)]) (fun y2 => []) (fun y2 => h) [] (by decide +kernel) rfl trivial hO (fun y2 hO => ?_)
        refine rb hG 4 188 27 [] [] [] [(4, .int y2), (0, .ref 99), (1, .int x1), (2, .int x2), (3, .int x3)] [] h [] (by decide +kernel) rfl trivial ?_
        refine rs hG [(0, .ref 99), (1, .int x1), (2, .int x2), (3, .int x3), (4, .int y2)] [1, 2, 3, 4, 0] rfl ?_
        exact k27 (y2, h) (ok_some (Q := (Sum.elim H27 P)) hO)
      have j121 : ∀ (x4 : Int32) (x5 : Int32) (s0 : Int32) (s1 : Int32) (h : Hp), Okk (G_seatFrom_j121 rec x1 x2 x3 x4 x5 s0 s1 h) (Sum.elim H27 P) → G 121 [(0, .ref 99), (1, .int x1), (2, .int x2), (3, .int x3), (4, .int x4), (5, .int x5)] [.int s1, .int s0] h := by
        intro x4 x5 s0 s1 h hO
        unfold G_seatFrom_j121 at hO
        refine rbx hG 5 121 124 [.iadd, .istore 6] [] [] ((s0 + s1)) (fun y3 => [(6, .int y3), (0, .ref 99), (1, .int x1), (2, .int x2), (3, .int x3), (4, .int x4), (5, .int x5)]) (fun y3 => []) (fun y3 => h) [] (by decide +kernel) rfl trivial hO (fun y3 hO => ?_)
        obtain ⟨g4, hO⟩ := ok_if hO
        obtain ⟨g5, hO⟩ := ok_if hO
        refine rbx hG 13 124 137 [.aload 0, .invokeinterface 604 5, .iload 4, .dup2, .iaload, .ldc_w 0, .iload 1, .ishl, .ior, .iastore] [1] [] (wr h 104 (Int32.toNatClampNeg x4) ((h.1 104 (Int32.toNatClampNeg x4)) ||| (sh (1 : Int32) x1))) (fun h6 => [(6, .int y3), (0, .ref 99), (1, .int x1), (2, .int x2), (3, .int x3), (4, .int x4), (5, .int x5)]) (fun h6 => []) (fun h6 => h6) [kd 99 = 6, kd 104 = 20 ∧ inb x4 (ln 104), kd 104 = 20 ∧ inb x4 (ln 104)] (by decide +kernel) rfl ⟨kd_99, ⟨kd_104, g4⟩, ⟨kd_104, g5⟩⟩ hO (fun h6 hO => ?_)
        obtain ⟨g7, hO⟩ := ok_if hO
        refine rbx hG 8 137 145 [.aload 0, .invokeinterface 605 6, .iload 1, .iload 4, .iastore] [] [] (wr h6 105 (Int32.toNatClampNeg x1) x4) (fun h8 => [(6, .int y3), (0, .ref 99), (1, .int x1), (2, .int x2), (3, .int x3), (4, .int x4), (5, .int x5)]) (fun h8 => []) (fun h8 => h8) [kd 99 = 6, kd 105 = 20 ∧ inb x1 (ln 105)] (by decide +kernel) rfl ⟨kd_99, ⟨kd_105, g7⟩⟩ hO (fun h8 hO => ?_)
        obtain ⟨g9, hO⟩ := ok_if hO
        refine rb hG 15 145 162 [.aload 0, .iload 1, .ldc_w 0, .iadd, .iload 2, .iload 5, .iadd, .iload 3, .iload 6, .aload 0, .instanceof 607, .iload 4] [1] [] [(6, .int y3), (0, .ref 99), (1, .int x1), (2, .int x2), (3, .int x3), (4, .int x4), (5, .int x5)] [.int x4, .ref (Int32.toNatClampNeg (h8.1 99 7)), .int y3, .int x3, .int (x2 + x5), .int (x1 + (1 : Int32)), .ref 99] h8 [kd 99 = 6] (by decide +kernel) rfl kd_99 ?_
        refine rv hG z_H_priceOf 133 1 162 (Int32.toNatClampNeg (h8.1 99 7)) [.int x4] [.int y3, .int x3, .int (x2 + x5), .int (x1 + (1 : Int32)), .ref 99] (by decide +kernel) mk_H_priceOf lk_6_133 (rcv_H g9) rfl ⟨rfl, Nat.le_of_ble_eq_true rfl⟩ (c_H_priceOf (d := D + 2) h8 (Int32.toNatClampNeg (h8.1 99 7)) x4 (ok_bind hO)) ?_
        rintro _ _ ⟨r10, rfl, rfl, hO⟩
        refine rb hG 5 165 167 [.imul, .iadd] [] [] [(6, .int y3), (0, .ref 99), (1, .int x1), (2, .int x2), (3, .int x3), (4, .int x4), (5, .int x5)] [.int (x3 + (y3 * r10)), .int (x2 + x5), .int (x1 + (1 : Int32)), .ref 99] h8 [] (by decide +kernel) rfl trivial ?_
        refine rv hG z_G_seatFrom 90 3 167 99 [.int (x1 + (1 : Int32)), .int (x2 + x5), .int (x3 + (y3 * r10))] [] (by decide +kernel) mk_G_seatFrom lk_6_90 rcv_99 rfl ⟨rfl, Nat.le_of_ble_eq_true rfl⟩ (hrec h8 (x1 + (1 : Int32)) (x2 + x5) (x3 + (y3 * r10)) _ (ok_bind hO)) ?_
        rintro _ h11 ⟨rfl, hO⟩
        obtain ⟨g12, hO⟩ := ok_if hO
        obtain ⟨g13, hO⟩ := ok_if hO
        refine rbx hG 15 170 185 [.aload 0, .invokeinterface 604 5, .iload 4, .dup2, .iaload, .ldc_w 0, .iload 1, .ishl, .ldc_w 1, .ixor, .iand, .iastore] [1, -1] [] (wr h11 104 (Int32.toNatClampNeg x4) ((h11.1 104 (Int32.toNatClampNeg x4)) &&& ((sh (1 : Int32) x1) ^^^ (-1 : Int32)))) (fun h14 => [(6, .int y3), (0, .ref 99), (1, .int x1), (2, .int x2), (3, .int x3), (4, .int x4), (5, .int x5)]) (fun h14 => []) (fun h14 => h14) [kd 99 = 6, kd 104 = 20 ∧ inb x4 (ln 104), kd 104 = 20 ∧ inb x4 (ln 104)] (by decide +kernel) rfl ⟨kd_99, ⟨kd_104, g12⟩, ⟨kd_104, g13⟩⟩ hO (fun h14 hO => ?_)
        refine rs hG [(0, .ref 99), (1, .int x1), (2, .int x2), (3, .int x3), (4, .int x4)] [1, 2, 3, 4, 5] rfl ?_
        exact j185 x4 h14 hO
      unfold G_seatFrom_b27 at hO
      obtain ⟨g15, hO⟩ := ok_if hO
      refine rb hG 7 27 36 [.iload 4, .aload 0, .instanceof 607, .getfield 105] [] [] [(0, .ref 99), (1, .int x1), (2, .int x2), (3, .int x3), (4, .int x4)] [.int (h.1 (Int32.toNatClampNeg (h.1 99 7)) 5), .int x4] h [kd 99 = 6, kd (Int32.toNatClampNeg (h.1 99 7)) = 1] (by decide +kernel) rfl ⟨kd_99, g15⟩ ?_
      refine rj hG .ge (155) 191 36 (by decide +kernel) (by decide) (fun c16 => ?_) (fun c16 => ?_)
      · have hO := ok_pos c16 hO
        refine rs hG [] [] rfl ?_
        exact j191 h (ok_inr hO)
      · have hO := ok_neg c16 hO
        refine rb hG 5 39 42 [.iload 4, .ldc_w 0] [5] [] [(0, .ref 99), (1, .int x1), (2, .int x2), (3, .int x3), (4, .int x4)] [.int (5 : Int32), .int x4] h [] (by decide +kernel) rfl trivial ?_
        refine rj hG .ge (149) 191 42 (by decide +kernel) (by decide) (fun c17 => ?_) (fun c17 => ?_)
        · have hO := ok_pos c17 hO
          refine rs hG [] [] rfl ?_
          exact j191 h (ok_inr hO)
        · have hO := ok_neg c17 hO
          refine rb hG 6 45 49 [.aload 0, .iload 1, .iload 4] [] [] [(0, .ref 99), (1, .int x1), (2, .int x2), (3, .int x3), (4, .int x4)] [.int x4, .int x1, .ref 99] h [] (by decide +kernel) rfl trivial ?_
          refine rv hG z_G_maySit 122 2 49 99 [.int x1, .int x4] [] (by decide +kernel) mk_G_maySit lk_6_122 rcv_99 rfl ⟨rfl, Nat.le_of_ble_eq_true rfl⟩ (c_G_maySit (d := D + 1) h x1 x4 (ok_bind hO)) ?_
          rintro _ _ ⟨r18, rfl, rfl, hO⟩
          refine ri hG .eq (133) 185 52 (by decide +kernel) (by decide) (fun c19 => ?_) (fun c19 => ?_)
          · have hO := ok_pos c19 hO
            exact j185 x4 h hO
          · have hO := ok_neg c19 hO
            refine rb hG 6 55 60 [.aload 0, .instanceof 607, .iload 1] [] [] [(0, .ref 99), (1, .int x1), (2, .int x2), (3, .int x3), (4, .int x4)] [.int x1, .ref (Int32.toNatClampNeg (h.1 99 7))] h [kd 99 = 6] (by decide +kernel) rfl kd_99 ?_
            refine rv hG z_H_quarrelsOf 125 1 60 (Int32.toNatClampNeg (h.1 99 7)) [.int x1] [] (by decide +kernel) mk_H_quarrelsOf lk_6_125 (rcv_H g15) rfl ⟨rfl, Nat.le_of_ble_eq_true rfl⟩ (c_H_quarrelsOf (d := D + 2) h (Int32.toNatClampNeg (h.1 99 7)) x1 (ok_bind hO)) ?_
            rintro _ _ ⟨r20, rfl, rfl, hO⟩
            obtain ⟨g21, hO⟩ := ok_if hO
            refine rb hG 8 63 71 [.aload 0, .invokeinterface 603 4, .iload 4, .iaload, .iand] [] [] [(0, .ref 99), (1, .int x1), (2, .int x2), (3, .int x3), (4, .int x4)] [.int (r20 &&& (h.1 103 (Int32.toNatClampNeg x4)))] h [kd 99 = 6, kd 103 = 20 ∧ inb x4 (ln 103)] (by decide +kernel) rfl ⟨kd_99, ⟨kd_103, g21⟩⟩ ?_
            refine rt hG z_J_bitCount 128 1 71 [.int (r20 &&& (h.1 103 (Int32.toNatClampNeg x4)))] [] (by decide +kernel) mk_J_bitCount lk_6_128 rfl ⟨rfl, Nat.le_of_ble_eq_true rfl⟩ (c_J_bitCount (d := D + 3) h (r20 &&& (h.1 103 (Int32.toNatClampNeg x4))) (ok_bind hO)) ?_
            rintro _ _ ⟨r22, rfl, rfl, hO⟩
            refine rb hG 6 74 79 [.aload 0, .instanceof 607, .iload 1] [] [] [(0, .ref 99), (1, .int x1), (2, .int x2), (3, .int x3), (4, .int x4)] [.int x1, .ref (Int32.toNatClampNeg (h.1 99 7)), .int r22] h [kd 99 = 6] (by decide +kernel) rfl kd_99 ?_
            refine rv hG z_H_quarrelsOf 125 1 79 (Int32.toNatClampNeg (h.1 99 7)) [.int x1] [.int r22] (by decide +kernel) mk_H_quarrelsOf lk_6_125 (rcv_H g15) rfl ⟨rfl, Nat.le_of_ble_eq_true rfl⟩ (c_H_quarrelsOf (d := D + 2) h (Int32.toNatClampNeg (h.1 99 7)) x1 (ok_bind hO)) ?_
            rintro _ _ ⟨r23, rfl, rfl, hO⟩
            obtain ⟨g24, hO⟩ := ok_if hO
            refine rb hG 8 82 90 [.aload 0, .invokeinterface 604 5, .iload 4, .iaload, .iand] [] [] [(0, .ref 99), (1, .int x1), (2, .int x2), (3, .int x3), (4, .int x4)] [.int (r23 &&& (h.1 104 (Int32.toNatClampNeg x4))), .int r22] h [kd 99 = 6, kd 104 = 20 ∧ inb x4 (ln 104)] (by decide +kernel) rfl ⟨kd_99, ⟨kd_104, g24⟩⟩ ?_
            refine rt hG z_J_bitCount 128 1 90 [.int (r23 &&& (h.1 104 (Int32.toNatClampNeg x4)))] [.int r22] (by decide +kernel) mk_J_bitCount lk_6_128 rfl ⟨rfl, Nat.le_of_ble_eq_true rfl⟩ (c_J_bitCount (d := D + 3) h (r23 &&& (h.1 104 (Int32.toNatClampNeg x4))) (ok_bind hO)) ?_
            rintro _ _ ⟨r25, rfl, rfl, hO⟩
            refine rbx hG 5 93 96 [.iadd, .istore 5] [] [] ((r22 + r25)) (fun y26 => [(5, .int y26), (0, .ref 99), (1, .int x1), (2, .int x2), (3, .int x3), (4, .int x4)]) (fun y26 => []) (fun y26 => h) [] (by decide +kernel) rfl trivial hO (fun y26 hO => ?_)
            obtain ⟨g27, hO⟩ := ok_if hO
            refine rb hG 8 96 104 [.ldc_w 0, .aload 0, .invokeinterface 604 5, .iload 4, .iaload] [1] [] [(5, .int y26), (0, .ref 99), (1, .int x1), (2, .int x2), (3, .int x3), (4, .int x4)] [.int (h.1 104 (Int32.toNatClampNeg x4)), .int (1 : Int32)] h [kd 99 = 6, kd 104 = 20 ∧ inb x4 (ln 104)] (by decide +kernel) rfl ⟨kd_99, ⟨kd_104, g27⟩⟩ ?_
            refine riN hG (16) 120 104 (by decide +kernel) (by decide) (fun c28 => ?_) (fun c28 => ?_)
            · have hO := ok_pos c28 hO
              obtain ⟨g29, hO⟩ := ok_if hO
              refine rb hG 7 107 114 [.aload 0, .invokeinterface 603 4, .iload 4, .iaload] [] [] [(5, .int y26), (0, .ref 99), (1, .int x1), (2, .int x2), (3, .int x3), (4, .int x4)] [.int (h.1 103 (Int32.toNatClampNeg x4)), .int (1 : Int32)] h [kd 99 = 6, kd 103 = 20 ∧ inb x4 (ln 103)] (by decide +kernel) rfl ⟨kd_99, ⟨kd_103, g29⟩⟩ ?_
              refine rt hG z_J_bitCount 128 1 114 [.int (h.1 103 (Int32.toNatClampNeg x4))] [.int (1 : Int32)] (by decide +kernel) mk_J_bitCount lk_6_128 rfl ⟨rfl, Nat.le_of_ble_eq_true rfl⟩ (c_J_bitCount (d := D + 3) h (h.1 103 (Int32.toNatClampNeg x4)) (ok_bind hO)) ?_
              rintro _ _ ⟨r30, rfl, rfl, hO⟩
              refine rb hG 4 117 121 [] [] [] [(5, .int y26), (0, .ref 99), (1, .int x1), (2, .int x2), (3, .int x3), (4, .int x4)] [.int r30, .int (1 : Int32)] h [] (by decide +kernel) rfl trivial ?_
              refine rs hG [(0, .ref 99), (1, .int x1), (2, .int x2), (3, .int x3), (4, .int x4), (5, .int y26)] [1, 2, 3, 4, 5, 0] rfl ?_
              exact j121 x4 y26 (1 : Int32) r30 h hO
            · have hO := ok_neg c28 hO
              refine rb hG 4 120 121 [.ldc_w 0] [0] [] [(5, .int y26), (0, .ref 99), (1, .int x1), (2, .int x2), (3, .int x3), (4, .int x4)] [.int (0 : Int32), .int (1 : Int32)] h [] (by decide +kernel) rfl trivial ?_
              refine rs hG [(0, .ref 99), (1, .int x1), (2, .int x2), (3, .int x3), (4, .int x4), (5, .int y26)] [1, 2, 3, 4, 5, 0] rfl ?_
              exact j121 x4 y26 (1 : Int32) (0 : Int32) h hO
    rw [eH27] at w9
    exact w9
  obtain ⟨g31, hO⟩ := ok_if hO
  refine rb hG 7 0 8 [.iload 1, .aload 0, .instanceof 607, .getfield 106] [] [] [(0, .ref 99), (1, .int x1), (2, .int x2), (3, .int x3)] [.int (h.1 (Int32.toNatClampNeg (h.1 99 7)) 6), .int x1] h [kd 99 = 6, kd (Int32.toNatClampNeg (h.1 99 7)) = 1] (by decide +kernel) rfl ⟨kd_99, g31⟩ ?_
  refine rj hG .ge (9) 17 8 (by decide +kernel) (by decide) (fun c32 => ?_) (fun c32 => ?_)
  · have hO := ok_pos c32 hO
    refine rs hG [(0, .ref 99), (2, .int x2), (3, .int x3)] [0, 2, 3] rfl ?_
    exact j17 h hO
  · have hO := ok_neg c32 hO
    refine rb hG 5 11 14 [.iload 1, .ldc_w 0] [6] [] [(0, .ref 99), (1, .int x1), (2, .int x2), (3, .int x3)] [.int (6 : Int32), .int x1] h [] (by decide +kernel) rfl trivial ?_
    refine rj hG .lt (10) 24 14 (by decide +kernel) (by decide) (fun c33 => ?_) (fun c33 => ?_)
    · have hO := ok_pos c33 hO
      refine rb hG 5 24 27 [.ldc_w 0, .istore 4] [0] [] [(4, .int (0 : Int32)), (0, .ref 99), (1, .int x1), (2, .int x2), (3, .int x3)] [] h [] (by decide +kernel) rfl trivial ?_
      refine rs hG [(0, .ref 99), (1, .int x1), (2, .int x2), (3, .int x3), (4, .int (0 : Int32))] [1, 2, 3, 4, 0] rfl ?_
      exact l27 (0 : Int32) h hO
    · have hO := ok_neg c33 hO
      refine rs hG [(0, .ref 99), (2, .int x2), (3, .int x3)] [0, 2, 3] rfl ?_
      exact j17 h hO
set_option maxRecDepth 100000 in
set_option maxHeartbeats 4000000 in
theorem c_G_seatFrom {E : En} (n : Nat) {d : Nat} (h : Hp) (x1 : Int32) (x2 : Int32) (x3 : Int32) {P : Hp → Prop} (hO : Okk (G_seatFrom n h x1 x2 x3) P) : Cn E (d + n + 4) z_G_seatFrom [.ref 99, .int x1, .int x2, .int x3] h (RV P) := by
  induction n generalizing d h x1 x2 x3 P with
  | zero =>
    obtain ⟨y, h1, -⟩ := hO
    cases h1
  | succ n ih => exact cb_G_seatFrom (D := d + n) (G_seatFrom n) (fun h x1 x2 x3 P hO => ih h x1 x2 x3 hO) h x1 x2 x3 hO
/-! GrainInn.Seating.search(LGrainInn$State;LGrainInn$Lines;)V -/
noncomputable def G_search_j150 (x1 : Nat) (x2 : Nat) (h : Hp) : Option Hp := some h
noncomputable def G_search_j139 (x1 : Nat) (x2 : Nat) (x3 : Int32) (h : Hp) : Option Hp := if x3 = 0 then ((G_search_j150 x1 x2 h)) else ((G_seatFrom 9 h (0 : Int32) (0 : Int32) (0 : Int32)).bind fun h2 => (G_search_j150 x1 x2 h2))
noncomputable def G_search_j133 (x1 : Nat) (x2 : Nat) (x3 : Int32) (x4 : Int32) (h : Hp) : Option ((Int32 × Int32 × Hp) ⊕ Hp) := bnd ((x4 + (1 : Int32))) fun y3 => some (.inl (x3, y3, h))
noncomputable def G_search_b96 (x1 : Nat) (x2 : Nat) (x3 : Int32) (x4 : Int32) (h : Hp) : Option ((Int32 × Int32 × Hp) ⊕ Hp) := if kd x2 = 2 then (if (h.1 x2 3) ≤ x4 then (((G_search_j139 x1 x2 x3 h).map Sum.inr)) else ((L_kindOf h x2 x4).bind fun r6 => (L_firstOf h x2 x4).bind fun r7 => (L_secondOf h x2 x4).bind fun r8 => (G_takeWish h x1 r6 r7 r8).bind fun (r9, h10) => if r9 = 0 then ((G_search_j133 x1 x2 (0 : Int32) x4 h10)) else ((G_search_j133 x1 x2 x3 x4 h10)))) else none
noncomputable def G_search_l96 (x1 : Nat) (x2 : Nat) (x3 : Int32) (x4 : Int32) (h : Hp) : Option Hp := lp (fun s : (Int32 × Int32 × Hp) => G_search_b96 x1 x2 s.1 s.2.1 s.2.2) (x3, x4, h)
theorem G_search_l96_eq (x1 : Nat) (x2 : Nat) (x3 : Int32) (x4 : Int32) (h : Hp) : G_search_l96 x1 x2 x3 x4 h = (G_search_b96 x1 x2 x3 x4 h).bind (Sum.elim (fun q : (Int32 × Int32 × Hp) => G_search_l96 x1 x2 q.1 q.2.1 q.2.2) some) := lp_eq _ _
noncomputable def G_search_j91 (x1 : Nat) (x2 : Nat) (h : Hp) : Option Hp := (G_search_l96 x1 x2 (1 : Int32) (0 : Int32) h)
noncomputable def G_search_j84 (x1 : Nat) (x2 : Nat) (x3 : Int32) (s1 : Int32) (s2 : Int32) (h : Hp) : Option ((Int32 × Hp) ⊕ Hp) := if inb s1 (ln 103) then (bnd (wr h 103 (Int32.toNatClampNeg s1) s2) fun h13 => bnd ((x3 + (1 : Int32))) fun y14 => some (.inl (y14, h13))) else none
noncomputable def G_search_b48 (x1 : Nat) (x2 : Nat) (x3 : Int32) (h : Hp) : Option ((Int32 × Hp) ⊕ Hp) := if (5 : Int32) ≤ x3 then (((G_search_j91 x1 x2 h).map Sum.inr)) else (if x1 = 57 then ((S_benchAt h x3).bind fun r17 => if r17 = 0 then ((G_search_j84 x1 x2 x3 x3 (0 : Int32) h)) else (if kd r17 = 0 then ((B_guestsOf h r17 (h.1 r17 4)).bind fun r20 => (G_search_j84 x1 x2 x3 x3 r20 h)) else none)) else none)
noncomputable def G_search_l48 (x1 : Nat) (x2 : Nat) (x3 : Int32) (h : Hp) : Option Hp := lp (fun s : (Int32 × Hp) => G_search_b48 x1 x2 s.1 s.2) (x3, h)
theorem G_search_l48_eq (x1 : Nat) (x2 : Nat) (x3 : Int32) (h : Hp) : G_search_l48 x1 x2 x3 h = (G_search_b48 x1 x2 x3 h).bind (Sum.elim (fun q : (Int32 × Hp) => G_search_l48 x1 x2 q.1 q.2) some) := lp_eq _ _
noncomputable def G_search (h : Hp) (x1 : Nat) (x2 : Nat) : Option Hp := if x1 = 57 then (if kd (Int32.toNatClampNeg (h.1 57 6)) = 1 then (bnd (wr h 99 7 (Int32.ofNat (Int32.toNatClampNeg (h.1 57 6)))) fun h23 => bnd (wr h23 99 8 (0 : Int32)) fun h24 => (J_fill h24 100 (31 : Int32)).bind fun h25 => (J_fill h25 101 (0 : Int32)).bind fun h26 => (J_fill h26 102 (0 : Int32)).bind fun h27 => (J_fill h27 104 (0 : Int32)).bind fun h28 => (G_search_l48 x1 x2 (0 : Int32) h28)) else none) else none
set_option maxRecDepth 100000 in
set_option maxHeartbeats 4000000 in
theorem c_G_search {E : En} {d : Nat} (h : Hp) (x1 : Nat) (x2 : Nat) {P : Hp → Prop} (hO : Okk (G_search h x1 x2) P) : Cn E (d + 14) z_G_search [.ref 99, .ref x1, .ref x2] h (RV P) := by
  refine cn_of (on := 6) (d := d + 13) ⟨rfl, by decide +kernel, Nat.le_of_ble_eq_true rfl⟩ (fun G hG => ?_)
  unfold G_search at hO
  show G 0 [(0, .ref 99), (1, .ref x1), (2, .ref x2)] [] h
  have j150 : ∀ (h : Hp), Okk (G_search_j150 x1 x2 h) P → G 150 [] [] h := by
    intro h hO
    unfold G_search_j150 at hO
    exact eV hG 150 (by decide +kernel) rfl ⟨rfl, ok_some (Q := P) hO⟩
  have j139 : ∀ (x3 : Int32) (h : Hp), Okk (G_search_j139 x1 x2 x3 h) P → G 139 [(0, .ref 99), (3, .int x3)] [] h := by
    intro x3 h hO
    unfold G_search_j139 at hO
    refine rb hG 4 139 140 [.iload 3] [] [] [(0, .ref 99), (3, .int x3)] [.int x3] h [] (by decide +kernel) rfl trivial ?_
    refine ri hG .eq (10) 150 140 (by decide +kernel) (by decide) (fun c1 => ?_) (fun c1 => ?_)
    · have hO := ok_pos c1 hO
      refine rs hG [] [] rfl ?_
      exact j150 h hO
    · have hO := ok_neg c1 hO
      refine rb hG 7 143 147 [.aload 0, .ldc_w 0, .ldc_w 0, .ldc_w 0] [0] [] [(0, .ref 99), (3, .int x3)] [.int (0 : Int32), .int (0 : Int32), .int (0 : Int32), .ref 99] h [] (by decide +kernel) rfl trivial ?_
      refine rv hG z_G_seatFrom 90 3 147 99 [.int (0 : Int32), .int (0 : Int32), .int (0 : Int32)] [] (by decide +kernel) mk_G_seatFrom lk_6_90 rcv_99 rfl ⟨rfl, Nat.le_of_ble_eq_true rfl⟩ (c_G_seatFrom 9 (d := d) h (0 : Int32) (0 : Int32) (0 : Int32) (ok_bind hO)) ?_
      rintro _ h2 ⟨rfl, hO⟩
      refine rs hG [] [] rfl ?_
      exact j150 h2 hO
  have l96 : ∀ (x3 : Int32) (x4 : Int32) (h : Hp), Okk (G_search_l96 x1 x2 x3 x4 h) P → G 96 [(0, .ref 99), (1, .ref x1), (2, .ref x2), (3, .int x3), (4, .int x4)] [] h := by
    intro x3 x4 h hO
    obtain ⟨H96, eH96⟩ : ∃ q : (Int32 × Int32 × Hp) → Prop, q = fun s => G 96 [(0, .ref 99), (1, .ref x1), (2, .ref x2), (3, .int (s.1)), (4, .int (s.2.1))] [] (s.2.2) := ⟨_, rfl⟩
    have w9 : H96 (x3, x4, h) := by
      refine lp_wp (f := fun s : (Int32 × Int32 × Hp) => G_search_b96 x1 x2 s.1 s.2.1 s.2.2) (H := H96) (Q := P) ?_ (x3, x4, h) hO
      rintro ⟨x3, x4, h⟩ hO
      rw [eH96]
      show G 96 [(0, .ref 99), (1, .ref x1), (2, .ref x2), (3, .int x3), (4, .int x4)] [] h
      have k96 : ∀ s : (Int32 × Int32 × Hp), H96 s → G 96 [(0, .ref 99), (1, .ref x1), (2, .ref x2), (3, .int (s.1)), (4, .int (s.2.1))] [] (s.2.2) := fun s q => by rw [eH96] at q; exact q
      replace hO : Okk (G_search_b96 x1 x2 x3 x4 h) (Sum.elim H96 P) := hO
      clear eH96
      have j133 : ∀ (x3 : Int32) (x4 : Int32) (h : Hp), Okk (G_search_j133 x1 x2 x3 x4 h) (Sum.elim H96 P) → G 133 [(0, .ref 99), (1, .ref x1), (2, .ref x2), (3, .int x3), (4, .int x4)] [] h := by
        intro x3 x4 h hO
        unfold G_search_j133 at hO
        refine rbx hG 4 133 136 [.iinc 4 0] [1] [] ((x4 + (1 : Int32))) (fun y3 => [(4, .int y3), (0, .ref 99), (1, .ref x1), (2, .ref x2), (3, .int x3)]) (fun y3 => []) (fun y3 => h) [] (by decide +kernel) rfl trivial hO (fun y3 hO => ?_)
        refine rb hG 4 136 96 [] [] [] [(4, .int y3), (0, .ref 99), (1, .ref x1), (2, .ref x2), (3, .int x3)] [] h [] (by decide +kernel) rfl trivial ?_
        refine rs hG [(0, .ref 99), (1, .ref x1), (2, .ref x2), (3, .int x3), (4, .int y3)] [1, 2, 3, 4, 0] rfl ?_
        exact k96 (x3, y3, h) (ok_some (Q := (Sum.elim H96 P)) hO)
      unfold G_search_b96 at hO
      obtain ⟨g4, hO⟩ := ok_if hO
      refine rb hG 6 96 102 [.iload 4, .aload 2, .getfield 203] [] [] [(0, .ref 99), (1, .ref x1), (2, .ref x2), (3, .int x3), (4, .int x4)] [.int (h.1 x2 3), .int x4] h [kd x2 = 2] (by decide +kernel) rfl g4 ?_
      refine rj hG .ge (37) 139 102 (by decide +kernel) (by decide) (fun c5 => ?_) (fun c5 => ?_)
      · have hO := ok_pos c5 hO
        refine rs hG [(0, .ref 99), (3, .int x3)] [0, 3] rfl ?_
        exact j139 x3 h (ok_inr hO)
      · have hO := ok_neg c5 hO
        refine rb hG 7 105 110 [.aload 0, .aload 1, .aload 2, .iload 4] [] [] [(0, .ref 99), (1, .ref x1), (2, .ref x2), (3, .int x3), (4, .int x4)] [.int x4, .ref x2, .ref x1, .ref 99] h [] (by decide +kernel) rfl trivial ?_
        refine rv hG z_L_kindOf 77 1 110 x2 [.int x4] [.ref x1, .ref 99] (by decide +kernel) mk_L_kindOf lk_6_77 (rcv_L g4) rfl ⟨rfl, Nat.le_of_ble_eq_true rfl⟩ (c_L_kindOf (d := d + 11) h x2 x4 (ok_bind hO)) ?_
        rintro _ _ ⟨r6, rfl, rfl, hO⟩
        refine rb hG 5 113 116 [.aload 2, .iload 4] [] [] [(0, .ref 99), (1, .ref x1), (2, .ref x2), (3, .int x3), (4, .int x4)] [.int x4, .ref x2, .int r6, .ref x1, .ref 99] h [] (by decide +kernel) rfl trivial ?_
        refine rv hG z_L_firstOf 80 1 116 x2 [.int x4] [.int r6, .ref x1, .ref 99] (by decide +kernel) mk_L_firstOf lk_6_80 (rcv_L g4) rfl ⟨rfl, Nat.le_of_ble_eq_true rfl⟩ (c_L_firstOf (d := d + 11) h x2 x4 (ok_bind hO)) ?_
        rintro _ _ ⟨r7, rfl, rfl, hO⟩
        refine rb hG 5 119 122 [.aload 2, .iload 4] [] [] [(0, .ref 99), (1, .ref x1), (2, .ref x2), (3, .int x3), (4, .int x4)] [.int x4, .ref x2, .int r7, .int r6, .ref x1, .ref 99] h [] (by decide +kernel) rfl trivial ?_
        refine rv hG z_L_secondOf 83 1 122 x2 [.int x4] [.int r7, .int r6, .ref x1, .ref 99] (by decide +kernel) mk_L_secondOf lk_6_83 (rcv_L g4) rfl ⟨rfl, Nat.le_of_ble_eq_true rfl⟩ (c_L_secondOf (d := d + 11) h x2 x4 (ok_bind hO)) ?_
        rintro _ _ ⟨r8, rfl, rfl, hO⟩
        refine rv hG z_G_takeWish 86 4 125 99 [.ref x1, .int r6, .int r7, .int r8] [] (by decide +kernel) mk_G_takeWish lk_6_86 rcv_99 rfl ⟨rfl, Nat.le_of_ble_eq_true rfl⟩ (c_G_takeWish (d := d + 9) h x1 r6 r7 r8 (ok_bind hO)) ?_
        rintro _ h10 ⟨r9, rfl, hO⟩
        refine riN hG (5) 133 128 (by decide +kernel) (by decide) (fun c11 => ?_) (fun c11 => ?_)
        · have hO := ok_pos c11 hO
          refine rb hG 5 131 133 [.ldc_w 0, .istore 3] [0] [] [(3, .int (0 : Int32)), (0, .ref 99), (1, .ref x1), (2, .ref x2), (4, .int x4)] [] h10 [] (by decide +kernel) rfl trivial ?_
          refine rs hG [(0, .ref 99), (1, .ref x1), (2, .ref x2), (3, .int (0 : Int32)), (4, .int x4)] [1, 2, 3, 0, 4] rfl ?_
          exact j133 (0 : Int32) x4 h10 hO
        · have hO := ok_neg c11 hO
          exact j133 x3 x4 h10 hO
    rw [eH96] at w9
    exact w9
  have j91 : ∀ (h : Hp), Okk (G_search_j91 x1 x2 h) P → G 91 [(0, .ref 99), (1, .ref x1), (2, .ref x2)] [] h := by
    intro h hO
    unfold G_search_j91 at hO
    refine rb hG 7 91 96 [.ldc_w 0, .istore 3, .ldc_w 1, .istore 4] [1, 0] [] [(4, .int (0 : Int32)), (3, .int (1 : Int32)), (0, .ref 99), (1, .ref x1), (2, .ref x2)] [] h [] (by decide +kernel) rfl trivial ?_
    refine rs hG [(0, .ref 99), (1, .ref x1), (2, .ref x2), (3, .int (1 : Int32)), (4, .int (0 : Int32))] [2, 3, 4, 1, 0] rfl ?_
    exact l96 (1 : Int32) (0 : Int32) h hO
  have l48 : ∀ (x3 : Int32) (h : Hp), Okk (G_search_l48 x1 x2 x3 h) P → G 48 [(0, .ref 99), (1, .ref x1), (2, .ref x2), (3, .int x3)] [] h := by
    intro x3 h hO
    obtain ⟨H48, eH48⟩ : ∃ q : (Int32 × Hp) → Prop, q = fun s => G 48 [(0, .ref 99), (1, .ref x1), (2, .ref x2), (3, .int (s.1))] [] (s.2) := ⟨_, rfl⟩
    have w9 : H48 (x3, h) := by
      refine lp_wp (f := fun s : (Int32 × Hp) => G_search_b48 x1 x2 s.1 s.2) (H := H48) (Q := P) ?_ (x3, h) hO
      rintro ⟨x3, h⟩ hO
      rw [eH48]
      show G 48 [(0, .ref 99), (1, .ref x1), (2, .ref x2), (3, .int x3)] [] h
      have k48 : ∀ s : (Int32 × Hp), H48 s → G 48 [(0, .ref 99), (1, .ref x1), (2, .ref x2), (3, .int (s.1))] [] (s.2) := fun s q => by rw [eH48] at q; exact q
      replace hO : Okk (G_search_b48 x1 x2 x3 h) (Sum.elim H48 P) := hO
      clear eH48
      have j84 : ∀ (x3 : Int32) (s1 : Int32) (s2 : Int32) (h : Hp), Okk (G_search_j84 x1 x2 x3 s1 s2 h) (Sum.elim H48 P) → G 84 [(0, .ref 99), (1, .ref x1), (2, .ref x2), (3, .int x3)] [.int s2, .int s1, .ref 103] h := by
        intro x3 s1 s2 h hO
        unfold G_search_j84 at hO
        obtain ⟨g12, hO⟩ := ok_if hO
        refine rbx hG 4 84 85 [.iastore] [] [] (wr h 103 (Int32.toNatClampNeg s1) s2) (fun h13 => [(0, .ref 99), (1, .ref x1), (2, .ref x2), (3, .int x3)]) (fun h13 => []) (fun h13 => h13) [kd 103 = 20 ∧ inb s1 (ln 103)] (by decide +kernel) rfl ⟨kd_103, g12⟩ hO (fun h13 hO => ?_)
        refine rbx hG 4 85 88 [.iinc 3 0] [1] [] ((x3 + (1 : Int32))) (fun y14 => [(3, .int y14), (0, .ref 99), (1, .ref x1), (2, .ref x2)]) (fun y14 => []) (fun y14 => h13) [] (by decide +kernel) rfl trivial hO (fun y14 hO => ?_)
        refine rb hG 4 88 48 [] [] [] [(3, .int y14), (0, .ref 99), (1, .ref x1), (2, .ref x2)] [] h13 [] (by decide +kernel) rfl trivial ?_
        refine rs hG [(0, .ref 99), (1, .ref x1), (2, .ref x2), (3, .int y14)] [1, 2, 3, 0] rfl ?_
        exact k48 (y14, h13) (ok_some (Q := (Sum.elim H48 P)) hO)
      unfold G_search_b48 at hO
      refine rb hG 5 48 50 [.iload 3, .ldc_w 0] [5] [] [(0, .ref 99), (1, .ref x1), (2, .ref x2), (3, .int x3)] [.int (5 : Int32), .int x3] h [] (by decide +kernel) rfl trivial ?_
      refine rj hG .ge (41) 91 50 (by decide +kernel) (by decide) (fun c15 => ?_) (fun c15 => ?_)
      · have hO := ok_pos c15 hO
        refine rs hG [(0, .ref 99), (1, .ref x1), (2, .ref x2)] [0, 1, 2] rfl ?_
        exact j91 h (ok_inr hO)
      · have hO := ok_neg c15 hO
        obtain ⟨g16, hOg16⟩ := ok_if hO
        subst g16
        have hO := hOg16
        refine rb hG 5 53 55 [.aload 1, .iload 3] [] [] [(0, .ref 99), (1, .ref 57), (2, .ref x2), (3, .int x3)] [.int x3, .ref 57] h [] (by decide +kernel) rfl trivial ?_
        refine rv hG z_S_benchAt 59 1 55 57 [.int x3] [] (by decide +kernel) mk_S_benchAt lk_6_59 rcv_57 rfl ⟨rfl, Nat.le_of_ble_eq_true rfl⟩ (c_S_benchAt (d := d + 11) h x3 (ok_bind hO)) ?_
        rintro _ _ ⟨r17, rfl, rfl, hO⟩
        refine rb hG 8 58 67 [.astore 4, .aload 0, .invokeinterface 603 4, .iload 3, .aload 4] [] [] [(4, .ref r17), (0, .ref 99), (1, .ref 57), (2, .ref x2), (3, .int x3)] [.ref r17, .int x3, .ref 103] h [kd 99 = 6] (by decide +kernel) rfl kd_99 ?_
        refine rnn hG (7) 74 67 (by decide +kernel) (by decide) (fun c18 => ?_) (fun c18 => ?_)
        · have hO := ok_pos c18 hO
          refine rb hG 5 70 84 [.ldc_w 0] [0] [] [(4, .ref r17), (0, .ref 99), (1, .ref 57), (2, .ref x2), (3, .int x3)] [.int (0 : Int32), .int x3, .ref 103] h [] (by decide +kernel) rfl trivial ?_
          refine rs hG [(0, .ref 99), (1, .ref 57), (2, .ref x2), (3, .int x3)] [1, 2, 3, 4] rfl ?_
          exact j84 x3 x3 (0 : Int32) h hO
        · have hO := ok_neg c18 hO
          obtain ⟨g19, hO⟩ := ok_if hO
          refine rb hG 6 74 81 [.aload 4, .aload 4, .getfield 4] [] [] [(4, .ref r17), (0, .ref 99), (1, .ref 57), (2, .ref x2), (3, .int x3)] [.int (h.1 r17 4), .ref r17, .int x3, .ref 103] h [kd r17 = 0] (by decide +kernel) rfl g19 ?_
          refine rv hG z_B_guestsOf 68 1 81 r17 [.int (h.1 r17 4)] [.int x3, .ref 103] (by decide +kernel) mk_B_guestsOf lk_6_68 (rcv_B g19) rfl ⟨rfl, Nat.le_of_ble_eq_true rfl⟩ (c_B_guestsOf (d := d + 12) h r17 (h.1 r17 4) (ok_bind hO)) ?_
          rintro _ _ ⟨r20, rfl, rfl, hO⟩
          refine rs hG [(0, .ref 99), (1, .ref 57), (2, .ref x2), (3, .int x3)] [1, 2, 3, 4] rfl ?_
          exact j84 x3 x3 r20 h hO
    rw [eH48] at w9
    exact w9
  obtain ⟨g21, hOg21⟩ := ok_if hO
  subst g21
  have hO := hOg21
  obtain ⟨g22, hO⟩ := ok_if hO
  refine rbx hG 7 0 8 [.aload 0, .aload 1, .instanceof 706, .anewarray 607] [] [] (wr h 99 7 (Int32.ofNat (Int32.toNatClampNeg (h.1 57 6)))) (fun h23 => [(0, .ref 99), (1, .ref 57), (2, .ref x2)]) (fun h23 => []) (fun h23 => h23) [kd 57 = 7, kd 99 = 6 ∧ kd (Int32.toNatClampNeg (h.1 57 6)) = 1] (by decide +kernel) rfl ⟨kd_57, ⟨kd_99, g22⟩⟩ hO (fun h23 hO => ?_)
  refine rbx hG 6 8 13 [.aload 0, .ldc_w 0, .putfield 608] [0] [] (wr h23 99 8 (0 : Int32)) (fun h24 => [(0, .ref 99), (1, .ref 57), (2, .ref x2)]) (fun h24 => []) (fun h24 => h24) [kd 99 = 6] (by decide +kernel) rfl kd_99 hO (fun h24 hO => ?_)
  refine rb hG 6 13 19 [.aload 0, .invokeinterface 600 1, .ldc_w 0] [31] [] [(0, .ref 99), (1, .ref 57), (2, .ref x2)] [.int (31 : Int32), .ref 100] h24 [kd 99 = 6] (by decide +kernel) rfl kd_99 ?_
  refine rt hG z_J_fill 53 2 19 [.ref 100, .int (31 : Int32)] [] (by decide +kernel) mk_J_fill lk_6_53 rfl ⟨rfl, Nat.le_of_ble_eq_true rfl⟩ (c_J_fill (d := d + 12) h24 100 (31 : Int32) (ok_bind hO)) ?_
  rintro _ h25 ⟨rfl, hO⟩
  refine rb hG 6 22 27 [.aload 0, .invokeinterface 601 2, .ldc_w 0] [0] [] [(0, .ref 99), (1, .ref 57), (2, .ref x2)] [.int (0 : Int32), .ref 101] h25 [kd 99 = 6] (by decide +kernel) rfl kd_99 ?_
  refine rt hG z_J_fill 53 2 27 [.ref 101, .int (0 : Int32)] [] (by decide +kernel) mk_J_fill lk_6_53 rfl ⟨rfl, Nat.le_of_ble_eq_true rfl⟩ (c_J_fill (d := d + 12) h25 101 (0 : Int32) (ok_bind hO)) ?_
  rintro _ h26 ⟨rfl, hO⟩
  refine rb hG 6 30 35 [.aload 0, .invokeinterface 602 3, .ldc_w 0] [0] [] [(0, .ref 99), (1, .ref 57), (2, .ref x2)] [.int (0 : Int32), .ref 102] h26 [kd 99 = 6] (by decide +kernel) rfl kd_99 ?_
  refine rt hG z_J_fill 53 2 35 [.ref 102, .int (0 : Int32)] [] (by decide +kernel) mk_J_fill lk_6_53 rfl ⟨rfl, Nat.le_of_ble_eq_true rfl⟩ (c_J_fill (d := d + 12) h26 102 (0 : Int32) (ok_bind hO)) ?_
  rintro _ h27 ⟨rfl, hO⟩
  refine rb hG 6 38 43 [.aload 0, .invokeinterface 604 5, .ldc_w 0] [0] [] [(0, .ref 99), (1, .ref 57), (2, .ref x2)] [.int (0 : Int32), .ref 104] h27 [kd 99 = 6] (by decide +kernel) rfl kd_99 ?_
  refine rt hG z_J_fill 53 2 43 [.ref 104, .int (0 : Int32)] [] (by decide +kernel) mk_J_fill lk_6_53 rfl ⟨rfl, Nat.le_of_ble_eq_true rfl⟩ (c_J_fill (d := d + 12) h27 104 (0 : Int32) (ok_bind hO)) ?_
  rintro _ h28 ⟨rfl, hO⟩
  refine rb hG 5 46 48 [.ldc_w 0, .istore 3] [0] [] [(3, .int (0 : Int32)), (0, .ref 99), (1, .ref 57), (2, .ref x2)] [] h28 [] (by decide +kernel) rfl trivial ?_
  refine rs hG [(0, .ref 99), (1, .ref 57), (2, .ref x2), (3, .int (0 : Int32))] [1, 2, 3, 0] rfl ?_
  exact l48 (0 : Int32) h28 hO
/-! GrainInn.Seating.bestTableOf(I)I -/
noncomputable def G_bestTableOf_j25 (s0 : Int32) (h : Hp) : Option Int32 := some s0
noncomputable def G_bestTableOf_j24 (h : Hp) : Option Int32 := (G_bestTableOf_j25 (-1 : Int32) h)
noncomputable def G_bestTableOf (h : Hp) (x1 : Int32) : Option Int32 := if (h.1 99 8) ≤ 0 then ((G_bestTableOf_j24 h)) else ((G_isHere h x1).bind fun r2 => if r2 = 0 then ((G_bestTableOf_j24 h)) else (if inb x1 (ln 106) then ((G_bestTableOf_j25 (h.1 106 (Int32.toNatClampNeg x1)) h)) else none))
set_option maxRecDepth 100000 in
set_option maxHeartbeats 4000000 in
theorem c_G_bestTableOf {E : En} {d : Nat} (h : Hp) (x1 : Int32) {P : Int32 → Prop} (hO : Okk (G_bestTableOf h x1) P) : Cn E (d + 3) z_G_bestTableOf [.ref 99, .int x1] h (RIp h P) := by
  refine cn_of (on := 6) (d := d + 2) ⟨rfl, by decide +kernel, Nat.le_of_ble_eq_true rfl⟩ (fun G hG => ?_)
  unfold G_bestTableOf at hO
  show G 0 [(0, .ref 99), (1, .int x1)] [] h
  have j25 : ∀ (s0 : Int32), Okk (G_bestTableOf_j25 s0 h) P → G 25 [] [.int s0] h := by
    intro s0 hO
    unfold G_bestTableOf_j25 at hO
    exact eI hG 25 (by decide +kernel) rfl ⟨s0, rfl, rfl, ok_some (Q := P) hO⟩
  have j24 : Okk (G_bestTableOf_j24 h) P → G 24 [] [] h := by
    intro hO
    unfold G_bestTableOf_j24 at hO
    refine rb hG 4 24 25 [.ldc_w 0] [-1] [] [] [.int (-1 : Int32)] h [] (by decide +kernel) rfl trivial ?_
    exact j25 (-1 : Int32) hO
  refine rb hG 5 0 4 [.aload 0, .getfield 608] [] [] [(0, .ref 99), (1, .int x1)] [.int (h.1 99 8)] h [kd 99 = 6] (by decide +kernel) rfl kd_99 ?_
  refine ri hG .le (20) 24 4 (by decide +kernel) (by decide) (fun c1 => ?_) (fun c1 => ?_)
  · have hO := ok_pos c1 hO
    refine rs hG [] [] rfl ?_
    exact j24 hO
  · have hO := ok_neg c1 hO
    refine rb hG 5 7 9 [.aload 0, .iload 1] [] [] [(0, .ref 99), (1, .int x1)] [.int x1, .ref 99] h [] (by decide +kernel) rfl trivial ?_
    refine rv hG z_G_isHere 94 1 9 99 [.int x1] [] (by decide +kernel) mk_G_isHere lk_6_94 rcv_99 rfl ⟨rfl, Nat.le_of_ble_eq_true rfl⟩ (c_G_isHere (d := d) h x1 (ok_bind hO)) ?_
    rintro _ _ ⟨r2, rfl, rfl, hO⟩
    refine ri hG .eq (12) 24 12 (by decide +kernel) (by decide) (fun c3 => ?_) (fun c3 => ?_)
    · have hO := ok_pos c3 hO
      refine rs hG [] [] rfl ?_
      exact j24 hO
    · have hO := ok_neg c3 hO
      obtain ⟨g4, hO⟩ := ok_if hO
      refine rb hG 8 15 25 [.aload 0, .invokeinterface 606 7, .iload 1, .iaload] [] [] [(0, .ref 99), (1, .int x1)] [.int (h.1 106 (Int32.toNatClampNeg x1))] h [kd 99 = 6, kd 106 = 20 ∧ inb x1 (ln 106)] (by decide +kernel) rfl ⟨kd_99, ⟨kd_106, g4⟩⟩ ?_
      refine rs hG [] [] rfl ?_
      exact j25 (h.1 106 (Int32.toNatClampNeg x1)) hO
