/-! ===== L3: the spy asked ===== -/
theorem pb_0 {s : St} (h : seatAll s = nI 0) : ∀ t, t < 5 → bS (sB s t) = nI 0 := by
  intro t ht
  refine b_ext (fun i hi => ?_)
  rw [show bt (nI 0) i = false from b_0 i]
  refine eq_false_of_ne_true (fun c => ?_)
  have e : bt (seatAll s) i = true := (b_oT _ i 5).mpr ⟨t, ht, c⟩
  rw [h, show bt (nI 0) i = false from b_0 i] at e
  exact Bool.false_ne_true e
theorem of_jN (x : Int32) : K_isOf x (10 : Int32) (jN 1) = some (nI 0) := by
  have e10 : (10 : Int32).toInt = 10 := rfl
  unfold K_isOf K_isOf_j16 K_isOf_j17
  by_cases c : x < (10 : Int32)
  · rw [if_pos c]; rfl
  · rw [if_neg c]
    have c2 : jN 1 ≤ x - (10 : Int32) := by
      rw [i_le, jN_toInt (by omega)]
      rw [i_lt, e10] at c
      have h1 := Int32.toInt_lt x
      have h2 : (x - (10 : Int32)).toInt = x.toInt - 10 := by
        rw [Int32.toInt_sub, e10, Int.bmod_eq_of_le (by omega) (by omega)]
      omega
    rw [if_pos c2]; rfl
theorem q_dig {h : Hp} {T N r j : Nat} (h24 : h.1 251 24 = nI T) (hT1 : 1 ≤ T) (hT : T ≤ 5) (hr : r < 2 ^ 30) (hj : j < N) (hN : N ≤ 4) : Okk (M_spy_l94 (nI (10 + j)) (nI r) (nI N - (1 : Int32)) h) (fun q => q = (nI (spd T N r j), h)) := by
  unfold M_spy_l94
  have hz : ¬ nI T = 0 := ne_nI (b := 0) (by omega) (by omega) (by omega)
  have ej : nI (10 + j) - (10 : Int32) = nI j := (pk_sub (b := 10) (by omega)).trans (by rw [show 10 + j - 10 = j by omega])
  rw [show nI N - (1 : Int32) = nI (N - 1 - 0) from pk_sub (b := 1) (by omega)]
  refine lp_for _ (N - 1 - j) (fun k q => q = (nI (r / T ^ k), nI (N - 1 - k))) _ ?_ ?_ 0 _ (by omega) (by rw [Nat.pow_zero, Nat.div_one])
  · rintro k q hk rfl
    have hd : r / T ^ k ≤ r := Nat.div_le_self _ _
    unfold M_spy_b94
    dsimp only
    rw [ej, if_neg (show ¬ nI (N - 1 - k) ≤ nI j from fun c => by rw [i_le, nI_toInt (by omega), nI_toInt (by omega)] at c; omega), h24, if_pos hz, bnd_eq, bnd_eq, pk_div (by omega) (by omega) (by omega), show nI (N - 1 - k) + (-1 : Int32) = nI (N - 1 - (k + 1)) from (by decide +kernel : ∀ m, m < 4 → 0 < m → nI m + (-1 : Int32) = nI (m - 1)) (N - 1 - k) (by omega) (by omega), Nat.div_div_eq_div_mul, ← Nat.pow_succ]
    exact ok_mk rfl
  · rintro q rfl
    have hd : r / T ^ (N - 1 - j) ≤ r := Nat.div_le_self _ _
    unfold M_spy_b94 M_spy_j119
    dsimp only
    rw [ej, if_pos (show nI (N - 1 - (N - 1 - j)) ≤ nI j by rw [i_le, nI_toInt (by omega), nI_toInt (by omega)]; omega), h24, if_pos hz, show rm (nI (r / T ^ (N - 1 - j))) (nI T) = nI (r / T ^ (N - 1 - j) % T) from pk_rem (by omega) (by omega) (by omega)]
    exact okmr (ok_mk rfl)
theorem t_spy {h : Hp} (I : Inv h) (x1 x2 x3 x4 x5 : Int32) : Sm (K_spy h x1 x2 x3 x4 x5) (fun h1 => M_spy h1 x1 x2 x3 x4 x5) := by
  have eM : M_in x4 (0 : Int32) (1023 : Int32) = some (bI (iz x4 0 1024)) := q_in x4 (a := 0) (b := 1023) (by omega) (by omega)
  have eK : K_isOf x4 (0 : Int32) (1024 : Int32) = some (bI (iz x4 0 1024)) := q_isOf x4 (a := 0) (n := 1024) (by omega) (by omega)
  by_cases b : iz x4 0 1024 = true
  case neg =>
    unfold K_spy
    refine sm_no I x1 x2 x3 (jN 1) (fun h1 => rfl) ?_ ?_
    · intro n s h1 hw W X C
      refine ⟨h1, ?_, tl_rfl⟩
      dsimp only
      unfold K_spy_j34
      rw [if_neg (show ¬ (57 : Nat) = 0 by omega), if_pos rfl, q_seated C, sb, eK]
      by_cases c : seatAll s = 0
      · rw [if_pos c, sb, bI_it0, if_neg b]; rfl
      · rw [if_neg c]; rfl
    · intro h1
      unfold M_spy M_spy_j34
      rw [bnd_eq, eM, sb, bI_it0, if_neg b]
      rfl
  have em : ∀ h1, M_spy h1 x1 x2 x3 x4 x5 = bnd (wr h1 251 0 (0 : Int32)) fun h6 => (M_layState h6 x1 x2 x3).bind fun (r9, h10) => if r9 = 0 then ((M_spy_j34 h10)) else ((M_allSeated h10).bind fun r12 => if r12 = 0 then ((M_findSpy h10 x3 x4).bind fun h14 => if (h14.1 251 57) = (-1 : Int32) then ((M_spy_j56 h14)) else (if x5 = 0 then ((M_spy_j56 h14)) else ((M_in x5 (10 : Int32) ((9 : Int32) + (h14.1 251 57))).bind fun r17 => if r17 = 0 then (some ((-1 : Int32), h14)) else (bnd ((h14.1 251 58)) fun y19 => bnd (((h14.1 251 57) - (1 : Int32))) fun y20 => (M_spy_l94 x5 y19 y20 h14))))) else ((M_spy_j34 h10))) := by
    intro h1
    unfold M_spy
    rw [bnd_eq, bnd_eq, eM, sb, b, if_neg bt_0]
  refine sm_cg ?_ em
  unfold K_spy
  refine sm_reach I x1 x2 x3 (jN 1) (fun h1 => rfl) (fun h1 => rfl) ?_
  intro n s h1 hw W X C I1
  have hT5 := hw.1
  dsimp only
  rw [if_neg (show ¬ (57 : Nat) = 0 by omega), if_pos rfl, q_seated C, sb]
  by_cases c : seatAll s = nI 0
  case neg =>
    rw [if_neg (show ¬ seatAll s = 0 from c)]
    refine ok_mk ⟨tl_rfl, fun h2 _ X2 C2 _ => ?_⟩
    rw [if_neg s1_0, q_mseat C2, sb, if_neg (show ¬ seatAll s = 0 from c)]
    exact ok_mk ⟨rfl, tl_rfl⟩
  rw [if_pos (show seatAll s = 0 from c), eK, sb, b, if_neg bt_0]
  refine okb (q_spyOut X hw C W x4) ?_
  rintro ⟨r1, g⟩ ⟨f1, f2⟩
  dsimp only at f1 f2
  dsimp only
  have mod : ∀ h2, MX h2 n → MS h2 s → Again n s x3 h2 → Okk (M_findSpy h2 x3 x4) (fun h' => mspy (spf (Zw n s) (nT n) x4) (nT n) h' ∧ Fr pFS h2 h') := fun h2 X2 C2 A => q_findSpy X2 hw W A (pb_0 c)
  rcases f1 with ⟨nf, rfl⟩ | ⟨N, r, ff, rfl, hd⟩
  · -- nothing is found
    have kk : ∃ v, (if x5 = 0 then some (jN 1, g) else ((K_isOf x5 (10 : Int32) (jN 1)).bind fun r12 => if r12 = 0 then ((K_spy_j85 (-1 : Int32) g)) else ((N_spiedTable g (x5 - (10 : Int32))).bind fun r14 => (K_spy_j85 r14 g)))) = some (v, g) ∧ v = jN 1 := by
      refine ⟨jN 1, ?_, rfl⟩
      by_cases c5 : x5 = 0
      · rw [if_pos c5]
      · rw [if_neg c5, of_jN, sb, if_pos (show nI 0 = (0 : Int32) from rfl)]; rfl
    obtain ⟨v, e1, rfl⟩ := kk
    rw [e1]
    refine ok_mk ⟨tl_pY f2, fun h2 _ X2 C2 A => ?_⟩
    rw [if_neg s1_0, q_mseat C2, sb, if_pos (show seatAll s = 0 from c)]
    refine okb (mod h2 X2 C2 A) ?_
    rintro h3 ⟨y1, y2⟩
    rcases y1 with ⟨-, m57⟩ | ⟨N', r', ff', -, -⟩
    · rw [if_pos (show h3.1 251 57 = (-1 : Int32) from m57)]
      unfold M_spy_j56
      rw [m57]
      exact ok_mk ⟨rfl, tl_pFS y2⟩
    · exact absurd nf (fun nf => FF_n ff' nf)
  · have hN := ff.1
    have hr := ff.2.1
    have hp := pw_le hT5 (show N ≤ 5 by omega)
    -- the model comes to the same rows
    have mm' : ∀ h2, MX h2 n → MS h2 s → Again n s x3 h2 → Okk (M_findSpy h2 x3 x4) (fun h' => h'.1 251 57 = nI N ∧ h'.1 251 58 = nI r ∧ MX h' n ∧ Tl h2 h') := by
      intro h2 X2 C2 A
      refine okw (mod h2 X2 C2 A) ?_
      rintro h3 ⟨y1, y2⟩
      have X3 : MX h3 n := mx_fr X2 (fun c i hc => y2 c i (by
        show ¬ (((c = 251 ∧ 38 ≤ i ∧ i ≤ 40) ∨ (263 ≤ c ∧ c ≤ 273)) ∨ (c = 251 ∧ 57 ≤ i ∧ i ≤ 58))
        omega))
      rcases y1 with ⟨nf, -⟩ | ⟨N', r', ff', m57, m58⟩
      · exact absurd nf (fun nf => FF_n ff nf)
      · obtain ⟨rfl, rfl⟩ := FF_u ff ff'
        exact ⟨m57, m58, X3, tl_pFS y2⟩
    by_cases c5 : x5 = 0
    · rw [if_pos c5]
      refine ok_mk ⟨tl_pY f2, fun h2 _ X2 C2 A => ?_⟩
      rw [if_neg s1_0, q_mseat C2, sb, if_pos (show seatAll s = 0 from c)]
      refine okb (mm' h2 X2 C2 A) ?_
      rintro h3 ⟨m57, m58, X3, t3⟩
      rw [if_neg (show ¬ h3.1 251 57 = (-1 : Int32) by rw [m57]; exact ne_jN (by omega)), if_pos c5]
      unfold M_spy_j56
      rw [m57]
      exact ok_mk ⟨rfl, t3⟩
    rw [if_neg c5, show K_isOf x5 (10 : Int32) (nI N) = some (bI (iz x5 10 N)) from q_isOf x5 (a := 10) (by omega) (by omega), sb, bI_it0]
    have em : ∀ h3 : Hp, h3.1 251 57 = nI N → M_in x5 (10 : Int32) ((9 : Int32) + h3.1 251 57) = some (bI (iz x5 10 N)) := fun h3 e => by
      rw [e, show (9 : Int32) + nI N = nI (9 + N) from nI_add _ _]
      exact (inT x5 (by omega)).1
    unfold K_spy_j85
    by_cases b5 : iz x5 10 N = true
    · obtain ⟨j, hj, -, rfl⟩ := iz_of b5
      have hT1 : 1 ≤ nT n := by
        rcases Nat.eq_zero_or_pos (nT n) with c2 | c2
        · rw [c2, Nat.zero_pow (by omega)] at hr
          omega
        · exact c2
      have eT : N_spiedTable g (nI (10 + j) - (10 : Int32)) = some (nI (spd (nT n) N r j)) := by
        unfold N_spiedTable N_spiedTable_j19
        rw [show nI (10 + j) - (10 : Int32) = nI j from (pk_sub (b := 10) (by omega)).trans (by rw [show 10 + j - 10 = j by omega]), show K_isOf (nI j) (0 : Int32) (4 : Int32) = some (bI (iz (nI j) 0 4)) from q_isOf _ (a := 0) (n := 4) (by omega) (by omega), sb, iz_nI 0 4 (by omega), decide_eq_true (show 0 ≤ j ∧ j < 0 + 4 by omega), if_neg bt_0, ln9.2.2.1, if_pos (nI_in (by omega) (by omega)), nI_clamp (by omega), hd j hj]
      rw [if_pos b5, eT, sb]
      refine ok_mk ⟨tl_pY f2, fun h2 _ X2 C2 A => ?_⟩
      rw [if_neg s1_0, q_mseat C2, sb, if_pos (show seatAll s = 0 from c)]
      refine okb (mm' h2 X2 C2 A) ?_
      rintro h3 ⟨m57, m58, X3, t3⟩
      rw [if_neg (show ¬ h3.1 251 57 = (-1 : Int32) by rw [m57]; exact ne_jN (by omega)), if_neg c5, em h3 m57, sb, b5, if_neg bt_0, bnd_eq, bnd_eq, m57, m58]
      refine okw (q_dig (mx_g X3).1 hT1 hT5 (by omega) hj (by omega)) ?_
      rintro q rfl
      exact ⟨rfl, t3⟩
    · rw [if_neg b5]
      refine ok_mk ⟨tl_pY f2, fun h2 _ X2 C2 A => ?_⟩
      rw [if_neg s1_0, q_mseat C2, sb, if_pos (show seatAll s = 0 from c)]
      refine okb (mm' h2 X2 C2 A) ?_
      rintro h3 ⟨m57, m58, X3, t3⟩
      rw [if_neg (show ¬ h3.1 251 57 = (-1 : Int32) by rw [m57]; exact ne_jN (by omega)), if_neg c5, em h3 m57, sb, bI_it0, if_neg b5]
      exact ok_mk ⟨rfl, t3⟩
