/-! ===== L3: stop asked ===== -/
theorem t_stop {h : Hp} (I : Inv h) (x1 x2 : Int32) : Sm (K_stop h x1 x2) (fun h1 => M_stop h1 x1 x2) := by
  obtain ⟨len, c, z1, z2, z3, z4, z5, z6, h7, h8, h9, -⟩ := I.1 0 (by omega)
  have c0 := (h7 0 (by omega)).1
  have c1 := (h7 1 (by omega)).1
  have eI := q_innAt h7 x1
  have eL : D_linesAt h 2 (1 : Int32) x2 = some (if iz x2 0 (c 1) = true then 20 + 8 * 0 + 4 * x2.toNatClampNeg else 0) := q_linesAt h7 0 (by omega) x2
  have em : ∀ h1, Tl h h1 → M_stop h1 x1 x2 = (if iz x2 0 (c 1) = true then ((M_hand (wr (wr h1 251 0 0) 251 26 x2) x1).bind fun (r5, h6) => if r5 = 0 then some (jN 1, h6) else ((M_deeds h6).bind fun r8 => (M_play h6 r8).bind fun (r9, h10) => some (r9, h10))) else some (jN 1, wr (wr h1 251 0 0) 251 26 x2)) := by
    intro h1 t
    unfold M_stop M_stop_j32 M_stop_j33
    rw [bnd_eq, q_evenings (cls_fr h7 (tl_tr t w251)) x2, sb]
    dsimp only
    rw [bI_it0]
    rfl
  have no : K_stop h x1 x2 = some (jN 1, h) → (iz x2 0 (c 1) = true → iz x1 0 (c 0) = false) → Sm (K_stop h x1 x2) (fun h1 => M_stop h1 x1 x2) := by
    intro e1 e2
    unfold Sm
    rw [e1]
    refine ok_mk ?_
    dsimp only
    rw [em h tl_rfl]
    by_cases b2 : iz x2 0 (c 1) = true
    · rw [if_pos b2]
      obtain ⟨h2, d1, d2⟩ := hand_no h7 (tl_tr (w251 (h := h) (i := 0) (v := 0)) (w251 (i := 26) (v := x2))) (e2 b2)
      rw [d1, sb]
      exact ok_mk ⟨rfl, inv_fr I (tl_tr (tl_tr w251 w251) d2)⟩
    · rw [if_neg b2]
      exact ok_mk ⟨rfl, inv_fr I (tl_tr w251 w251)⟩
  by_cases b : iz x1 0 (c 0) = true
  case neg =>
    refine no ?_ (fun _ => eq_false_of_ne_true b)
    unfold K_stop K_stop_j29
    rw [eI, sb, eL, sb, if_neg b, if_pos rfl]; rfl
  obtain ⟨k, hk, hk2, rfl⟩ := iz_0 b
  by_cases b2 : iz x2 0 (c 1) = true
  case neg =>
    refine no ?_ (fun e => absurd e b2)
    unfold K_stop K_stop_j29
    rw [eI, sb, eL, sb, if_pos b, nI_clamp hk2, if_neg (by omega), if_neg b2, if_pos rfl]; rfl
  obtain ⟨e, he, he2, rfl⟩ := iz_0 b2
  obtain ⟨n, hw, CHk, MHk⟩ := h8 k hk
  obtain ⟨m, f, CLe, MEe, D⟩ := h9 e he
  have H : CH h (8 + 6 * k) n := CHk
  have CL' : CL h (20 + 8 * 0 + 4 * e) m f := by
    have e1 : tA 0 + 18 + 8 * 0 + 4 * e = 20 + 8 * 0 + 4 * e := by show 2 + 18 + 8 * 0 + 4 * e = _; omega
    rw [e1] at CLe
    exact CLe
  have MH' : MH h k n := by
    rw [show 2 * 0 + k = k by omega] at MHk
    exact MHk
  have ME' : ME h e m f := by
    rw [show 2 * 0 + e = e by omega] at MEe
    exact MEe
  unfold Sm K_stop
  rw [eI, sb, eL, sb, if_pos b, if_pos b2, nI_clamp hk2, nI_clamp he2, if_neg (by omega), if_neg (by omega), if_pos CL'.1, CL'.2.1]
  refine okb (q_follow (by omega) H (by omega) CL' hw D (Nat.le_refl m)) ?_
  rintro ⟨r1, g⟩ ⟨g1, g2, g3, g4⟩
  dsimp only at g1 g2 g3 g4
  subst g1
  refine ok_mk ?_
  dsimp only
  have t1 : Tl h (wr (wr g 251 0 0) 251 26 (nI e)) := tl_tr (tl_pbg g4) (tl_tr w251 w251)
  obtain ⟨h2, d1, X2, d3, d4⟩ := hand_yes h7 hk MH' t1
  have o2 : ∀ c i, ¬ (c = 251 ∧ 23 ≤ i ∧ i ≤ 25) → h2.1 c i = (wr (wr g 251 0 0) 251 26 (nI e)).1 c i := d3
  have E2 := me_tl ME' (tl_tr t1 d4)
  have e26 : h2.1 251 26 = nI e := by rw [o2 251 26 (by omega), wr_at]
  rw [em g (tl_pbg g4), if_pos b2, d1, sb]
  dsimp only
  rw [if_neg s1_0, q_deeds E2 e26, sb]
  refine okb (q_play X2 hw E2 e26 D (Nat.le_refl m)) ?_
  rintro ⟨p1, p2⟩ ⟨y1, y2, y3⟩
  dsimp only at y1
  subst y1
  exact ok_mk ⟨rfl, inv_fr I (tl_tr (tl_tr t1 d4) (tl_plm (fr_mo y3 (fun c i hc => Or.inr hc))))⟩
