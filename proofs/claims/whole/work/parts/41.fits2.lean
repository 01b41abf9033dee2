/-! ===== L3: fits asked; lines asked ===== -/
theorem q_hasW {h : Hp} {c : Nat → Nat} (h7 : ∀ s, s < 4 → c s ≤ 2 ∧ h.1 (tA 0 + 5) s = nI (c s) ∧ h.1 256 (4 * 0 + s) = nI (c s)) (x : Int32) : M_hasWishes h x = some (bI (iz x 0 (c 2)), wr h 251 43 x) := by
  have e := q_is (s := 2) (by omega) (cls_fr (h' := wr h 251 43 x) h7 (tl_wr (by omega))) x
  unfold M_hasWishes
  rw [bnd_eq, show (2 : Int32) = nI 2 from rfl, e, sb, show (0 : Int32) = nI 0 from rfl, show (1 : Int32) = nI 1 from rfl]
  simp only [bI_g, if_true]
theorem q_hasH {h : Hp} {c : Nat → Nat} (h7 : ∀ s, s < 4 → c s ≤ 2 ∧ h.1 (tA 0 + 5) s = nI (c s) ∧ h.1 256 (4 * 0 + s) = nI (c s)) (x : Int32) : M_hasHearing h x = some (bI (iz x 0 (c 3)), wr h 251 49 x) := by
  have e := q_is (s := 3) (by omega) (cls_fr (h' := wr h 251 49 x) h7 (tl_wr (by omega))) x
  unfold M_hasHearing
  rw [bnd_eq, show (3 : Int32) = nI 3 from rfl, e, sb, show (0 : Int32) = nI 0 from rfl, show (1 : Int32) = nI 1 from rfl]
  simp only [bI_g, if_true]
theorem w251 {h : Hp} {i : Nat} {v : Int32} : Tl h (wr h 251 i v) := tl_wr (by omega)
theorem mh_tl {h h' : Hp} {k : Nat} {n : Inn} (M : MH h k n) (t : Tl h h') : MH h' k n := by
  obtain ⟨m0, m1, mT, mG⟩ := M
  have o : ∀ i, h'.1 257 i = h.1 257 i := fun i => t 257 i (by show (2 ≤ 257 ∧ 257 ≤ 45) ∨ (125 ≤ 257 ∧ 257 ≤ 250) ∨ (252 ≤ 257 ∧ 257 ≤ 260) ∨ 257 = 280; omega)
  refine ⟨by rw [o, m0], by rw [o, m1], ?_, ?_⟩
  · intro t ht
    rw [o, o, o]
    exact mT t ht
  · intro g hg
    rw [o, o]
    exact mG g hg
theorem mg_tl {h h' : Hp} {k m : Nat} {f : Nat → Pst} (M : MG h k m f) (t : Tl h h') : MG h' k m f := by
  obtain ⟨a1, a2, a3, a4⟩ := M
  have o : ∀ i, h'.1 260 i = h.1 260 i := fun i => t 260 i (by show (2 ≤ 260 ∧ 260 ≤ 45) ∨ (125 ≤ 260 ∧ 260 ≤ 250) ∨ (252 ≤ 260 ∧ 260 ≤ 260) ∨ 260 = 280; omega)
  exact ⟨a1, a2, by rw [o, a3], fun i hi => by rw [o, a4 i hi]⟩
theorem mw_tl {h h' : Hp} {k m : Nat} {f : Nat → Pst} (M : MW h k m f) (t : Tl h h') : MW h' k m f := by
  obtain ⟨a1, a2, a3, a4⟩ := M
  have o : ∀ i, h'.1 259 i = h.1 259 i := fun i => t 259 i (by show (2 ≤ 259 ∧ 259 ≤ 45) ∨ (125 ≤ 259 ∧ 259 ≤ 250) ∨ (252 ≤ 259 ∧ 259 ≤ 260) ∨ 259 = 280; omega)
  exact ⟨a1, a2, by rw [o, a3], fun i hi => by rw [o, o, o]; exact a4 i hi⟩
theorem me_tl {h h' : Hp} {k m : Nat} {f : Nat → Pst} (M : ME h k m f) (t : Tl h h') : ME h' k m f := by
  obtain ⟨a1, a2, a3, a4⟩ := M
  have o : ∀ i, h'.1 258 i = h.1 258 i := fun i => t 258 i (by show (2 ≤ 258 ∧ 258 ≤ 45) ∨ (125 ≤ 258 ∧ 258 ≤ 250) ∨ (252 ≤ 258 ∧ 258 ≤ 260) ∨ 258 = 280; omega)
  exact ⟨a1, a2, by rw [o, a3], fun i hi => by rw [o, o, o]; exact a4 i hi⟩
theorem hand_no {h h1 : Hp} {c : Nat → Nat} (h7 : ∀ s, s < 4 → c s ≤ 2 ∧ h.1 (tA 0 + 5) s = nI (c s) ∧ h.1 256 (4 * 0 + s) = nI (c s)) (t : Tl h h1) {x : Int32} (hx : iz x 0 (c 0) = false) : ∃ h2, M_hand h1 x = some (nI 0, h2) ∧ Tl h1 h2 := by
  obtain ⟨⟨r1, r2⟩, e1, e2, e3⟩ := (q_hand (cls_fr h7 t) x).1 hx
  dsimp only at e2
  subst e2
  exact ⟨r2, e1, tl_fr e3 (fun c i hc => by have := hc.1; omega)⟩
theorem hand_yes {h h1 : Hp} {c : Nat → Nat} {k : Nat} {n : Inn} (h7 : ∀ s, s < 4 → c s ≤ 2 ∧ h.1 (tA 0 + 5) s = nI (c s) ∧ h.1 256 (4 * 0 + s) = nI (c s)) (hk : k < c 0) (M : MH h k n) (t : Tl h h1) : ∃ h2, M_hand h1 (nI k) = some (nI 1, h2) ∧ MX h2 n ∧ Fr (fun c i => c = 251 ∧ 23 ≤ i ∧ i ≤ 25) h1 h2 ∧ Tl h1 h2 := by
  obtain ⟨⟨r1, r2⟩, q1, q2, q3, q4⟩ := (q_hand (cls_fr h7 t) (nI k)).2 k n hk (mh_tl M t)
  dsimp only at q2 q3 q4
  subst q2
  exact ⟨r2, q1, q3, q4, tl_fr q4 (fun c i hc => by have := hc.1; omega)⟩
theorem s1_0 : ¬ nI 1 = (0 : Int32) := ne_nI (b := 0) (by omega) (by omega) (by omega)
theorem bt_0 : ¬ bI true = (0 : Int32) := by decide +kernel
def prS (n : Inn) (su : Nat → Int32) : Nat → Int32
  | 0 => nI 1
  | k + 1 => prS n su k * (if su k = jN 1 then nI (nG n) else nI 1)
theorem pG_tl {h h' : Hp} (F : Fr pG h h') : Tl h h' := tl_fr F (fun c i hc => by
  have hc' : (c = 251 ∧ 52 ≤ i ∧ i ≤ 53) ∨ c = 276 ∨ c = 277 := hc
  omega)
theorem pF_tl {h h' : Hp} (F : Fr pF h h') : Tl h h' := tl_fr F (fun c i hc => by
  have hc' : (c = 90 ∧ 5 ≤ i ∧ i ≤ 9) ∨ (91 ≤ c ∧ c < 95) ∨ c = 98 := hc
  omega)
theorem mul_1 (x : Int32) : x * nI 1 = x := Int32.mul_one x
theorem z_mul (x : Int32) : nI 0 * x = nI 0 := Int32.zero_mul
def fitsS (n : Inn) (K m : Nat) (f : Nat → Pst) (x : Int32) : Int32 := if x = nI 0 then (if (flS n K f m).1 = true then prS n (flS n K f m).2 m else nI 0) else if x = nI 1 then (if (flS n K f m).1 = true then (if lR (zL K m) = jN 1 then nI 0 else if (flS n K f m).2 (lR (zL K m)).toNatClampNeg = jN 1 then nI (nG n) else nI 1) else nI 0) else if (flS n K f m).1 = true ∧ iz x 10 m = true then mvS n ((flS n K f m).2 (x - nI 10).toNatClampNeg) else jN 1
theorem t_fits {h : Hp} (I : Inv h) (x1 x2 x3 x4 : Int32) : Sm (K_fits h x1 x2 x3 x4) (fun h1 => M_fits h1 x1 x2 x3 x4) := by
  obtain ⟨len, c, z1, z2, z3, z4, z5, z6, h7, h8, h9, h10, h11, -⟩ := I.1 0 (by omega)
  have c0 := (h7 0 (by omega)).1
  have c3 := (h7 3 (by omega)).1
  have eI := q_innAt h7 x1
  have eL : D_linesAt h 2 (3 : Int32) x2 = some (if iz x2 0 (c 3) = true then 20 + 8 * 2 + 4 * x2.toNatClampNeg else 0) := q_linesAt h7 2 (by omega) x2
  -- the model, up to the inn
  have mod : ∀ h1, Tl h h1 → M_fits h1 x1 x2 x3 x4 = if iz x2 0 (c 3) = true then ((M_hand (wr (wr h1 251 0 0) 251 49 x2) x1).bind fun (r23, h24) => if r23 = 0 then ((M_fits_j29 h24)) else ((M_isTable h24 x3).bind fun r26 => if r26 = 0 then ((M_fits_j29 h24)) else ((M_listen h24 x3).bind fun h28 => (M_fits_l42 x4 (1 : Int32) (0 : Int32) h28)))) else some (jN 1, wr (wr h1 251 0 0) 251 49 x2) := by
    intro h1 t1
    unfold M_fits
    rw [bnd_eq, q_hasH (cls_fr h7 (tl_tr t1 w251)) x2, sb]
    dsimp only
    rw [bI_it0]
    rfl
  by_cases hx1 : iz x1 0 (c 0) = true
  case neg =>
    unfold K_fits K_fits_j40
    rw [eI, sb, eL, sb, if_neg hx1, if_pos rfl]
    refine ok_mk ?_
    show Okk (M_fits h x1 x2 x3 x4) (fun q => q.1 = jN 1 ∧ Inv q.2)
    rw [mod h tl_rfl]
    by_cases hx2 : iz x2 0 (c 3) = true
    · rw [if_pos hx2]
      obtain ⟨h2, e1, e2⟩ := hand_no h7 (tl_tr w251 w251) (eq_false_of_ne_true hx1) (h1 := wr (wr h 251 0 0) 251 49 x2)
      rw [e1, sb]
      exact ok_mk ⟨rfl, inv_fr I (tl_tr (tl_tr w251 w251) e2)⟩
    · rw [if_neg hx2]
      exact ok_mk ⟨rfl, inv_fr I (tl_tr w251 w251)⟩
  obtain ⟨k, hk, hk2, rfl⟩ := iz_0 hx1
  rw [if_pos hx1, nI_clamp hk2] at eI
  by_cases hx2 : iz x2 0 (c 3) = true
  case neg =>
    unfold K_fits K_fits_j40
    rw [eI, sb, eL, sb, if_neg hx2, if_neg (by omega), if_pos rfl]
    refine ok_mk ?_
    show Okk (M_fits h (nI k) x2 x3 x4) (fun q => q.1 = jN 1 ∧ Inv q.2)
    rw [mod h tl_rfl, if_neg hx2]
    exact ok_mk ⟨rfl, inv_fr I (tl_tr w251 w251)⟩
  obtain ⟨e, he, he2, rfl⟩ := iz_0 hx2
  obtain ⟨n, hw, CHk, MHk⟩ := h8 k hk
  obtain ⟨m, f, CLe, MGe, D⟩ := h11 e he
  have hm7 := MGe.2.1
  rw [if_pos hx2, nI_clamp he2] at eL
  have CH' : CH h (8 + 6 * k) n := CHk
  have CL' : CL h (20 + 8 * 2 + 4 * e) m f := by
    have e1 : tA 0 + 18 + 8 * 2 + 4 * e = 20 + 8 * 2 + 4 * e := by show 2 + 18 + 8 * 2 + 4 * e = _; omega
    rw [e1] at CLe
    exact CLe
  have MH' : MH h k n := by
    rw [show 2 * 0 + k = k by omega] at MHk
    exact MHk
  have MG' : MG h e m f := by
    rw [show 2 * 0 + e = e by omega] at MGe
    exact MGe
  have hT5 := hw.1
  have hG := hw.2.2.1
  unfold K_fits K_fits_j40 K_fits_j132
  rw [eI, sb, eL, sb, if_neg (by omega), if_neg (by omega), if_pos CH'.1, q_hasTable CH' hw, sb, bI_it0]
  by_cases b3 : iz x3 0 (nT n) = true
  case neg =>
    rw [if_neg b3]
    refine ok_mk ?_
    show Okk (M_fits h (nI k) (nI e) x3 x4) (fun q => q.1 = jN 1 ∧ Inv q.2)
    rw [mod h tl_rfl, if_pos hx2]
    obtain ⟨h2, e1, e2, -, e3⟩ := hand_yes h7 hk MH' (tl_tr w251 w251) (h1 := wr (wr h 251 0 0) 251 49 (nI e))
    rw [e1, sb]
    dsimp only
    rw [if_neg s1_0, q_isTable e2 hw, sb, bI_it0, if_neg b3]
    exact ok_mk ⟨rfl, inv_fr I (tl_tr (tl_tr w251 w251) e3)⟩
  obtain ⟨t, ht, ht2, rfl⟩ := iz_0 b3
  have hK := hw.2.2.2.1 t ht
  rw [if_pos b3]
  refine okb (q_listen CH' (by omega) hw CL' (by omega) hm7 ht) ?_
  rintro h8' ⟨y8, y98, y9, F8⟩
  have hin := fl_in hw (k0 := nK n t) hm7 D m (Nat.le_refl m)
  have o8 : ∀ c i, c < 90 → h8'.1 c i = h.1 c i := fun c i hc => F8 c i (by show ¬ ((c = 90 ∧ 5 ≤ i ∧ i ≤ 9) ∨ (91 ≤ c ∧ c < 95) ∨ c = 98); omega)
  have l98 : ln 98 = 7 := by decide +kernel
  have g6 : h8'.1 (8 + 6 * k) 6 = nI (nG n) := by rw [o8 _ 6 (by omega), CH'.2.2.1]
  have s3 : h8'.1 (20 + 8 * 2 + 4 * e) 3 = nI m := by rw [o8 _ 3 (by omega), CL'.2.1]
  have of7 : ∀ x : Int32, K_isOf x (0 : Int32) (7 : Int32) = some (bI (iz x 0 7)) := fun x => q_isOf x (a := 0) (n := 7) (by omega) (by omega)
  -- the code's answer
  have cod : (if x4 = 0 then (if kd (20 + 8 * 2 + 4 * e) = 2 then ((N_fittingRows h8' (h8'.1 (8 + 6 * k) 6) (h8'.1 (20 + 8 * 2 + 4 * e) 3)).bind fun r11 => some (r11, h8')) else none) else (if x4 = (1 : Int32) then ((N_tellable h8' (h8'.1 (8 + 6 * k) 6)).bind fun r13 => some (r13, h8')) else (if kd (20 + 8 * 2 + 4 * e) = 2 then ((K_isOf x4 (10 : Int32) (h8'.1 (20 + 8 * 2 + 4 * e) 3)).bind fun r15 => if r15 = 0 then some ((-1 : Int32), h8') else ((N_sureOf h8' (x4 - (10 : Int32)) (h8'.1 (8 + 6 * k) 6)).bind fun r17 => some (r17, h8'))) else none))) = some (fitsS n (nK n t) m f x4, h8') := by
    rw [g6, s3]
    unfold fitsS
    by_cases cx0 : x4 = nI 0
    · rw [if_pos (show x4 = (0 : Int32) from cx0), if_pos CL'.1, if_pos cx0]
      have key : ∀ (v : Int32) (w : Nat → Int32), (∀ j, j ≤ m → w j = v * prS n (flS n (nK n t) f m).2 j) → N_fittingRows_l16 (nI (nG n)) (nI m) v (0 : Int32) h8' = some (w m) := by
        intro v w hv
        apply ok_to
        unfold N_fittingRows_l16
        refine lp_for _ m (fun j q => q = (w j, nI j)) _ ?_ ?_ 0 _ (by omega) ?_
        · rintro j q hj rfl
          unfold N_fittingRows_b16 N_fittingRows_j46
          simp (disch := omega) only [KK, K1, K2, NN, bnd_eq, sb, smr, bI_ite, if_pos, if_neg, if_true, if_false, or_true, true_or, true_and, and_true, g01, l98, y98 j (by omega)]
          have e1 : w (j + 1) = w j * (if (flS n (nK n t) f m).2 j = jN 1 then nI (nG n) else nI 1) := by
            rw [hv (j + 1) (by omega), hv j (by omega)]
            exact (Int32.mul_assoc _ _ _).symm
          by_cases cj : (flS n (nK n t) f m).2 j = jN 1
          · rw [if_pos cj] at e1 ⊢
            refine ok_mk ?_
            show _ = (w (j + 1), nI (j + 1))
            rw [e1]
          · rw [if_neg cj] at e1 ⊢
            refine ok_mk ?_
            show _ = (w (j + 1), nI (j + 1))
            rw [e1]
        · rintro q rfl
          unfold N_fittingRows_b16 N_fittingRows_j54
          simp (disch := omega) only [KK, K1, K2, NN, bnd_eq, sb, smr, bI_ite, if_pos, if_neg, if_true, if_false, or_true, true_or, true_and, and_true, g01]
          exact ⟨_, rfl, rfl⟩
        · show (v, (0 : Int32)) = (w 0, nI 0)
          rw [hv 0 (by omega)]
          show _ = (v * nI 1, nI 0)
          rw [mul_1]
          rfl
      unfold N_fittingRows N_fittingRows_j12
      rw [y8, bI_it0]
      by_cases cf : (flS n (nK n t) f m).1 = true
      · rw [if_pos cf, if_pos cf, key (1 : Int32) (fun j => prS n (flS n (nK n t) f m).2 j) (fun j _ => (Int32.one_mul _).symm), sb]
      · rw [if_neg cf, if_neg cf, key (0 : Int32) (fun j => nI 0) (fun j _ => (z_mul _).symm), sb]
    rw [if_neg (show ¬ x4 = (0 : Int32) from cx0), if_neg cx0]
    by_cases cx1 : x4 = nI 1
    · rw [if_pos (show x4 = (1 : Int32) from cx1), if_pos cx1]
      unfold N_tellable N_tellable_j20 N_tellable_j40
      rw [y8, bI_it0, y9]
      by_cases cf : (flS n (nK n t) f m).1 = true
      case neg =>
        rw [if_neg cf, if_neg cf]; rfl
      rw [if_pos cf, if_pos cf, of7, sb, bI_it0]
      rcases lR_in (nK n t) m with el | ⟨j, hj, el⟩
      · rw [el, iz_jN 0 7 (by omega) (by omega), if_neg (by decide), if_pos rfl]; rfl
      · have ecl : (nI j).toNatClampNeg = j := nI_clamp (by omega)
        rw [el, iz_nI 0 7 (by omega), decide_eq_true (by omega), if_pos rfl, if_neg (ne_jN (show j < 2 ^ 31 by omega)), if_pos (show inb (nI j) (ln 98) by rw [l98]; exact nI_in (by omega) (by omega))]
        simp only [ecl, y98 j (show j < 7 by omega)]
        by_cases cj : (flS n (nK n t) f m).2 j = jN 1
        · rw [if_pos (show (flS n (nK n t) f m).2 j = (-1 : Int32) from cj), if_pos cj]; rfl
        · rw [if_neg (show ¬ (flS n (nK n t) f m).2 j = (-1 : Int32) from cj), if_neg cj]; rfl
    rw [if_neg (show ¬ x4 = (1 : Int32) from cx1), if_neg cx1, if_pos CL'.1, show K_isOf x4 (10 : Int32) (nI m) = some (bI (iz x4 10 m)) from q_isOf x4 (a := 10) (n := m) (by omega) (by omega), sb, bI_it0]
    by_cases cx2 : iz x4 10 m = true
    case neg =>
      rw [if_neg cx2, if_neg (fun e => cx2 e.2)]; rfl
    obtain ⟨j, hj, hj2, rfl⟩ := iz_of cx2
    have esub : nI (10 + j) - (10 : Int32) = nI j := by
      rw [show (10 : Int32) = nI 10 from rfl, pk_sub (by omega), Nat.add_sub_cancel_left]
    have esub' : nI (10 + j) - nI 10 = nI j := esub
    have ecl : (nI j).toNatClampNeg = j := nI_clamp (by omega)
    rw [if_pos cx2, esub]
    simp only [esub', ecl, cx2, and_true]
    have inj : inb (nI j) (ln 98) := by rw [l98]; exact nI_in (by omega) (by omega)
    unfold N_sureOf N_sureOf_j17 N_sureOf_j38 N_sureOf_j44
    rw [y8, bI_it0]
    by_cases cf : (flS n (nK n t) f m).1 = true
    case neg =>
      rw [if_neg cf, if_neg cf]; rfl
    rw [if_pos cf, if_pos cf, of7, iz_nI 0 7 (by omega), decide_eq_true (by omega), sb, if_neg bt_0, if_pos inj, if_pos inj]
    simp only [ecl, y98 j (show j < 7 by omega)]
    unfold mvS
    by_cases cj : (flS n (nK n t) f m).2 j = jN 1
    · rw [if_pos (show (flS n (nK n t) f m).2 j = (-1 : Int32) from cj), if_pos cj]
      by_cases cg : nG n = 1
      · rw [if_pos (show nI (nG n) = (1 : Int32) by rw [cg]; rfl), if_pos cg]; rfl
      · rw [if_neg (show ¬ nI (nG n) = (1 : Int32) from ne_nI (b := 1) (by omega) (by omega) cg), if_neg cg, cj]; rfl
    · rw [if_neg (show ¬ (flS n (nK n t) f m).2 j = (-1 : Int32) from cj), if_neg cj]; rfl
  rw [cod]
  refine ok_mk ?_
  show Okk (M_fits h8' (nI k) (nI e) (nI t) x4) (fun q => q.1 = fitsS n (nK n t) m f x4 ∧ Inv q.2)
  have t1 : Tl h h8' := pF_tl F8
  rw [mod h8' t1, if_pos hx2]
  have t2 : Tl h (wr (wr h8' 251 0 0) 251 49 (nI e)) := tl_tr t1 (tl_tr w251 w251)
  obtain ⟨h2, e1, e2, e2f, e3⟩ := hand_yes h7 hk MH' t2
  rw [e1, sb]
  dsimp only
  have MG2 : MG h2 e m f := mg_tl MG' (tl_tr t2 e3)
  have e49 : h2.1 251 49 = nI e := by
    rw [e2f 251 49 (by show ¬ ((251 : Nat) = 251 ∧ 23 ≤ 49 ∧ 49 ≤ 25); omega), wr_at]
  rw [if_neg s1_0, q_isTable e2 hw, sb, b3, if_neg bt_0]
  refine okb (q_mlisten e2 hw MG2 e49 D ht) ?_
  rintro h3 ⟨u53, u52, us, F3⟩
  have t3 : Tl h h3 := tl_tr (tl_tr t2 e3) (pG_tl F3)
  have o3 : ∀ c i, ¬ ((c = 251 ∧ 52 ≤ i ∧ i ≤ 53) ∨ c = 276 ∨ c = 277) → h3.1 c i = h2.1 c i := fun c i hc => F3 c i hc
  have X3 : MX h3 n := mx_fr e2 (fun c i hc => o3 c i (by omega))
  obtain ⟨eR, -⟩ := q_rowsH (mg_tl MG2 (pG_tl F3)) (by rw [o3 251 49 (by omega), e49])
  have l276 : ln 276 = 8 := by decide +kernel
  -- the model's answer
  have fin : ∀ v, ((flS n (nK n t) f m).1 = true → v = prS n (flS n (nK n t) f m).2 m) → M_fits_j81 x4 v h3 = some (fitsS n (nK n t) m f x4, h3) := by
    intro v hv
    unfold M_fits_j81 M_fits_j99 M_fits_j121 M_fits_j146 M_fits_j184 M_fits_j185 fitsS
    rw [u53, u52, eR]
    by_cases cx0 : x4 = nI 0
    · rw [if_pos (show x4 = (0 : Int32) from cx0), if_pos cx0, bI_it0]
      by_cases cf : (flS n (nK n t) f m).1 = true
      · rw [if_pos cf, if_pos cf, hv cf]
      · rw [if_neg cf, if_neg cf]; rfl
    rw [if_neg (show ¬ x4 = (0 : Int32) from cx0), if_neg cx0]
    by_cases cx1 : x4 = nI 1
    · rw [if_pos (show x4 = (1 : Int32) from cx1), if_pos cx1, bI_it0]
      by_cases cf : (flS n (nK n t) f m).1 = true
      case neg =>
        rw [if_neg cf, if_neg cf]; rfl
      rw [if_pos cf, if_pos cf]
      rcases lR_in (nK n t) m with el | ⟨j, hj, el⟩
      · rw [el, if_pos (show jN 1 = (-1 : Int32) from rfl), if_pos rfl]; rfl
      · have ecl : (nI j).toNatClampNeg = j := nI_clamp (by omega)
        rw [el, if_neg (show ¬ nI j = (-1 : Int32) from ne_jN (by omega)), if_neg (ne_jN (show j < 2 ^ 31 by omega)), if_pos (show inb (nI j) (ln 276) by rw [l276]; exact nI_in (by omega) (by omega))]
        simp only [ecl, us cf j (by omega), (mx_g X3).2]
        unfold mvS
        by_cases cj : (flS n (nK n t) f m).2 j = jN 1
        · rw [if_pos cj, if_pos cj]
          by_cases cg : nG n = 1
          · rw [if_pos cg, if_neg (show ¬ nI 0 = (-1 : Int32) from ne_jN (by omega)), cg]; rfl
          · rw [if_neg cg, if_pos (show jN 1 = (-1 : Int32) from rfl)]
        · rw [if_neg cj, if_neg cj, if_neg (show ¬ (flS n (nK n t) f m).2 j = (-1 : Int32) from cj)]; rfl
    rw [if_neg (show ¬ x4 = (1 : Int32) from cx1), if_neg cx1, bI_it0]
    by_cases cf : (flS n (nK n t) f m).1 = true
    case neg =>
      rw [if_neg cf, if_neg (fun e => cf e.1)]; rfl
    rw [if_pos cf, sb, show (9 : Int32) + nI m = nI (9 + m) from nI_add 9 m, show M_in x4 (10 : Int32) (nI (9 + m)) = some (bI (iz x4 10 m)) from (inT x4 (by omega)).1, sb, bI_it0]
    by_cases cx2 : iz x4 10 m = true
    case neg =>
      rw [if_neg cx2, if_neg (fun e => cx2 e.2)]; rfl
    obtain ⟨j, hj, hj2, rfl⟩ := iz_of cx2
    have esub : nI (10 + j) - (10 : Int32) = nI j := by
      rw [show (10 : Int32) = nI 10 from rfl, pk_sub (by omega), Nat.add_sub_cancel_left]
    have esub' : nI (10 + j) - nI 10 = nI j := esub
    have ecl : (nI j).toNatClampNeg = j := nI_clamp (by omega)
    rw [if_pos cx2, esub, if_pos (show inb (nI j) (ln 276) by rw [l276]; exact nI_in (by omega) (by omega)), if_pos (show (flS n (nK n t) f m).1 = true ∧ iz (nI (10 + j)) 10 m = true from ⟨cf, cx2⟩)]
    simp only [esub', ecl, us cf j (by omega)]
  -- the product on the way
  have fin2 : Okk (M_fits_l42 x4 (1 : Int32) (0 : Int32) h3) (fun q => q = (fitsS n (nK n t) m f x4, h3)) := by
    unfold M_fits_l42
    refine lp_for _ m (fun j q => q.2 = nI j ∧ ((flS n (nK n t) f m).1 = true → q.1 = prS n (flS n (nK n t) f m).2 j)) _ ?_ ?_ 0 _ (by omega) ⟨rfl, fun _ => rfl⟩
    · rintro j ⟨q1, q2⟩ hj ⟨e4, hq⟩
      dsimp only at e4 hq
      subst e4
      unfold M_fits_b42
      dsimp only
      rw [eR, sb, if_neg (by rw [nI_leI (by omega) (by omega)]; omega), if_pos (show inb (nI j) (ln 276) by rw [l276]; exact nI_in (by omega) (by omega)), nI_clamp (by omega), (mx_g X3).2]
      have nxt : ∀ w, ((flS n (nK n t) f m).1 = true → w = (if (flS n (nK n t) f m).2 j = jN 1 then nI (nG n) else nI 1)) → Okk (M_fits_j72 x4 (nI j) q1 w h3) (Sum.elim (fun q => q.2 = nI (j + 1) ∧ ((flS n (nK n t) f m).1 = true → q.1 = prS n (flS n (nK n t) f m).2 (j + 1))) (fun q => q = (fitsS n (nK n t) m f x4, h3))) := by
        intro w hw2
        unfold M_fits_j72
        refine ok_mk ⟨nI_1 j, fun cf => ?_⟩
        show q1 * w = prS n (flS n (nK n t) f m).2 j * (if (flS n (nK n t) f m).2 j = jN 1 then nI (nG n) else nI 1)
        rw [hq cf, hw2 cf]
      by_cases c4 : h3.1 276 j = (-1 : Int32)
      · rw [if_pos c4]
        refine nxt _ (fun cf => ?_)
        rw [us cf j (by omega)] at c4
        unfold mvS at c4
        by_cases cj : (flS n (nK n t) f m).2 j = jN 1
        · rw [if_pos cj]
        · rw [if_neg cj] at c4
          exact absurd c4 cj
      · rw [if_neg c4]
        refine nxt _ (fun cf => ?_)
        rw [us cf j (by omega)] at c4
        unfold mvS at c4
        by_cases cj : (flS n (nK n t) f m).2 j = jN 1
        · rw [if_pos cj] at c4 ⊢
          by_cases cg : nG n = 1
          · rw [cg]; rfl
          · rw [if_neg cg] at c4
            exact absurd rfl c4
        · rw [if_neg cj]; rfl
    · rintro ⟨q1, q2⟩ ⟨e4, hq⟩
      dsimp only at e4 hq
      subst e4
      unfold M_fits_b42
      dsimp only
      rw [eR, sb, if_pos (by rw [nI_leI (by omega) (by omega)]; omega), fin q1 hq]
      exact ⟨_, rfl, rfl⟩
  refine okw fin2 ?_
  rintro q rfl
  exact ⟨rfl, inv_fr I t3⟩
