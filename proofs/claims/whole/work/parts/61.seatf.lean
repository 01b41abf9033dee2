/-! ===== L3: seatings: the search ===== -/
theorem css_fr {n : Inn} {h h' : Hp} {q : Nat × Nat × Nat × Nat} (S : cSS n h q) (o : ∀ c i, (c = 99 ∧ 8 ≤ i) ∨ c = 106 → h'.1 c i = h.1 c i) : cSS n h' q := by
  obtain ⟨a1, a2⟩ := S
  refine ⟨by rw [o _ _ (by omega), a1], fun hq => ?_⟩
  obtain ⟨b1, b2, b3⟩ := a2 hq
  refine ⟨by rw [o _ _ (by omega), b1], by rw [o _ _ (by omega), b2], fun i hi => by rw [o _ _ (by omega), b3 i hi]⟩
theorem bit_off {x : Int32} {g : Nat} (hg : g < 32) (h : bt x g = false) : (x ||| sh (nI 1) (nI g)) &&& (sh (nI 1) (nI g) ^^^ jN 1) = x := by
  refine b_ext (fun i hi => ?_)
  rw [b_and, b_or, b_nt _ _ hi, b_sh hg i hi]
  by_cases c : i = g
  · subst c
    rw [h, decide_eq_true rfl]; rfl
  · rw [decide_eq_false c, Bool.or_false]
    exact Bool.and_true _
theorem q_seatFrom {n : Inn} {s : St} {f : Nat → Pst} {m a : Nat} (hw : wI n) (W : wS n s) (hG : nG n ≤ 6) (HR : alB (hrW n f) m = true) : ∀ k, k ≤ nG n → ∀ fu, k < fu → ∀ (h : Hp) (q : Nat), SpS n s f m a h → (q + 1) * nT n ^ k ≤ nT n ^ nG n → (∀ t, t < nT n → h.1 104 t = dS (spd (nT n) (nG n - k) q) t (nG n - k)) → (∀ i, i < nG n - k → h.1 105 i = nI (spd (nT n) (nG n - k) q i)) → (∀ i, i < nG n - k → stO n s f m (spd (nT n) (nG n - k) q) i = true) → cSS n h (seS n s f m (q * nT n ^ k)) → Okk (G_seatFrom fu h (nI (nG n - k)) (nI (nsm (stH n s (spd (nT n) (nG n - k) q)) (nG n - k))) (nI (nsm (stP n s (spd (nT n) (nG n - k) q)) (nG n - k)))) (fun h' => cSS n h' (seS n s f m ((q + 1) * nT n ^ k)) ∧ (∀ t, t < nT n → h'.1 104 t = h.1 104 t) ∧ (∀ i, i < nG n - k → h'.1 105 i = h.1 105 i) ∧ Fr pSd h h') := by
  have hT := hw.1
  have hG1 := hw.2.1
  have hp6 := pw6 hT hG
  have hGG : nI (nG n) ≤ nI (nG n) := by rw [i_le]; omega
  intro k
  induction k with
  | zero =>
    intro hk fu hfu h q H hq h4 h5 hO S
    obtain ⟨fu, rfl⟩ : ∃ f', fu = f' + 1 := ⟨fu - 1, by omega⟩
    rw [Nat.pow_zero, Nat.mul_one] at S hq ⊢
    rw [Nat.sub_zero] at h4 h5 hO ⊢
    have hT1 : 1 ≤ nT n := by
      rcases Nat.eq_zero_or_pos (nT n) with c | c
      · rw [c, Nat.zero_pow (by omega)] at hq
        omega
      · exact c
    obtain ⟨ha, e7, HC, -⟩ := H
    show Okk (G_seatFrom_b (G_seatFrom fu) h _ _ _) _
    unfold G_seatFrom_b G_seatFrom_j17
    rw [e7, nI_clamp (show a < 2 ^ 31 by omega), if_pos HC.1, HC.2.2.1, if_pos hGG]
    have ok : sFi n s f m q = true := by
      unfold sFi
      rw [HR, Bool.true_and, alB_t]
      exact hO
    refine okb (q_weigh (fi := sFi n s f m) (hm := sHm n s) (pd := sPd n s) hG S (fun r => by have := sHm_le n s hG r; omega) (fun r => by have := sPd_le hw s hG hT1 r; omega) (by omega) ok h5) ?_
    rintro h1 ⟨P1, P2⟩
    have o : ∀ c i, ¬ ((c = 99 ∧ 8 ≤ i) ∨ c = 106) → h1.1 c i = h.1 c i := P2
    refine ok_mk ⟨P1, fun t _ => o _ _ (by omega), fun i _ => o _ _ (by omega), fr_mo P2 (fun c i hc => ?_)⟩
    have hc' : (c = 99 ∧ 8 ≤ i) ∨ c = 106 := hc
    show (c = 99 ∧ 8 ≤ i) ∨ (104 ≤ c ∧ c ≤ 106)
    omega
  | succ k ih =>
    intro hk fu hfu h q H hq h4 h5 hO S
    obtain ⟨fu, rfl⟩ : ∃ f', fu = f' + 1 := ⟨fu - 1, by omega⟩
    obtain ⟨g, hg⟩ : ∃ g, g = nG n - (k + 1) := ⟨_, rfl⟩
    have eg : nG n - k = g + 1 := by omega
    have hgG : g < nG n := by omega
    rw [← hg] at h4 h5 hO ⊢
    rw [eg] at ih
    obtain ⟨ha, e7, HC, -⟩ := id H
    obtain ⟨l0, l1, l2, l3, l4, l5, l6, -⟩ := ln99
    have ePow : ∀ u, u * nT n ^ (k + 1) = u * nT n * nT n ^ k := fun u => by rw [Nat.pow_succ, Nat.mul_comm (nT n ^ k), Nat.mul_assoc]
    show Okk (G_seatFrom_b (G_seatFrom fu) h _ _ _) _
    unfold G_seatFrom_b
    rw [e7, nI_clamp (show a < 2 ^ 31 by omega), if_pos HC.1, HC.2.2.1, if_neg (show ¬ nI (nG n) ≤ nI g from fun e => by rw [i_le, nI_toInt (by omega), nI_toInt (by omega)] at e; omega), if_pos (show nI g < (6 : Int32) by rw [i_lt, nI_toInt (by omega)]; have : (6 : Int32).toInt = 6 := rfl; omega)]
    unfold G_seatFrom_l27
    refine lp_for _ (nT n) (fun t z => z.1 = nI t ∧ cSS n z.2 (seS n s f m ((q * nT n + t) * nT n ^ k)) ∧ (∀ u, u < nT n → z.2.1 104 u = h.1 104 u) ∧ (∀ i, i < g → z.2.1 105 i = h.1 105 i) ∧ Fr pSd h z.2) _ ?_ ?_ 0 _ (by omega) ⟨rfl, ?_, fun _ _ => rfl, fun _ _ => rfl, fr_rfl⟩
    · rintro t ⟨z1, z2⟩ ht ⟨rfl, S2, h42, h52, F⟩
      dsimp only at S2 h42 h52 F
      have H2 := sp_fr hw H F
      obtain ⟨-, e72, HC2, A2, G2⟩ := H2
      have hb : (q * nT n + t + 1) * nT n ^ k ≤ nT n ^ nG n := by
        refine Nat.le_trans (Nat.mul_le_mul_right (nT n ^ k) (show q * nT n + t + 1 ≤ (q + 1) * nT n by rw [Nat.succ_mul]; omega)) ?_
        rw [← ePow]
        exact hq
      have hpt : spd (nT n) (g + 1) (q * nT n + t) g = t := spd_last ht
      have hpi : ∀ i, i < g → spd (nT n) (g + 1) (q * nT n + t) i = spd (nT n) g q i := fun i hi => spd_init ht hi
      have e104 : ∀ u, u < nT n → z2.1 104 u = dS (spd (nT n) (g + 1) (q * nT n + t)) u g := fun u hu => by
        rw [h42 u hu, h4 u hu]
        exact dS_cg u g (fun i hi => (hpi i hi).symm)
      have hstc : ∀ i, i < g → stO n s f m (spd (nT n) (g + 1) (q * nT n + t)) i = stO n s f m (spd (nT n) g q) i ∧ stH n s (spd (nT n) (g + 1) (q * nT n + t)) i = stH n s (spd (nT n) g q) i ∧ stP n s (spd (nT n) (g + 1) (q * nT n + t)) i = stP n s (spd (nT n) g q) i := fun i hi => st_cg s f m (fun j hj => hpi j (by omega))
      have eM := q_maySit hw hG ⟨ha, e72, HC2, A2, G2⟩ hgG ht (e104 t ht) hpt
      unfold G_seatFrom_b27 G_seatFrom_j185
      dsimp only
      rw [e72, nI_clamp (show a < 2 ^ 31 by omega), if_pos HC2.1, HC2.2.1, if_neg (show ¬ nI (nT n) ≤ nI t from fun e => by rw [i_le, nI_toInt (by omega), nI_toInt (by omega)] at e; omega), if_neg (show ¬ (5 : Int32) ≤ nI t from fun e => by rw [i_le, nI_toInt (by omega)] at e; have : (5 : Int32).toInt = 5 := rfl; omega), eM, sb, bI_it0, bnd_eq, show nI t + (1 : Int32) = nI (t + 1) from nI_add _ _]
      cases ok : stO n s f m (spd (nT n) (g + 1) (q * nT n + t)) g
      case false =>
        rw [if_neg (by decide)]
        refine ok_mk ⟨rfl, ?_, h42, h52, F⟩
        dsimp only
        rw [show q * nT n + (t + 1) = q * nT n + t + 1 by omega, Nat.succ_mul]
        have e := sS_skip (fi := sFi n s f m) (hm := sHm n s) (pd := sPd n s) (r := (q * nT n + t) * nT n ^ k) (nT n ^ k) (fun i h1 h2 => by
          have ei : i / nT n ^ k = q * nT n + t := Nat.div_eq_of_lt_le h1 (by rw [Nat.succ_mul]; exact h2)
          have ec : stO n s f m (spd (nT n) (nG n) i) g = stO n s f m (spd (nT n) (g + 1) (q * nT n + t)) g := by
            refine (st_cg s f m (fun j hj => ?_)).1
            rw [show nG n = g + 1 + k by omega]
            exact spd_pre ei (by omega)
          unfold sFi
          rw [alB_f (k := g) (by rw [ec, ok]) (nG n) hgG, Bool.and_false])
        show cSS n z2 (sS (sFi n s f m) (sHm n s) (sPd n s) _)
        rw [e]
        exact S2
      have hT1 : 1 ≤ nT n := by omega
      have hbG := wB_g (W.1 t (by omega)).1
      have lG : lo 10 (bG (sB s t)) := lo_mo hbG.1 (by omega)
      have lQ := (wI_lo hw (show g < 8 by omega)).1
      have k1 := q_bits (lo_al (bG (sB s t)) lQ)
      have k2 := q_bits (lo_al (dS (spd (nT n) (g + 1) (q * nT n + t)) t g) lQ)
      have k3 := q_bits lG
      have y1 := pc_le (bG (sB s t))
      obtain ⟨hpr, hpr9⟩ := pr_n hw ht
      have eH : nI (nsm (stH n s (spd (nT n) g q)) g) + (nI (pc (nQ n g &&& bG (sB s t))) + nI (pc (nQ n g &&& dS (spd (nT n) (g + 1) (q * nT n + t)) t g))) = nI (nsm (stH n s (spd (nT n) (g + 1) (q * nT n + t))) (g + 1)) := by
        rw [nI_add, nI_add, nsm_s, nsm_cg g (fun i hi => (hstc i hi).2.1)]
        unfold stH
        rw [hpt]
      have eP : ∀ v, v = (if dS (spd (nT n) (g + 1) (q * nT n + t)) t g = nI 0 then pc (bG (sB s t)) else 0) → nI (nsm (stP n s (spd (nT n) g q)) g) + ((nI 1 + nI v) * nI (pr n t)) = nI (nsm (stP n s (spd (nT n) (g + 1) (q * nT n + t))) (g + 1)) := by
        rintro v rfl
        rw [nI_add, pk_mul, nI_add, nsm_s, nsm_cg g (fun i hi => (hstc i hi).2.2)]
        unfold stP
        rw [hpt]
      have fin : ∀ v, v = (if dS (spd (nT n) (g + 1) (q * nT n + t)) t g = nI 0 then pc (bG (sB s t)) else 0) → Okk (G_seatFrom_j121 (G_seatFrom fu) (nI g) (nI (nsm (stH n s (spd (nT n) g q)) g)) (nI (nsm (stP n s (spd (nT n) g q)) g)) (nI t) (nI (pc (nQ n g &&& bG (sB s t))) + nI (pc (nQ n g &&& dS (spd (nT n) (g + 1) (q * nT n + t)) t g))) (1 : Int32) (nI v) z2) (Sum.elim (fun z => z.1 = nI (t + 1) ∧ cSS n z.2 (seS n s f m ((q * nT n + (t + 1)) * nT n ^ k)) ∧ (∀ u, u < nT n → z.2.1 104 u = h.1 104 u) ∧ (∀ i, i < g → z.2.1 105 i = h.1 105 i) ∧ Fr pSd h z.2) (fun h' => cSS n h' (seS n s f m ((q + 1) * nT n ^ (k + 1))) ∧ (∀ t, t < nT n → h'.1 104 t = h.1 104 t) ∧ (∀ i, i < g → h'.1 105 i = h.1 105 i) ∧ Fr pSd h h')) := by
        intro v hv
        have c3 : nI t = nI t := rfl
        unfold G_seatFrom_j121 G_seatFrom_j185
        simp only [bnd_eq, nI_clamp (show t < 2 ^ 31 by omega), nI_clamp (show g < 2 ^ 31 by omega), l4, l5]
        rw [if_pos (nI_in (show t < 5 by omega) (by omega)), if_pos (nI_in (show t < 5 by omega) (by omega)), if_pos (nI_in (show g < 6 by omega) (by omega))]
        have F3 : Fr pSd h (wr (wr z2 104 t (z2.1 104 t ||| sh (1 : Int32) (nI g))) 105 g (nI t)) := fr_tr F (fr_tr (fr_wr (Or.inr (by omega))) (fr_wr (Or.inr (by omega))))
        have H3 := sp_fr hw H F3
        have H3' := H3
        obtain ⟨-, e73, HC3, -, -⟩ := H3
        rw [e73, nI_clamp (show a < 2 ^ 31 by omega), if_pos HC3.1, q_priceOf HC3 hw ht, sb, hpr, eH, show nI g + (1 : Int32) = nI (g + 1) from nI_add _ _, show nI (nsm (stP n s (spd (nT n) g q)) g) + (((1 : Int32) + nI v) * nI (pr n t)) = _ from eP v hv]
        have a104 : ∀ u, u < nT n → (wr (wr z2 104 t (z2.1 104 t ||| sh (1 : Int32) (nI g))) 105 g (nI t)).1 104 u = dS (spd (nT n) (g + 1) (q * nT n + t)) u (g + 1) := fun u hu => by
          rw [wr_c _ _ _ _ (by omega), dS_s, hpt]
          by_cases c : t = u
          · subst c
            rw [wr_at, if_pos rfl, e104 t ht]
            rfl
          · rw [wr_p _ _ _ _ (fun e => c e.symm), if_neg c, e104 u hu]
        have a105 : ∀ i, i < g + 1 → (wr (wr z2 104 t (z2.1 104 t ||| sh (1 : Int32) (nI g))) 105 g (nI t)).1 105 i = nI (spd (nT n) (g + 1) (q * nT n + t) i) := fun i hi => by
          by_cases c : i = g
          · subst c
            rw [wr_at, hpt]
          · rw [wr_p _ _ _ _ c, wr_c _ _ _ _ (by omega), h52 i (by omega), h5 i (by omega), hpi i (by omega)]
        have aO : ∀ i, i < g + 1 → stO n s f m (spd (nT n) (g + 1) (q * nT n + t)) i = true := fun i hi => by
          by_cases c : i = g
          · subst c
            exact ok
          · rw [(hstc i (by omega)).1]
            exact hO i (by omega)
        refine okb (ih (by omega) fu (by omega) _ (q * nT n + t) H3' hb a104 a105 aO (css_fr S2 (fun c i hc => by rw [wr_c _ _ _ _ (by omega), wr_c _ _ _ _ (by omega)]))) ?_
        rintro h11 ⟨r1, r2, r3, r4⟩
        rw [if_pos (nI_in (show t < 5 by omega) (by omega)), if_pos (nI_in (show t < 5 by omega) (by omega)), show nI t + (1 : Int32) = nI (t + 1) from nI_add _ _]
        have back : h11.1 104 t &&& (sh (1 : Int32) (nI g) ^^^ (-1 : Int32)) = h.1 104 t := by
          rw [r2 t ht, a104 t ht, dS_s, hpt, if_pos rfl, ← h42 t ht, e104 t ht]
          exact bit_off (by omega) (by rw [dS_b _ _ g (by omega), decide_eq_false (by omega)])
        refine ok_mk ⟨rfl, css_fr r1 (fun c i hc => wr_c _ _ _ _ (by omega)), fun u hu => ?_, fun i hi => ?_, fr_tr (fr_tr F3 r4) (fr_wr (Or.inr (by omega)))⟩
        · dsimp only
          by_cases c : u = t
          · subst c
            rw [wr_at]
            exact back
          · rw [wr_p _ _ _ _ c, r2 u hu, wr_c _ _ _ _ (by omega), wr_p _ _ _ _ c, h42 u hu]
        · dsimp only
          rw [wr_c _ _ _ _ (by omega), r3 i (by omega), wr_p _ _ _ _ (by omega), wr_c _ _ _ _ (by omega), h52 i hi]
      rw [if_pos rfl, q_quarrelsOf HC2 hw hgG, sb, l3, if_pos (nI_in (show t < 5 by omega) (by omega))]
      simp only [nI_clamp (show t < 2 ^ 31 by omega), G2 t ht, l4]
      rw [k1, sb, sb, if_pos (nI_in (show t < 5 by omega) (by omega)), e104 t ht, k2, sb, bnd_eq, if_pos (nI_in (show t < 5 by omega) (by omega))]
      by_cases c : dS (spd (nT n) (g + 1) (q * nT n + t)) t g = nI 0
      · rw [if_pos (show dS (spd (nT n) (g + 1) (q * nT n + t)) t g = 0 from c), if_pos (nI_in (show t < 5 by omega) (by omega)), k3, sb]
        exact fin _ (by rw [if_pos c])
      · rw [if_neg (show ¬ dS (spd (nT n) (g + 1) (q * nT n + t)) t g = 0 from c)]
        exact fin 0 (by rw [if_neg c])
    · rintro ⟨z1, z2⟩ ⟨rfl, S2, h42, h52, F⟩
      dsimp only at S2 h42 h52 F
      obtain ⟨-, e72, HC2, A2, G2⟩ := sp_fr hw H F
      unfold G_seatFrom_b27 G_seatFrom_j191
      dsimp only
      rw [e72, nI_clamp (show a < 2 ^ 31 by omega), if_pos HC2.1, HC2.2.1, if_pos (show nI (nT n) ≤ nI (nT n) by rw [i_le]; omega)]
      refine okmr (ok_mk ⟨?_, h42, h52, F⟩)
      rw [ePow, Nat.succ_mul]
      exact S2
    · rw [Nat.add_zero, ← ePow]
      exact S
theorem cl_se {h h' : Hp} {a m : Nat} {f : Nat → Pst} (C : CL h a m f) (o : ∀ c i, a ≤ c → c < a + 4 → h'.1 c i = h.1 c i) : CL h' a m f := by
  obtain ⟨c1, c2, c3, c4⟩ := C
  refine ⟨c1, by rw [o _ _ (by omega) (by omega), c2], c3, fun i hi => ?_⟩
  rw [o _ _ (by omega) (by omega), o _ _ (by omega) (by omega), o _ _ (by omega) (by omega)]
  exact c4 i hi
theorem seS_no {n : Inn} {s : St} {f : Nat → Pst} {m : Nat} (h : alB (hrW n f) m = false) : ∀ r, seS n s f m r = (0, 0, 0, 0)
  | 0 => rfl
  | r + 1 => by
    have ih := seS_no (s := s) h r
    have e : sFi n s f m r = false := by
      unfold sFi
      rw [h, Bool.false_and]
    show sS (sFi n s f m) (sHm n s) (sPd n s) (r + 1) = _
    rw [sS_s, e, if_neg (by decide)]
    exact ih
theorem q_gsearch {h : Hp} {n : Inn} {s : St} {f : Nat → Pst} {m b : Nat} (X : CX h n) (hw : wI n) (C : CS h s) (W : wS n s) (hG : nG n ≤ 6) (hb : b + 4 ≤ 57) (L : CL h b m f) (hm10 : m ≤ 10) (D : ∀ j, j < m → wW (f j)) : Okk (G_search h 57 b) (fun h' => cSS n h' (seS n s f m (nT n ^ nG n)) ∧ (∃ a, a < 50 ∧ h'.1 99 7 = nI a ∧ CH h' a n) ∧ Fr pSe h h') := by
  have hT := hw.1
  obtain ⟨a, ha, h6, H, hk, h5, hg⟩ := cx_g X
  obtain ⟨l0, l1, l2, l3, l4, l5, l6, k0, k1, k2, k3, k4, k5, k6⟩ := ln99
  have CHf : ∀ h', Fr pSe h h' → CH h' a n := fun h' F => chf hw H (fun c i h1 h2 => se_o F c i (by omega))
  unfold G_search
  rw [if_pos rfl, h6, nI_clamp (show a < 2 ^ 31 by omega), if_pos hk, bnd_eq, bnd_eq, q_fill _ _ k0 (by omega), sb, q_fill _ _ k1 (by omega), sb, q_fill _ _ k2 (by omega), sb, q_fill _ _ k4 (by omega), sb]
  have fF : ∀ (h : Hp) c v, 99 ≤ c → c ≤ 106 → Fr pSe h (fil h c v) := fun h c v hc1 hc2 a i ha => by
    have ha' : ¬ (99 ≤ a ∧ a ≤ 106) := ha
    exact fil_c i (by omega)
  obtain ⟨h0, e0⟩ : ∃ h0, fil (fil (fil (fil (wr (wr h 99 7 (Int32.ofNat a)) 99 8 (0 : Int32)) 100 (31 : Int32)) 101 (0 : Int32)) 102 (0 : Int32)) 104 (0 : Int32) = h0 := ⟨_, rfl⟩
  have F0 : Fr pSe h h0 := by
    rw [← e0]
    exact fr_tr (fr_tr (fr_tr (fr_tr (fr_tr (fr_wr (show 99 ≤ 99 ∧ 99 ≤ 106 by omega)) (fr_wr (show 99 ≤ 99 ∧ 99 ≤ 106 by omega))) (fF _ 100 _ (by omega) (by omega))) (fF _ 101 _ (by omega) (by omega))) (fF _ 102 _ (by omega) (by omega))) (fF _ 104 _ (by omega) (by omega))
  have g7 : h0.1 99 7 = nI a := by
    rw [← e0, fil_c _ (by omega), fil_c _ (by omega), fil_c _ (by omega), fil_c _ (by omega), wr_p _ _ _ _ (by omega), wr_at]
    rfl
  have g8 : h0.1 99 8 = nI 0 := by
    rw [← e0, fil_c _ (by omega), fil_c _ (by omega), fil_c _ (by omega), fil_c _ (by omega), wr_at]
    rfl
  have gA : ArS n s f 0 h0 := fun g hg => by
    rw [← e0]
    refine ⟨?_, ?_, ?_⟩
    · rw [fil_c _ (by omega), fil_c _ (by omega), fil_c _ (by omega), fil_at (by omega)]
      rfl
    · rw [fil_c _ (by omega), fil_c _ (by omega), fil_at (by omega)]
      rfl
    · rw [fil_c _ (by omega), fil_at (by omega)]
      rfl
  have g4 : ∀ t, t < 5 → h0.1 104 t = nI 0 := fun t ht => by
    rw [← e0, fil_at (by omega)]
    rfl
  rw [e0]
  unfold G_search_l48
  refine lp_for _ 5 (fun t z => z.1 = nI t ∧ (∀ i, i < t → i < nT n → z.2.1 103 i = bG (sB s i)) ∧ (∀ c i, c ≠ 103 → z.2.1 c i = h0.1 c i)) _ ?_ ?_ 0 _ (by omega) ⟨rfl, fun i hi => absurd hi (by omega), fun _ _ _ => rfl⟩
  · rintro t ⟨z1, z2⟩ ht ⟨rfl, hz, o⟩
    dsimp only at hz o
    have F2 : Fr pSe h z2 := fr_tr F0 (fun c i hc => o c i (by have hc' : ¬ (99 ≤ c ∧ c ≤ 106) := hc; omega))
    obtain ⟨X2, C2⟩ := cs_se F2 X C
    have hbn := wB_u (W.1 t ht).1 (by have := kp_le hw t; omega)
    have hbt := q_bturn (el_st t ht).2 (C2.1 t ht) hbn.1 (W.1 t ht).1.2.1
    have fin : ∀ v, (t < nT n → v = bG (sB s t)) → Okk (G_search_j84 57 b (nI t) (nI t) v z2) (Sum.elim (fun z : Int32 × Hp => z.1 = nI (t + 1) ∧ (∀ i, i < t + 1 → i < nT n → z.2.1 103 i = bG (sB s i)) ∧ (∀ c i, c ≠ 103 → z.2.1 c i = h0.1 c i)) (fun h' => cSS n h' (seS n s f m (nT n ^ nG n)) ∧ (∃ a, a < 50 ∧ h'.1 99 7 = nI a ∧ CH h' a n) ∧ Fr pSe h h')) := by
      intro v hv
      unfold G_search_j84
      rw [l3, if_pos (nI_in (show t < 5 by omega) (by omega)), bnd_eq, bnd_eq, nI_clamp (show t < 2 ^ 31 by omega), show nI t + (1 : Int32) = nI (t + 1) from nI_add _ _]
      refine ok_mk ⟨rfl, fun i hi hin => ?_, fun c i hc => ?_⟩
      · dsimp only
        by_cases c : i = t
        · subst c
          rw [wr_at, hv hin]
        · rw [wr_p _ _ _ _ c, hz i (by omega) hin]
      · dsimp only
        rw [wr_c _ _ _ _ hc, o c i hc]
    unfold G_search_b48
    dsimp only
    rw [if_neg (show ¬ (5 : Int32) ≤ nI t from fun e => by rw [i_le, nI_toInt (by omega)] at e; have : (5 : Int32).toInt = 5 := rfl; omega), if_pos rfl, q_benchAt X2 hw (nI t), iz_nI 0 _ (by omega), sb]
    by_cases c1 : t < nT n
    · rw [if_pos (decide_eq_true (show 0 ≤ t ∧ t < 0 + nT n by omega)), nI_clamp (show t < 2 ^ 31 by omega), if_neg (show ¬ 70 + 4 * t = 0 by omega), if_pos (el_st t ht).2, hbt.1, sb]
      exact fin _ (fun _ => rfl)
    · rw [if_neg (show ¬ decide (0 ≤ t ∧ t < 0 + nT n) = true by rw [decide_eq_true_eq]; omega), if_pos rfl]
      exact fin _ (fun c => absurd c c1)
  · rintro ⟨z1, z2⟩ ⟨rfl, hz, o⟩
    dsimp only at hz o
    unfold G_search_b48 G_search_j91
    dsimp only
    rw [if_pos (show (5 : Int32) ≤ nI 5 from of_eq_true (by decide +kernel))]
    refine okmr ?_
    unfold G_search_l96
    have F2 : Fr pSe h z2 := fr_tr F0 (fun c i hc => o c i (by have hc' : ¬ (99 ≤ c ∧ c ≤ 106) := hc; omega))
    refine lp_for _ m (fun j y => y.1 = bI (alB (hrW n f) j) ∧ y.2.1 = nI j ∧ (alB (hrW n f) j = true → ArS n s f j y.2.2) ∧ Fr pW3 z2 y.2.2) _ ?_ ?_ 0 _ (by omega) ⟨rfl, rfl, fun _ g hg => ?_, fr_rfl⟩
    · rintro j ⟨y1, y2, y3⟩ hj ⟨rfl, rfl, hA, F3⟩
      dsimp only at hA F3
      have o3 : ∀ c i, ¬ (100 ≤ c ∧ c ≤ 102) → y3.1 c i = z2.1 c i := F3
      have F4 : Fr pSe h y3 := fr_tr F2 (fr_mo F3 (fun c i hc => by
        have hc' : 100 ≤ c ∧ c ≤ 102 := hc
        show 99 ≤ c ∧ c ≤ 106
        omega))
      obtain ⟨X4, C4⟩ := cs_se F4 X C
      have L4 : CL y3 b m f := cl_se L (fun c i h1 h2 => se_o F4 c i (by omega))
      obtain ⟨g1, g2, g3⟩ := q_lget L4 hj
      unfold G_search_b96 G_search_j133
      dsimp only
      rw [if_pos L4.1, L4.2.1, if_neg (show ¬ nI m ≤ nI j from fun e => by rw [i_le, nI_toInt (by omega), nI_toInt (by omega)] at e; omega), g1, sb, g2, sb, g3, sb, show nI j + (1 : Int32) = nI (j + 1) from nI_add _ _]
      refine okb (q_tkW X4 hw C4 W hG ha (by rw [o3 _ _ (by omega), o _ _ (by omega), g7]) (CHf y3 F4) (D j hj)) ?_
      rintro ⟨r1, r2⟩ ⟨q1, q2, q3⟩
      dsimp only at q1 q2 q3
      subst q1
      have ea : alB (hrW n f) (j + 1) = (alB (hrW n f) j && hrW n f j) := rfl
      dsimp only
      rw [bI_it0, ea]
      cases c1 : hrW n f j
      · rw [if_neg (by decide), bnd_eq, Bool.and_false]
        exact ok_mk ⟨rfl, rfl, fun c => absurd c (by decide), fr_tr F3 q3⟩
      · rw [if_pos rfl, bnd_eq, Bool.and_true]
        exact ok_mk ⟨rfl, rfl, fun c => q2 c1 (hA c), fr_tr F3 q3⟩
    · rintro ⟨y1, y2, y3⟩ ⟨rfl, rfl, hA, F3⟩
      dsimp only at hA F3
      have o3 : ∀ c i, ¬ (100 ≤ c ∧ c ≤ 102) → y3.1 c i = z2.1 c i := F3
      have F4 : Fr pSe h y3 := fr_tr F2 (fr_mo F3 (fun c i hc => by
        have hc' : 100 ≤ c ∧ c ≤ 102 := hc
        show 99 ≤ c ∧ c ≤ 106
        omega))
      have L4 : CL y3 b m f := cl_se L (fun c i h1 h2 => se_o F4 c i (by omega))
      have e7 : y3.1 99 7 = nI a := by rw [o3 _ _ (by omega), o _ _ (by omega), g7]
      have e8 : y3.1 99 8 = nI 0 := by rw [o3 _ _ (by omega), o _ _ (by omega), g8]
      unfold G_search_b96 G_search_j139 G_search_j150
      dsimp only
      rw [if_pos L4.1, L4.2.1, if_pos (show nI m ≤ nI m by rw [i_le]; omega), bI_it0]
      refine okmr ?_
      cases c1 : alB (hrW n f) m
      · rw [if_neg (by decide), seS_no c1]
        exact ok_mk ⟨⟨e8, fun c => absurd c (Nat.lt_irrefl 0)⟩, ⟨a, ha, e7, CHf y3 F4⟩, F4⟩
      · rw [if_pos rfl]
        have hsp : SpS n s f m a y3 := ⟨ha, e7, CHf y3 F4, hA c1, fun t ht => by rw [o3 _ _ (by omega), hz t (by omega) ht]⟩
        have hs := q_seatFrom hw W hG c1 (a := a) (nG n) (Nat.le_refl _) 9 (by omega) y3 0 hsp (by rw [Nat.zero_add, Nat.one_mul]; exact Nat.le_refl _) (fun t ht => by
          rw [o3 _ _ (by omega), o _ _ (by omega), g4 t (by omega), Nat.sub_self]
          rfl) (fun i hi => absurd hi (by omega)) (fun i hi => absurd hi (by omega)) (by
          rw [Nat.zero_mul]
          exact ⟨e8, fun c => absurd c (Nat.lt_irrefl 0)⟩)
        rw [Nat.sub_self, Nat.zero_add, Nat.one_mul] at hs
        refine okb hs ?_
        rintro h2 ⟨r1, r2, r3, r4⟩
        have F5 := fr_tr F4 (sd_se r4)
        exact ok_mk ⟨r1, ⟨a, ha, by rw [sd_o r4 _ _ (by omega), e7], CHf h2 F5⟩, F5⟩
    · have := gA g hg
      dsimp only
      rw [o _ _ (by omega), o _ _ (by omega), o _ _ (by omega)]
      exact this
