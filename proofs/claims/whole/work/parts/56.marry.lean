/-! ===== L3: the search for weddings; weddings asked ===== -/
theorem q_mn {a b : Nat} (ha : a < 2 ^ 31) (hb : b < 2 ^ 31) : mn (nI a) (nI b) = nI (min a b) := by
  unfold mn
  by_cases c : b < a
  · rw [if_pos ((nI_ltI hb ha).mpr c), Nat.min_eq_right (by omega)]
  · rw [if_neg (fun e => c ((nI_ltI hb ha).mp e)), Nat.min_eq_left (by omega)]
theorem ln113 : ln 114 = 5 ∧ ln 115 = 5 ∧ ln 116 = 5 := by decide +kernel
theorem q_mleaf {n : Inn} {s : St} (hT : nT n ≤ 5) {rec : Hp → Int32 → Int32 → Int32 → Option Hp} {h : Hp} {x : Int32} {w m : Nat} (hm : m < w + 1) : Okk (V_marryFrom_j46 rec (nI w) h) (wPo n s h m w 0 x) := by
  have e : V_marryFrom_j46 rec (nI w) h = some (cpy (wr h 113 4 (nI w)) 115 0 116 0 5) := rfl
  have o : ∀ c i, ¬ (c = 116 ∧ 0 ≤ i ∧ i < 0 + 5) → (cpy (wr h 113 4 (nI w)) 115 0 116 0 5).1 c i = (wr h 113 4 (nI w)).1 c i := fun c i hc => if_neg hc
  rw [e]
  refine ok_mk ⟨?_, fun _ => ⟨fun i hi => ?_, fun j hj => absurd hj (by omega)⟩, fun hc => ?_, fun i hi => ?_, ?_⟩
  · rw [o _ _ (by omega), wr_at, wM_0, Nat.max_eq_right (by omega)]
    exact (eM_s w).symm
  · have e1 : (cpy (wr h 113 4 (nI w)) 115 0 116 0 5).1 116 i = (wr h 113 4 (nI w)).1 115 (0 + (i - 0)) := if_pos ⟨rfl, by omega, by omega⟩
    rw [e1, wr_c _ _ _ _ (by omega), show 0 + (i - 0) = i by omega]
  · rw [wM_0] at hc
    omega
  · rw [o _ _ (by omega), wr_c _ _ _ _ (by omega)]
  · intro c i hc
    have hc' : ¬ ((c = 113 ∧ i = 4) ∨ c = 115 ∨ c = 116) := hc
    rw [o _ _ (by omega), wr_i, if_neg (by omega)]
theorem q_mstep {n : Inn} {s : St} (hw : wI n) {a d f : Nat} {h : Hp} {x F : Int32} {w m : Nat} (hd : d ≤ nT n) (H : Wpre n s a h) (e4 : h.1 113 4 = eM m) (hm : m ≤ 6) (hwd : w + d ≤ nT n) (hF : FX n x F) (hl : 0 < d → Okk (V_marryFrom_l69 (V_marryFrom f) (nI (nT n - d)) F (nI w) (0 : Int32) h) (wPo n s h m w d x)) : Okk (V_marryFrom (f + 1) h (nI (nT n - d)) F (nI w)) (wPo n s h m w d x) := by
  have hT := hw.1
  have hG := hw.2.2.1
  obtain ⟨ha, h3, HC, h14⟩ := H
  have hk := HC.1
  have h5 := HC.2.1
  have e24 := q_bits (fx_lo hG hF)
  have hp10 := pc_le F
  have hpc := wM_pc s hG d x F hF
  have hwl := wM_le n s d x
  show Okk (V_marryFrom_b (V_marryFrom f) h (nI (nT n - d)) F (nI w)) _
  unfold V_marryFrom_b
  rw [h3, nI_clamp (by omega), if_pos hk, bnd_eq, h5, e24, sb, pk_sub (by omega), show nT n - (nT n - d) = d by omega, show nI (pc F) / (2 : Int32) = nI (pc F / 2) from pk_div (d := 2) (by omega) (by omega) (by omega), q_mn (by omega) (by omega), nI_add, e4]
  by_cases c1 : m < w + min d (pc F / 2) + 1
  · rw [if_pos ((eM_lt (by omega) (by omega)).mpr c1)]
    rcases Nat.eq_zero_or_pos d with h0 | h0
    · subst h0
      rw [if_pos (show nI 0 ≤ 0 from of_eq_true (by decide +kernel))]
      exact q_mleaf hT (by omega)
    · rw [if_neg (show ¬ nI d ≤ 0 from fun e => by rw [i_le, nI_toInt (by omega)] at e; have : (0 : Int32).toInt = 0 := rfl; omega), show K_isOf (nI (nT n - d)) (0 : Int32) (5 : Int32) = some (bI (iz (nI (nT n - d)) 0 5)) from q_isOf _ (a := 0) (n := 5) (by omega) (by omega), sb, iz_nI 0 5 (by omega), decide_eq_true (show 0 ≤ nT n - d ∧ nT n - d < 0 + 5 by omega), if_neg (show ¬ bI true = 0 by decide +kernel)]
      exact hl h0
  · rw [if_neg (fun e => c1 ((eM_lt (by omega) (by omega)).mp e))]
    refine ok_mk ⟨?_, fun hc => absurd hc (by omega), fun _ _ => rfl, fun _ _ => rfl, fr_rfl⟩
    rw [e4, Nat.max_eq_left (by omega)]
theorem q_marry {n : Inn} {s : St} (hw : wI n) {a : Nat} : ∀ d, d ≤ nT n → ∀ f, d < f → ∀ (h : Hp) (x F : Int32) (w m : Nat), Wpre n s a h → h.1 113 4 = eM m → m ≤ 6 → w + d ≤ nT n → FX n x F → Okk (V_marryFrom f h (nI (nT n - d)) F (nI w)) (wPo n s h m w d x) := by
  have hT := hw.1
  have hG := hw.2.2.1
  intro d
  induction d with
  | zero =>
    intro hd f hf h x F w m H e4 hm hwd hF
    obtain ⟨f', rfl⟩ : ∃ f', f = f' + 1 := ⟨f - 1, by omega⟩
    exact q_mstep hw hd H e4 hm hwd hF (fun h0 => absurd h0 (by omega))
  | succ d ih =>
    intro hd f hf h x F w m H e4 hm hwd hF
    obtain ⟨f', rfl⟩ : ∃ f', f = f' + 1 := ⟨f - 1, by omega⟩
    refine q_mstep hw hd H e4 hm hwd hF (fun _ => ?_)
    have ht5 : nT n - (d + 1) < 5 := by omega
    have hM : ∀ c, fM (pW n s d x) (fW n s w d x) m c ≤ 6 := fun c => fM_le hm c (fun i _ _ => by
      have := wM_le n s d (x ||| tk i)
      unfold fW
      omega)
    have eT : nI (nT n - (d + 1)) + (1 : Int32) = nI (nT n - d) := (nI_add _ _).trans (by rw [show nT n - (d + 1) + 1 = nT n - d by omega])
    unfold V_marryFrom_l69
    refine lp_for _ (nG n) (fun k q => q.1 = nI k ∧ wIV n s h m w d x (8 * k) q.2) _ ?_ ?_ 0 _ (by omega) ⟨rfl, e4, fun hc => absurd hc (Nat.lt_irrefl m), fun _ _ => rfl, fun _ _ => rfl, fr_rfl⟩
    · rintro k ⟨q1, q2⟩ hk ⟨rfl, V⟩
      dsimp only at V
      obtain ⟨ha, h3, HC, h14⟩ := wpre_fr hw H V.2.2.2.2
      unfold V_marryFrom_b69
      dsimp only
      rw [h3, nI_clamp (show a < 2 ^ 31 by omega), if_pos HC.1, HC.2.2.1, if_neg (show ¬ nI (nG n) ≤ nI k from fun e => by rw [i_le, nI_toInt (by omega), nI_toInt (by omega)] at e; omega), bnd_eq, show nI k + (1 : Int32) = nI (k + 1) from nI_add _ _]
      unfold V_marryFrom_l87
      refine lp_for _ (nG n) (fun u q => q.1 = nI u ∧ k < u ∧ wIV n s h m w d x (8 * k + u) q.2) _ ?_ ?_ (k + 1) _ (by omega) ⟨rfl, by omega, wIV_skip (k + 1) V (fun i h1 h2 => ?_)⟩
      · rintro u ⟨r1, r2⟩ hu ⟨rfl, hku, V2⟩
        dsimp only at V2 hku
        obtain ⟨ha, h3, HC, h14⟩ := wpre_fr hw H V2.2.2.2.2
        have eL := q_lovesOf HC hw hk
        have eI := q_isIn (nL n k) (show u < 31 by omega)
        have ek := okW_c (n := n) (s := s) (t := nT n - (d + 1)) hG hF hku hu
        have eY : (sh (1 : Int32) (nI k)) ||| (sh (1 : Int32) (nI u)) = tk (8 * k + u) := by
          unfold tk
          rw [show (8 * k + u) / 8 = k by omega, show (8 * k + u) % 8 = u by omega]
          rfl
        have e8 : (8 : Int32) * nI k + nI u = nI (8 * k + u) := by
          rw [show (8 : Int32) = nI 8 from rfl, pk_mul, nI_add]
        unfold V_marryFrom_b87 V_marryFrom_j173
        dsimp only
        rw [h3, nI_clamp (show a < 2 ^ 31 by omega), if_pos HC.1, HC.2.2.1, if_neg (show ¬ nI (nG n) ≤ nI u from fun e => by rw [i_le, nI_toInt (by omega), nI_toInt (by omega)] at e; omega), bnd_eq, eL, sb, eI, sb, eY, bI_it0, show nI u + (1 : Int32) = nI (u + 1) from nI_add _ _]
        cases b1 : bt (nL n k) u
        case false =>
          rw [if_neg (by decide)]
          refine ok_mk ⟨rfl, by omega, ?_⟩
          refine wIV_skip (c := 8 * k + u) 1 V2 (fun i i1 i2 => ?_)
          obtain rfl : i = 8 * k + u := by omega
          show okW n s (nT n - (d + 1)) (8 * k + u) x = false
          rw [ek, b1]; rfl
        rw [if_pos rfl, if_pos (by rw [ln113.1]; exact nI_in (by omega) (by omega))]
        simp only [nI_clamp (show nT n - (d + 1) < 2 ^ 31 by omega), h14 _ (show nT n - (d + 1) < nT n by omega)]
        by_cases b2 : tk (8 * k + u) &&& ((F &&& wc n s (nT n - (d + 1))) ^^^ (-1 : Int32)) = 0
        case neg =>
          rw [if_neg b2]
          refine ok_mk ⟨rfl, by omega, ?_⟩
          refine wIV_skip (c := 8 * k + u) 1 V2 (fun i i1 i2 => ?_)
          obtain rfl : i = 8 * k + u := by omega
          show okW n s (nT n - (d + 1)) (8 * k + u) x = false
          rw [ek, decide_eq_false (show ¬ tk (8 * k + u) &&& ((F &&& wc n s (nT n - (d + 1))) ^^^ jN 1) = nI 0 from b2), Bool.and_false]
        rw [if_pos b2, if_pos (by rw [ln113.2.1]; exact nI_in (by omega) (by omega)), bnd_eq, e8, eT, show nI w + (1 : Int32) = nI (w + 1) from nI_add _ _]
        have ok : pW n s d x (8 * k + u) = true := by
          show okW n s (nT n - (d + 1)) (8 * k + u) x = true
          rw [ek, b1, decide_eq_true (show tk (8 * k + u) &&& ((F &&& wc n s (nT n - (d + 1))) ^^^ jN 1) = nI 0 from b2)]; rfl
        have Fw : Fr pWd h (wr r2 115 (nT n - (d + 1)) (nI (8 * k + u))) := fr_tr V2.2.2.2.2 (fr_wr (Or.inr (Or.inl rfl)))
        refine okb (ih (by omega) f' (by omega) _ (x ||| tk (8 * k + u)) _ (w + 1) (fM (pW n s d x) (fW n s w d x) m (8 * k + u)) (wpre_fr hw H Fw) ?_ (hM _) (by omega) (fx_step hF)) ?_
        · rw [wr_c _ _ _ _ (by omega)]
          exact V2.1
        · intro h18 P
          refine ok_mk ⟨rfl, by omega, ?_⟩
          exact wIV_step (by omega) V2 ok P
      · rintro ⟨r1, r2⟩ ⟨rfl, hku, V2⟩
        dsimp only at V2
        obtain ⟨ha, h3, HC, h14⟩ := wpre_fr hw H V2.2.2.2.2
        unfold V_marryFrom_b87 V_marryFrom_j179
        dsimp only
        rw [h3, nI_clamp (show a < 2 ^ 31 by omega), if_pos HC.1, HC.2.2.1, if_pos (show nI (nG n) ≤ nI (nG n) by rw [i_le]; omega), bnd_eq, show nI k + (1 : Int32) = nI (k + 1) from nI_add _ _]
        refine okmr (ok_mk ⟨rfl, ?_⟩)
        have V3 := wIV_skip (8 - nG n) V2 (fun i i1 i2 => ?_)
        · rw [show 8 * k + nG n + (8 - nG n) = 8 * (k + 1) by omega] at V3
          exact V3
        · refine eq_false_of_ne_true (fun c => ?_)
          have := okW_ab c
          omega
      · refine eq_false_of_ne_true (fun c => ?_)
        have := okW_ab c
        omega
    · rintro ⟨q1, q2⟩ ⟨rfl, V⟩
      dsimp only at V
      have V3 : wIV n s h m w d x 64 q2 := by
        have V4 := wIV_skip (64 - 8 * nG n) V (fun i i1 i2 => ?_)
        · rw [show 8 * nG n + (64 - 8 * nG n) = 64 by omega] at V4
          exact V4
        · refine eq_false_of_ne_true (fun c => ?_)
          have := okW_ab c
          omega
      obtain ⟨ha, h3, HC, h14⟩ := wpre_fr hw H V.2.2.2.2
      unfold V_marryFrom_b69 V_marryFrom_j185
      dsimp only
      rw [h3, nI_clamp (show a < 2 ^ 31 by omega), if_pos HC.1, HC.2.2.1, if_pos (show nI (nG n) ≤ nI (nG n) by rw [i_le]; omega), if_pos (by rw [ln113.2.1]; exact nI_in (by omega) (by omega)), bnd_eq, nI_clamp (show nT n - (d + 1) < 2 ^ 31 by omega), eT]
      refine okmr ?_
      have Fw : Fr pWd h (wr q2 115 (nT n - (d + 1)) (-1 : Int32)) := fr_tr V.2.2.2.2 (fr_wr (Or.inr (Or.inl rfl)))
      refine okb (ih (by omega) f' (by omega) _ x F w (fM (pW n s d x) (fW n s w d x) m 64) (wpre_fr hw H Fw) ?_ (hM _) (by omega) hF) ?_
      · rw [wr_c _ _ _ _ (by omega)]
        exact V3.1
      · intro h18 P
        exact ok_mk (wIV_end (by omega) V3 P)
def pVs : Nat → Nat → Prop := fun c _ => 113 ≤ c ∧ c ≤ 116
theorem pWd_pVs {h h' : Hp} (F : Fr pWd h h') : Fr pVs h h' := fr_mo F (fun c i hc => by
  have hc' : (c = 113 ∧ i = 4) ∨ c = 115 ∨ c = 116 := hc
  show 113 ≤ c ∧ c ≤ 116
  omega)
theorem vs_o {h h' : Hp} (F : Fr pVs h h') : ∀ c i, ¬ (113 ≤ c ∧ c ≤ 116) → h'.1 c i = h.1 c i := F
theorem cs_vs {h h' : Hp} {n : Inn} {s : St} (hw : wI n) (F : Fr pVs h h') (X : CX h n) (C : CS h s) : CX h' n ∧ CS h' s := by
  have o := vs_o F
  refine ⟨cx_fr X (fun c i hc => o c i (by omega)), ?_⟩
  obtain ⟨c1, c2, c3, c4, c5, c6⟩ := C
  refine ⟨fun t ht => cb_fr (c1 t ht) (fun c i h1 h2 => o c i (by omega)), fun g hg => ?_, fun i hi => ?_, ?_, ?_, ?_⟩
  · rw [o _ _ (by omega), o _ _ (by omega), o _ _ (by omega)]
    exact c2 g hg
  · rw [o _ _ (by omega)]
    exact c3 i hi
  · rw [o _ _ (by omega), c4]
  · rw [o _ _ (by omega), c5]
  · rw [o _ _ (by omega), c6]
/-- one table: who is welcome there -/
theorem q_welc {h h0 : Hp} {n : Inn} {s : St} {a t : Nat} {Q : ((Int32 × Hp) ⊕ Hp) → Prop} (hw : wI n) (W : wS n s) (X0 : CX h0 n) (C0 : CS h0 s) (ha : a < 50) (H0 : CH h0 a n) (F0 : Fr pVs h0 h) (e3 : h.1 113 3 = nI a) (ht : t < nT n) (hz : h.1 114 t = nI 0) (hQ : ∀ h', Fr (fun c i => c = 114 ∧ i = t) h h' → h'.1 114 t = wc n s t → Q (Sum.inl (nI (t + 1), h'))) : Okk (V_search_l36 57 (nI t) (70 + 4 * t) (0 : Int32) h) Q := by
  have hT := hw.1
  have hG := hw.2.2.1
  have hGG : nI (nG n) ≤ nI (nG n) := by rw [i_le]; omega
  have hS := (hw.2.2.2.1 t ht).2.1
  have ej : ∀ h' : Hp, V_search_j100 57 (nI t) h' = some (Sum.inl (nI (t + 1), h')) := fun h' => by
    unfold V_search_j100
    rw [bnd_eq, show nI t + (1 : Int32) = nI (t + 1) from nI_add _ _]
  have hlk : kd (70 + 4 * t) = 0 := (el_st t (by omega)).2
  have pre : ∀ h', Fr (fun c i => c = 114 ∧ i = t) h h' → h'.1 113 3 = nI a ∧ CH h' a n ∧ CS h' s := fun h' F => by
    have F1 : Fr pVs h h' := fr_mo F (fun c i hc => by
      have hc' : c = 114 ∧ i = t := hc
      show 113 ≤ c ∧ c ≤ 116
      omega)
    have F2 := fr_tr F0 F1
    refine ⟨by rw [F _ _ (by show ¬ (113 = 114 ∧ 3 = t); omega), e3], chf hw H0 (fun c i h1 h2 => vs_o F2 c i (by omega)), (cs_vs hw F2 X0 C0).2⟩
  unfold V_search_l36
  by_cases cS : 2 ≤ nS n t
  case neg =>
    -- too few seats
    apply lp_in
    obtain ⟨p1, p2, p3⟩ := pre h fr_rfl
    unfold V_search_b36
    dsimp only
    rw [p1, nI_clamp (show a < 2 ^ 31 by omega), if_pos p2.1, p2.2.2.1, if_neg (show ¬ nI (nG n) ≤ (0 : Int32) from fun e => by rw [i_le, nI_toInt (by omega)] at e; have : (0 : Int32).toInt = 0 := rfl; have := hw.2.1; omega), if_neg (show ¬ 70 + 4 * t = 0 by omega), q_seatsOf p2 hw ht, sb, if_pos (show nI (nS n t) < (2 : Int32) by rw [i_lt, nI_toInt (by omega)]; have : (2 : Int32).toInt = 2 := rfl; omega), ej]
    refine okmr (ok_mk (hQ h fr_rfl ?_))
    rw [hz]
    unfold wc
    rw [if_neg cS]
  refine lp_for _ (nG n) (fun k q => q.1 = nI k ∧ q.2.1 114 t = oT (fun g => if nQ n g &&& bA (sB s t) = nI 0 then sh (nI 1) (nI g) else nI 0) k ∧ Fr (fun c i => c = 114 ∧ i = t) h q.2) _ ?_ ?_ 0 _ (by omega) ⟨rfl, hz, fr_rfl⟩
  · rintro k ⟨q1, q2⟩ hk ⟨rfl, hv, F⟩
    dsimp only at hv F
    obtain ⟨p1, p2, p3⟩ := pre q2 F
    have hb12 : bL (sB s t) ≤ 12 := by
      have w1 := (W.1 t (by omega)).1.1
      unfold kp at w1
      rw [if_pos ht] at w1
      have := (hw.2.2.2.1 t ht).2.2.2.1
      omega
    unfold V_search_b36 V_search_j94
    dsimp only
    rw [p1, nI_clamp (show a < 2 ^ 31 by omega), if_pos p2.1, p2.2.2.1, if_neg (show ¬ nI (nG n) ≤ nI k from fun e => by rw [i_le, nI_toInt (by omega), nI_toInt (by omega)] at e; omega), if_neg (show ¬ 70 + 4 * t = 0 by omega), q_seatsOf p2 hw ht, sb, if_neg (show ¬ nI (nS n t) < (2 : Int32) from fun e => by rw [i_lt, nI_toInt (by omega)] at e; have : (2 : Int32).toInt = 2 := rfl; omega), q_quarrelsOf p2 hw hk, sb, if_pos hlk, q_allGuests hlk (p3.1 t (by omega)) hb12, sb, bnd_eq, show nI k + (1 : Int32) = nI (k + 1) from nI_add _ _]
    by_cases c1 : nQ n k &&& bA (sB s t) = 0
    · rw [if_pos c1, if_pos (by rw [ln113.1]; exact nI_in (by omega) (by omega)), if_pos (by rw [ln113.1]; exact nI_in (by omega) (by omega)), bnd_eq, nI_clamp (show t < 2 ^ 31 by omega)]
      refine ok_mk ⟨rfl, ?_, fr_tr F (fr_wr ⟨rfl, rfl⟩)⟩
      dsimp only
      rw [wr_at, hv, oT_s, if_pos (show nQ n k &&& bA (sB s t) = nI 0 from c1)]
      rfl
    · rw [if_neg c1]
      refine ok_mk ⟨rfl, ?_, F⟩
      dsimp only
      rw [hv, oT_s, if_neg (show ¬ nQ n k &&& bA (sB s t) = nI 0 from c1), or_z]
  · rintro ⟨q1, q2⟩ ⟨rfl, hv, F⟩
    dsimp only at hv F
    obtain ⟨p1, p2, p3⟩ := pre q2 F
    unfold V_search_b36
    dsimp only
    rw [p1, nI_clamp (show a < 2 ^ 31 by omega), if_pos p2.1, p2.2.2.1, if_pos hGG, ej]
    refine okmr (ok_mk (hQ q2 F ?_))
    rw [hv]
    unfold wc
    rw [if_pos cS]
theorem q_vsearch {h : Hp} {n : Inn} {s : St} (X : CX h n) (hw : wI n) (C : CS h s) (W : wS n s) : Okk (V_search h 57) (fun h' => h'.1 113 4 = nI (wM n s (nT n) (nI 0)) ∧ (∀ j, j < nT n → h'.1 116 j = rW n s (nT n) (nI 0) j) ∧ Fr pVs h h') := by
  have hT := hw.1
  have hG := hw.2.2.1
  obtain ⟨a, ha, h6, H, hk, h5, hg⟩ := cx_g X
  unfold V_search
  rw [if_pos rfl, h6, nI_clamp (show a < 2 ^ 31 by omega), if_pos hk, bnd_eq, bnd_eq]
  have F0 : Fr pVs h (wr (wr h 113 3 (Int32.ofNat a)) 113 4 (-1 : Int32)) := fr_tr (fr_wr (show 113 ≤ 113 ∧ 113 ≤ 116 by omega)) (fr_wr (show 113 ≤ 113 ∧ 113 ≤ 116 by omega))
  unfold V_search_l15
  refine lp_for _ 5 (fun t q => q.1 = nI t ∧ (∀ i, i < t → i < nT n → q.2.1 114 i = wc n s i) ∧ q.2.1 113 3 = nI a ∧ q.2.1 113 4 = jN 1 ∧ Fr pVs h q.2) _ ?_ ?_ 0 _ (by omega) ⟨rfl, fun i hi => absurd hi (by omega), ?_, ?_, F0⟩
  · rintro t ⟨q1, q2⟩ ht ⟨rfl, hc, e3, e4, F⟩
    dsimp only at hc e3 e4 F
    obtain ⟨X2, C2⟩ := cs_vs hw F X C
    have F3 : Fr pVs h (wr q2 114 t (0 : Int32)) := fr_tr F (fr_wr (show 113 ≤ 114 ∧ 114 ≤ 116 by omega))
    have e3' : (wr q2 114 t (0 : Int32)).1 113 3 = nI a := by rw [wr_c _ _ _ _ (by omega), e3]
    have e4' : (wr q2 114 t (0 : Int32)).1 113 4 = jN 1 := by rw [wr_c _ _ _ _ (by omega), e4]
    unfold V_search_b15
    dsimp only
    rw [if_neg (show ¬ (5 : Int32) ≤ nI t from fun e => by rw [i_le, nI_toInt (by omega)] at e; have : (5 : Int32).toInt = 5 := rfl; omega), if_pos rfl, q_benchAt X2 hw (nI t), iz_nI 0 _ (by omega), sb, if_pos (by rw [ln113.1]; exact nI_in (by omega) (by omega)), bnd_eq, nI_clamp (show t < 2 ^ 31 by omega)]
    by_cases c1 : t < nT n
    · rw [if_pos (decide_eq_true (show 0 ≤ t ∧ t < 0 + nT n by omega))]
      refine q_welc hw W X C ha H F3 e3' c1 (wr_at _ _ _ _) (fun h' F4 ew => ⟨rfl, fun i hi hin => ?_, ?_, ?_, fr_tr F3 (fr_mo F4 (fun c i hc => ?_))⟩)
      · rcases Nat.lt_or_ge i t with h1 | h1
        · rw [F4 _ _ (by show ¬ (114 = 114 ∧ i = t); omega), wr_p _ _ _ _ (by omega), hc i h1 hin]
        · obtain rfl : i = t := by omega
          exact ew
      · rw [F4 _ _ (by show ¬ (113 = 114 ∧ 3 = t); omega), e3']
      · rw [F4 _ _ (by show ¬ (113 = 114 ∧ 4 = t); omega), e4']
      · have hc' : c = 114 ∧ i = t := hc
        show 113 ≤ c ∧ c ≤ 116
        omega
    · rw [if_neg (by rw [decide_eq_true_eq]; omega)]
      unfold V_search_l36
      apply lp_in
      have H2 : CH (wr q2 114 t (0 : Int32)) a n := chf hw H (fun c i h1 h2 => vs_o F3 c i (by omega))
      unfold V_search_b36 V_search_j100
      dsimp only
      rw [e3', nI_clamp (show a < 2 ^ 31 by omega), if_pos H2.1, H2.2.2.1, if_neg (show ¬ nI (nG n) ≤ (0 : Int32) from fun e => by rw [i_le, nI_toInt (by omega)] at e; have : (0 : Int32).toInt = 0 := rfl; have := hw.2.1; omega), if_pos rfl, bnd_eq, show nI t + (1 : Int32) = nI (t + 1) from nI_add _ _]
      refine okmr (ok_mk ⟨rfl, fun i hi hin => ?_, e3', e4', F3⟩)
      dsimp only
      rw [wr_p _ _ _ _ (by omega), hc i (by omega) hin]
  · rintro ⟨q1, q2⟩ ⟨rfl, hc, e3, e4, F⟩
    dsimp only at hc e3 e4 F
    have H2 : CH q2 a n := chf hw H (fun c i h1 h2 => vs_o F c i (by omega))
    unfold V_search_b15 V_search_j106
    dsimp only
    rw [if_pos (show (5 : Int32) ≤ nI 5 from of_eq_true (by decide +kernel)), e3, nI_clamp (show a < 2 ^ 31 by omega), if_pos H2.1, H2.2.2.1]
    have eF : FX n (nI 0) (sh (1 : Int32) (nI (nG n)) - (1 : Int32)) := by
      have k8 : ∀ g, g < 9 → ∀ i, i < 32 → bt (sh (1 : Int32) (nI g) - (1 : Int32)) i = (decide (i < g) && !bt (nI 0) i) := by decide +kernel
      exact k8 _ (by omega)
    have hm := q_marry hw (a := a) (s := s) (nT n) (Nat.le_refl _) 9 (by omega) q2 (nI 0) _ 0 0 ⟨ha, e3, H2, fun t ht => hc t (by omega) ht⟩ (by rw [e4, eM_0]) (by omega) (by omega) eF
    rw [Nat.sub_self] at hm
    refine okmr (okb hm ?_)
    rintro h2 ⟨b1, b2, b3, b4, b5⟩
    obtain ⟨c1, c2⟩ := b2 (by omega)
    refine ok_mk ⟨?_, fun j hj => ?_, fr_tr F (pWd_pVs b5)⟩
    · rw [b1, show max 0 (0 + wM n s (nT n) (nI 0) + 1) = wM n s (nT n) (nI 0) + 1 by omega, eM_s]
    · rw [← c2 j hj, Nat.sub_self, Nat.zero_add]
  · show (wr (wr h 113 3 (Int32.ofNat a)) 113 4 (-1 : Int32)).1 113 3 = nI a
    rw [wr_p _ _ _ _ (by omega), wr_at]
    rfl
  · exact wr_at _ _ _ _
