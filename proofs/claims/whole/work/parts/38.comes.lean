/-! ===== L3: comes, whisper, forgets ===== -/
def zS (y : Bn) (N : Int32) (k : Nat) : Nat → Bn
  | 0 => y
  | j + 1 => bQt (zS y N k j) N k
def zT (n : Inn) (s : St) (t : Nat) : Nat → Bn := zS (bEn (sB s t) (sN s) (kp n t)) (sN s) (kp n t)
def gB (k : Nat) (x : Bn) : Prop := bL x ≤ k ∧ (bU x < bL x ∨ bU x = 0)
theorem gB_qt {k : Nat} {x : Bn} (N : Int32) (g : gB k x) : gB k (bQt x N k) := by
  obtain ⟨g1, g2⟩ := g
  refine ⟨?_, ?_⟩
  · show bL x + 1 - (bL x + 1 - k) ≤ k
    omega
  · show (if bU x + 1 < bL x then bU x + 1 else 0) - (bL x + 1 - k) < bL x + 1 - (bL x + 1 - k) ∨ (if bU x + 1 < bL x then bU x + 1 else 0) - (bL x + 1 - k) = 0
    by_cases h : bU x + 1 < bL x
    · rw [if_pos h]
      omega
    · rw [if_neg h]
      omega
theorem gB_zS {k : Nat} {y : Bn} (N : Int32) (g : gB k y) : ∀ j, gB k (zS y N k j)
  | 0 => g
  | j + 1 => gB_qt N (gB_zS N g j)
theorem gB_zT {n : Inn} {s : St} (W : wS n s) {t : Nat} (ht : t < 5) (j : Nat) : gB (kp n t) (zT n s t j) := gB_zS _ ⟨(wB_en (sN s) (W.1 t ht).1).1, (wB_en (sN s) (W.1 t ht).1).2.1⟩ j
/-- the last m are quiet -/
def qT (m : Nat) (x : Bn) : Prop := ∀ i, i < bL x → bL x ≤ i + m → (bR x i).1 = nI 0 ∧ (bR x i).2.1 = nI 0
theorem qT_qt {k m : Nat} {x : Bn} (N : Int32) (q : qT m x) : qT (m + 1) (bQt x N k) := by
  intro i hi hm
  have hi' : i < bL x + 1 - (bL x + 1 - k) := hi
  have hm' : bL x + 1 - (bL x + 1 - k) ≤ i + (m + 1) := hm
  show (up (bR x) (bL x) (nI 0, nI 0, N) (i + (bL x + 1 - k))).1 = nI 0 ∧ (up (bR x) (bL x) (nI 0, nI 0, N) (i + (bL x + 1 - k))).2.1 = nI 0
  by_cases e : i + (bL x + 1 - k) = bL x
  · rw [e, up_at]
    exact ⟨rfl, rfl⟩
  · rw [up_ne _ _ e]
    exact q _ (by omega) (by omega)
theorem qT_zS (y : Bn) (N : Int32) (k : Nat) : ∀ j, qT j (zS y N k j)
  | 0 => fun i hi hm => absurd hm (by omega)
  | j + 1 => qT_qt N (qT_zS y N k j)
theorem qT_zT (n : Inn) (s : St) (t j : Nat) : qT j (zT n s t j) := qT_zS _ _ _ j
def hT (n : Inn) (s : St) (t w : Nat) (j : Nat) : Bool := bt (bV (zT n s t j)) w
def cm3 (h : Nat → Bool) : Nat → Nat × Nat × Nat
  | 0 => (0, 0, 0)
  | j + 1 => if h j = true then ((if (cm3 h j).1 = 0 then j + 1 else (cm3 h j).1), j + 1, (cm3 h j).2.2 + 1) else cm3 h j
def vF (b : Nat) : Int32 := if b = 0 then jN 1 else nI b
theorem cm3_le (h : Nat → Bool) : ∀ j, (cm3 h j).1 ≤ j ∧ (cm3 h j).2.1 ≤ j ∧ (cm3 h j).2.2 ≤ j
  | 0 => ⟨Nat.le_refl _, Nat.le_refl _, Nat.le_refl _⟩
  | j + 1 => by
    have ih := cm3_le h j
    show (if h j = true then ((if (cm3 h j).1 = 0 then j + 1 else (cm3 h j).1), j + 1, (cm3 h j).2.2 + 1) else cm3 h j).1 ≤ j + 1 ∧ (if h j = true then ((if (cm3 h j).1 = 0 then j + 1 else (cm3 h j).1), j + 1, (cm3 h j).2.2 + 1) else cm3 h j).2.1 ≤ j + 1 ∧ (if h j = true then ((if (cm3 h j).1 = 0 then j + 1 else (cm3 h j).1), j + 1, (cm3 h j).2.2 + 1) else cm3 h j).2.2 ≤ j + 1
    by_cases c : h j = true
    · rw [if_pos c]
      refine ⟨?_, Nat.le_refl _, by show (cm3 h j).2.2 + 1 ≤ j + 1; omega⟩
      show (if (cm3 h j).1 = 0 then j + 1 else (cm3 h j).1) ≤ j + 1
      split <;> omega
    · rw [if_neg c]
      omega
theorem cm3_s (h : Nat → Bool) (j : Nat) : cm3 h (j + 1) = if h j = true then ((if (cm3 h j).1 = 0 then j + 1 else (cm3 h j).1), j + 1, (cm3 h j).2.2 + 1) else cm3 h j := rfl
theorem cm3_cut (h : Nat → Bool) {j : Nat} : ∀ d, (∀ i, j ≤ i → h i = false) → cm3 h (j + d) = cm3 h j
  | 0, _ => rfl
  | d + 1, hh => by
    rw [show j + (d + 1) = (j + d) + 1 by omega, cm3_s, if_neg (by rw [hh _ (by omega)]; decide)]
    exact cm3_cut h d hh
def pN : Nat → Nat → Prop := fun c i => (c = 90 ∧ 5 ≤ i ∧ i ≤ 7) ∨ (91 ≤ c ∧ c < 95)
theorem pN_cx {h h' : Hp} {n : Inn} (X : CX h n) (F : Fr pN h h') : CX h' n := cx_fr X (fun c i hc => F c i (by show ¬ ((c = 90 ∧ 5 ≤ i ∧ i ≤ 7) ∨ (91 ≤ c ∧ c < 95)); omega))
theorem pN_cs {h h' : Hp} {s : St} (C : CS h s) (F : Fr pN h h') : CS h' s := by
  have o : ∀ c i, c < 90 → h'.1 c i = h.1 c i := fun c i hc => F c i (by show ¬ ((c = 90 ∧ 5 ≤ i ∧ i ≤ 7) ∨ (91 ≤ c ∧ c < 95)); omega)
  obtain ⟨b1, b2, b3, b4, b5, b6⟩ := C
  refine ⟨fun t ht => cb_fr (b1 t ht) (fun c i z1 z2 => o c i (by omega)), ?_, ?_, ?_, ?_, ?_⟩
  · intro g hg
    rw [o 59 g (by omega), o 60 g (by omega), o 61 g (by omega)]
    exact b2 g hg
  · intro i hi
    rw [o 62 i (by omega)]
    exact b3 i hi
  · rw [o 57 7 (by omega), b4]
  · rw [o 57 8 (by omega), b5]
  · rw [o 57 9 (by omega), b6]
theorem tl_pN {h h' : Hp} (F : Fr pN h h') : Tl h h' := tl_fr F (fun c i hc => by
  have hc' : (c = 90 ∧ 5 ≤ i ∧ i ≤ 7) ∨ (91 ≤ c ∧ c < 95) := hc
  omega)
theorem k91 : kd 91 = 0 := by decide +kernel
theorem pb91 {h h' : Hp} (F : Fr (pb 91) h h') : Fr pN h h' := fr_mo F (fun c i hc => by
  have hc' : 91 ≤ c ∧ c < 91 + 4 := hc
  exact Or.inr (by omega))
theorem q_try {h : Hp} {n : Inn} {s : St} (X : CX h n) (hw : wI n) (C : CS h s) (W : wS n s) {t : Nat} (ht : t < nT n) : Okk (N_tryFrom h 57 (nI t)) (fun h' => CB h' 91 (zT n s t 0) ∧ Fr (pb 91) h h') := by
  have hT := hw.1
  obtain ⟨e1, e2⟩ := el_st t (by omega)
  have Ct := C.1 t (by omega)
  have Wt := (W.1 t (by omega)).1
  have hk6 := kp_le hw t
  obtain ⟨hl, hu⟩ := wB_u Wt (by omega)
  have hL := Wt.1
  unfold N_tryFrom N_tryFrom_j47
  rw [if_pos (show (57 : Nat) = 57 from rfl), q_bat X hw ht, sb, if_neg (by omega)]
  refine okb (q_bCopy k91 e2 (by omega) Ct hl) ?_
  rintro h5 ⟨⟨r, hr, C5⟩, F5⟩
  have C5' : CB h5 91 (sB s t) := cb_row C5 hr
  obtain ⟨a, ha, h6, H, hk, h5', hgg⟩ := cx_g (pN_cx X (pb91 F5))
  have e7 : h5.1 57 7 = sN s := by rw [pb_fr F5 7 (by omega), C.2.2.2.1]
  rw [h6, nI_clamp (by omega), if_pos hk, q_keepsOf H hw (by omega), sb, e7]
  refine okb (q_bEn k91 C5' (by omega) hu (sN s) (by omega)) ?_
  rintro h8 ⟨C8, F8⟩
  exact ok_mk ⟨C8, fr_tr F5 F8⟩
theorem q_quietly {h : Hp} {n : Inn} {s : St} (X : CX h n) (hw : wI n) (C : CS h s) (W : wS n s) {t j : Nat} (ht : t < 5) (B : CB h 91 (zT n s t j)) : Okk (B_sitQuietly h 91 (h.1 57 7) (nI (kp n t))) (fun h' => CB h' 91 (zT n s t (j + 1)) ∧ Fr (pb 91) h h') := by
  have hk6 := kp_le hw t
  obtain ⟨g1, g2⟩ := gB_zT W ht j
  rw [C.2.2.2.1]
  exact q_bQt k91 B (by omega) (by omega) (sN s) (by omega)
theorem q_await {h : Hp} {n : Inn} {s : St} (X : CX h n) (hw : wI n) (C : CS h s) (W : wS n s) {t w : Nat} (ht : t < nT n) (hw10 : w < 10) : Okk (N_awaitWord h 57 (nI t) (nI w)) (fun h' => h'.1 90 5 = vF (cm3 (hT n s t w) 6).1 ∧ h'.1 90 6 = vF (cm3 (hT n s t w) 6).2.1 ∧ h'.1 90 7 = nI (cm3 (hT n s t w) 6).2.2 ∧ Fr pN h h') := by
  have hT5 := hw.1
  have hk6 := kp_le hw t
  unfold N_awaitWord
  simp (disch := omega) only [KK, K1, K2, NN, bnd_eq, sb, smr, bI_ite, if_pos, if_neg, if_true, if_false, or_true, true_or, true_and, and_true, g01]
  have F0 : Fr pN h (wr (wr (wr h 90 5 (jN 1)) 90 6 (jN 1)) 90 7 (nI 0)) := by
    refine fr_tr (fr_tr (fr_wr (Or.inl ⟨rfl, ?_, ?_⟩)) (fr_wr (Or.inl ⟨rfl, ?_, ?_⟩))) (fr_wr (Or.inl ⟨rfl, ?_, ?_⟩)) <;> omega
  refine okb (q_try (pN_cx X F0) hw (pN_cs C F0) W ht) ?_
  rintro h17 ⟨B17, F17⟩
  have o17 : ∀ i, h17.1 90 i = (wr (wr (wr h 90 5 (jN 1)) 90 6 (jN 1)) 90 7 (nI 0)).1 90 i := fun i => pb_fr F17 i (by omega)
  unfold N_awaitWord_l24
  refine lp_for _ 7 (fun k q => ∃ j, k = j + 1 ∧ q.1 = nI k ∧ CB q.2 91 (zT n s t j) ∧ Fr pN h q.2 ∧ q.2.1 90 5 = vF (cm3 (hT n s t w) j).1 ∧ q.2.1 90 6 = vF (cm3 (hT n s t w) j).2.1 ∧ q.2.1 90 7 = nI (cm3 (hT n s t w) j).2.2) _ ?_ ?_ 1 _ (by omega) ?_
  · rintro k ⟨q1, q2⟩ hk ⟨j, rfl, rfl, hB, hF, f5, f6, f7⟩
    dsimp only at hB hF f5 f6 f7 ⊢
    obtain ⟨g1, g2⟩ := gB_zT W (show t < 5 by omega) j
    have Xq := pN_cx X hF
    have Cq := pN_cs C hF
    obtain ⟨a, ha, h6, H, hk1, h5', hgg⟩ := cx_g Xq
    have ew := (q_bturn k91 hB (by omega) g2).2
    have hle := cm3_le (hT n s t w) j
    have rest : ∀ q3 : Hp, Fr pN h q3 → CB q3 91 (zT n s t j) → q3.1 90 5 = vF (cm3 (hT n s t w) (j + 1)).1 → q3.1 90 6 = vF (cm3 (hT n s t w) (j + 1)).2.1 → q3.1 90 7 = nI (cm3 (hT n s t w) (j + 1)).2.2 → Okk (N_awaitWord_j89 57 (nI t) (nI w) (nI (j + 1)) q3) (Sum.elim (fun q => ∃ j', j + 1 + 1 = j' + 1 ∧ q.1 = nI (j + 1 + 1) ∧ CB q.2 91 (zT n s t j') ∧ Fr pN h q.2 ∧ q.2.1 90 5 = vF (cm3 (hT n s t w) j').1 ∧ q.2.1 90 6 = vF (cm3 (hT n s t w) j').2.1 ∧ q.2.1 90 7 = nI (cm3 (hT n s t w) j').2.2) (fun h' => h'.1 90 5 = vF (cm3 (hT n s t w) 6).1 ∧ h'.1 90 6 = vF (cm3 (hT n s t w) 6).2.1 ∧ h'.1 90 7 = nI (cm3 (hT n s t w) 6).2.2 ∧ Fr pN h h')) := by
      intro q3 G3 B3 z5 z6 z7
      obtain ⟨a3, ha3, h63, H3, hk3, -, -⟩ := cx_g (pN_cx X G3)
      unfold N_awaitWord_j89
      rw [if_pos (show (57 : Nat) = 57 from rfl), h63, nI_clamp (by omega), if_pos hk3, q_keepsOf H3 hw (by omega), sb]
      refine okb (q_quietly (pN_cx X G3) hw (pN_cs C G3) W (show t < 5 by omega) B3) ?_
      rintro h4 ⟨B4, F4⟩
      refine ok_mk ⟨j + 1, rfl, ?_, B4, fr_tr G3 (pb91 F4), ?_, ?_, ?_⟩
      · show nI (j + 1) + 1 = _
        exact nI_1 (j + 1)
      · show h4.1 90 5 = _
        rw [pb_fr F4 5 (by omega), z5]
      · show h4.1 90 6 = _
        rw [pb_fr F4 6 (by omega), z6]
      · show h4.1 90 7 = _
        rw [pb_fr F4 7 (by omega), z7]
    have hb2 : bt (bV (zT n s t j)) w = hT n s t w j := rfl
    unfold N_awaitWord_b24
    simp (disch := omega) only [KK, K1, K2, NN, bnd_eq, sb, smr, bI_ite, if_pos, if_neg, if_true, if_false, or_true, true_or, true_and, and_true, g01, ew, q_isIn (bV (zT n s t j)) (show w < 31 by omega)]
    rw [hb2]
    by_cases c : hT n s t w j = true
    · rw [if_pos c]
      have fin : ∀ v, v = vF (if (cm3 (hT n s t w) j).1 = 0 then j + 1 else (cm3 (hT n s t w) j).1) → Okk (N_awaitWord_j70 57 (nI t) (nI w) (nI (j + 1)) v q2) (Sum.elim (fun q => ∃ j', j + 1 + 1 = j' + 1 ∧ q.1 = nI (j + 1 + 1) ∧ CB q.2 91 (zT n s t j') ∧ Fr pN h q.2 ∧ q.2.1 90 5 = vF (cm3 (hT n s t w) j').1 ∧ q.2.1 90 6 = vF (cm3 (hT n s t w) j').2.1 ∧ q.2.1 90 7 = nI (cm3 (hT n s t w) j').2.2) (fun h' => h'.1 90 5 = vF (cm3 (hT n s t w) 6).1 ∧ h'.1 90 6 = vF (cm3 (hT n s t w) 6).2.1 ∧ h'.1 90 7 = nI (cm3 (hT n s t w) 6).2.2 ∧ Fr pN h h')) := by
        intro v hv
        unfold N_awaitWord_j70
        simp (disch := omega) only [KK, K1, K2, NN, bnd_eq, sb, smr, bI_ite, if_pos, if_neg, if_true, if_false, or_true, true_or, true_and, and_true, g01, wr_at, wr_c, wr_p, f7]
        have G : Fr pN h (wr (wr (wr q2 90 5 v) 90 6 (nI (j + 1))) 90 7 (nI ((cm3 (hT n s t w) j).2.2 + 1))) := by
          refine fr_tr (fr_tr (fr_tr hF (fr_wr (Or.inl ⟨rfl, ?_, ?_⟩))) (fr_wr (Or.inl ⟨rfl, ?_, ?_⟩))) (fr_wr (Or.inl ⟨rfl, ?_, ?_⟩)) <;> omega
        refine rest _ G (cb_fr hB (fun c i z1 z2 => ?_)) ?_ ?_ ?_
        · rw [wr_c _ _ _ _ (by omega), wr_c _ _ _ _ (by omega), wr_c _ _ _ _ (by omega)]
        · rw [cm3_s, if_pos c]
          simp (disch := omega) only [KK, K1, K2, NN, bnd_eq, sb, smr, bI_ite, if_pos, if_neg, if_true, if_false, or_true, true_or, true_and, and_true, g01, wr_at, wr_c, wr_p, hv]
        · rw [cm3_s, if_pos c]
          simp (disch := omega) only [KK, K1, K2, NN, bnd_eq, sb, smr, bI_ite, if_pos, if_neg, if_true, if_false, or_true, true_or, true_and, and_true, g01, wr_at, wr_c, wr_p, ]
          exact (if_neg (by omega)).symm
        · rw [cm3_s, if_pos c]
          simp (disch := omega) only [KK, K1, K2, NN, bnd_eq, sb, smr, bI_ite, if_pos, if_neg, if_true, if_false, or_true, true_or, true_and, and_true, g01, wr_at, wr_c, wr_p, ]
      rw [f5]
      by_cases c0 : (cm3 (hT n s t w) j).1 = 0
      · rw [if_pos (show vF (cm3 (hT n s t w) j).1 = jN 1 by rw [c0]; rfl)]
        exact fin _ (by rw [if_pos c0]; exact (if_neg (by omega)).symm)
      · rw [if_neg (show ¬ vF (cm3 (hT n s t w) j).1 = jN 1 by
          rw [show vF (cm3 (hT n s t w) j).1 = nI (cm3 (hT n s t w) j).1 from if_neg c0]
          intro e
          have := (NJ (cm3 (hT n s t w) j).1 1 (by omega) (by omega)).2.2.2.2.1 (by omega)
          rw [this] at e
          exact e)]
        exact fin _ (by rw [if_neg c0])
    · rw [if_neg c]
      refine rest q2 hF hB ?_ ?_ ?_
      · rw [cm3_s, if_neg c, f5]
      · rw [cm3_s, if_neg c, f6]
      · rw [cm3_s, if_neg c, f7]
  · rintro ⟨q1, q2⟩ ⟨j, hj, rfl, hB, hF, f5, f6, f7⟩
    dsimp only at hB hF f5 f6 f7 ⊢
    have : j = 6 := by omega
    subst this
    unfold N_awaitWord_b24 N_awaitWord_j114
    simp (disch := omega) only [KK, K1, K2, NN, bnd_eq, sb, smr, bI_ite, if_pos, if_neg, if_true, if_false, or_true, true_or, true_and, and_true, g01]
    exact ⟨_, rfl, f5, f6, f7, hF⟩
  · refine ⟨0, rfl, rfl, B17, fr_tr F0 (pb91 F17), ?_, ?_, ?_⟩
    · dsimp only
      rw [o17]
      simp (disch := omega) only [KK, K1, K2, NN, bnd_eq, sb, smr, bI_ite, if_pos, if_neg, if_true, if_false, or_true, true_or, true_and, and_true, g01, wr_at, wr_c, wr_p, ]; rfl
    · dsimp only
      rw [o17]
      simp (disch := omega) only [KK, K1, K2, NN, bnd_eq, sb, smr, bI_ite, if_pos, if_neg, if_true, if_false, or_true, true_or, true_and, and_true, g01, wr_at, wr_c, wr_p, ]; rfl
    · dsimp only
      rw [o17]
      simp (disch := omega) only [KK, K1, K2, NN, bnd_eq, sb, smr, bI_ite, if_pos, if_neg, if_true, if_false, or_true, true_or, true_and, and_true, g01, wr_at, wr_c, wr_p, ]; rfl
/-! the model's way: a row of bits -/
def rw' (w : Nat) (x : Bn) (r : Int32) : Prop := ∀ i, bt r i = (decide (i < bL x) && bt (bR x i).2.1 w)
theorem rw_ap {w : Nat} {x : Bn} {r : Int32} {p : Pst} {b : Bool} (hr : rw' w x r) (hl : bL x < 31) (hp : bt p.2.1 w = b) : rw' w (bAp x p) (r ||| (if b = true then sh (nI 1) (nI (bL x)) else nI 0)) := by
  intro i
  show _ = (decide (i < bL x + 1) && bt (up (bR x) (bL x) p i).2.1 w)
  rw [b_or, hr i]
  by_cases e : i = bL x
  · subst e
    rw [up_at, hp, decide_eq_false (Nat.lt_irrefl _), decide_eq_true (show bL x < bL x + 1 by omega), Bool.false_and, Bool.false_or, Bool.true_and]
    cases b
    · rw [if_neg (by decide)]
      exact b_0 _
    · rw [if_pos rfl, b_sh (by omega) _ (by omega), decide_eq_true rfl]
  · rw [up_ne _ _ e]
    have z : bt (if b = true then sh (nI 1) (nI (bL x)) else nI 0) i = false := by
      cases b
      · rw [if_neg (by decide)]
        exact b_0 _
      · rw [if_pos rfl]
        rcases Nat.lt_or_ge i 32 with h | h
        · rw [b_sh (by omega) i h, decide_eq_false e]
        · exact b_big h
    rw [z, Bool.or_false]
    congr 1
    congr 1
    apply propext
    omega
theorem rw_k0 {w k : Nat} {x : Bn} {r : Int32} (hr : rw' w x r) (h : bL x ≤ k) : rw' w (bKp x k) r := by
  intro i
  show _ = (decide (i < bL x - (bL x - k)) && bt (bR x (i + (bL x - k))).2.1 w)
  rw [show bL x - k = 0 by omega]
  exact hr i
theorem rw_k1 {w k : Nat} {x : Bn} {r : Int32} (hr : rw' w x r) (h : bL x = k + 1) (hk : k < 30) : rw' w (bKp x k) (sr r (nI 1)) := by
  intro i
  show _ = (decide (i < bL x - (bL x - k)) && bt (bR x (i + (bL x - k))).2.1 w)
  rw [h, show k + 1 - k = 1 by omega, show k + 1 - 1 = k by omega]
  rcases Nat.lt_or_ge i 32 with h1 | h1
  · rw [b_sr r (show 1 < 32 by omega) h1]
    by_cases h2 : 1 + i < 32
    · rw [if_pos h2, hr, h, show 1 + i = i + 1 by omega]
      congr 1
      congr 1
      apply propext
      omega
    · rw [if_neg h2, hr, h, decide_eq_false (show ¬ 31 < k + 1 by omega), decide_eq_false (show ¬ i < k by omega)]
      rfl
  · rw [b_big h1, decide_eq_false (show ¬ i < k by omega), Bool.false_and]
theorem rw_z {w : Nat} {x : Bn} {r : Int32} (hr : rw' w x r) (h : ∀ i, i < bL x → bt (bR x i).2.1 w = false) : r = nI 0 := by
  apply b_ext
  intro i _
  rw [hr i, show bt (nI 0) i = false from b_0 i]
  by_cases c : i < bL x
  · rw [h i c, Bool.and_false]
  · rw [decide_eq_false c, Bool.false_and]
theorem z_rw {w : Nat} {x : Bn} (hr : rw' w x (nI 0)) : ∀ i, i < bL x → bt (bR x i).2.1 w = false := by
  intro i hi
  have := hr i
  rw [decide_eq_true hi, Bool.true_and, show bt (nI 0) i = false from b_0 i] at this
  exact this.symm
theorem z_qt {w k : Nat} {x : Bn} (N : Int32) (h : ∀ i, i < bL x → bt (bR x i).2.1 w = false) : ∀ i, i < bL (bQt x N k) → bt (bR (bQt x N k) i).2.1 w = false := by
  intro i hi
  have hi' : i < bL x + 1 - (bL x + 1 - k) := hi
  show bt (up (bR x) (bL x) (nI 0, nI 0, N) (i + (bL x + 1 - k))).2.1 w = false
  by_cases e : i + (bL x + 1 - k) = bL x
  · rw [e, up_at]
    exact b_0 w
  · rw [up_ne _ _ e]
    exact h _ (by omega)
theorem z_hT {n : Inn} {s : St} {t w j : Nat} (h : ∀ i, i < bL (zT n s t j) → bt (bR (zT n s t j) i).2.1 w = false) : ∀ d, hT n s t w (j + d) = false := by
  have key : ∀ d, ∀ i, i < bL (zT n s t (j + d)) → bt (bR (zT n s t (j + d)) i).2.1 w = false := by
    intro d
    induction d with
    | zero => exact h
    | succ d ih => exact z_qt _ ih
  intro d
  show bt (bV (zT n s t (j + d))) w = false
  unfold bV
  by_cases c : bU (zT n s t (j + d)) < bL (zT n s t (j + d))
  · rw [if_pos c]
    exact key d _ c
  · rw [if_neg c]
    exact b_0 w
theorem q_fcM {h : Hp} {n : Inn} {s : St} (X : MX h n) (hw : wI n) (W : wS n s) {t w : Nat} (ht : t < nT n) (hw10 : w < 10) (h1 : Hp) (r : Int32) (y : Bn) (F1 : Fr (fun c i => c = 251 ∧ 46 ≤ i ∧ i ≤ 48) h h1) (m46 : h1.1 251 46 = jN 1) (m47 : h1.1 251 47 = jN 1) (m48 : h1.1 251 48 = nI 0) (eL : bL y = bL (zT n s t 0)) (eU : bU y = bU (zT n s t 0)) (hr : rw' w (zT n s t 0) r) : Okk (M_findComes_j143 (nI t) r (nI (bL y)) (nI (bU y)) h1) (fun h' => h'.1 251 46 = vF (cm3 (hT n s t w) 6).1 ∧ h'.1 251 47 = vF (cm3 (hT n s t w) 6).2.1 ∧ h'.1 251 48 = nI (cm3 (hT n s t w) 6).2.2 ∧ Fr (fun c i => c = 251 ∧ 46 ≤ i ∧ i ≤ 48) h h') := by
  have hT5 := hw.1
  have hK := hw.2.2.2.1 t ht
  have hkp := kp_at ht
  have oX : ∀ {h' : Hp}, Fr (fun c i => c = 251 ∧ 46 ≤ i ∧ i ≤ 48) h h' → MX h' n := fun F => mx_fr X (fun c i hc => F c i (by show ¬ (c = 251 ∧ 46 ≤ i ∧ i ≤ 48); omega))
  unfold M_findComes_j143 M_findComes_l146
  refine lp_for _ 7 (fun k q => ∃ j, k = j + 1 ∧ q.2.1 = nI (bL (zT n s t j)) ∧ q.2.2.1 = nI (bU (zT n s t j)) ∧ q.2.2.2.1 = nI k ∧ rw' w (zT n s t j) q.1 ∧ Fr (fun c i => c = 251 ∧ 46 ≤ i ∧ i ≤ 48) h q.2.2.2.2 ∧ q.2.2.2.2.1 251 46 = vF (cm3 (hT n s t w) j).1 ∧ q.2.2.2.2.1 251 47 = vF (cm3 (hT n s t w) j).2.1 ∧ q.2.2.2.2.1 251 48 = nI (cm3 (hT n s t w) j).2.2) _ ?_ ?_ 1 _ (by omega) ?_
  · rintro k ⟨q1, q2, q3, q4, q5⟩ hk7 ⟨j, rfl, e2, e3, e4, hq, hF, f5, f6, f7⟩
    dsimp only at e2 e3 e4 hq hF f5 f6 f7
    subst e2
    subst e3
    subst e4
    obtain ⟨g1, g2⟩ := gB_zT W (show t < 5 by omega) j
    rw [hkp] at g1
    have hle := cm3_le (hT n s t w) j
    unfold M_findComes_b146 M_findComes_j254
    by_cases c0 : q1 = nI 0
    · subst c0
      simp (disch := omega) only [KK, K1, K2, NN, bnd_eq, sb, smr, bI_ite, if_pos, if_neg, if_true, if_false, or_true, true_or, true_and, and_true, g01]
      have hz := z_hT (z_rw hq)
      have e : cm3 (hT n s t w) 6 = cm3 (hT n s t w) j := by
        have := cm3_cut (hT n s t w) (j := j) (6 - j) (fun i hi => by
          have := hz (i - j)
          rw [show j + (i - j) = i by omega] at this
          exact this)
        rw [show j + (6 - j) = 6 by omega] at this
        exact this
      rw [e]
      exact ok_mk ⟨f5, f6, f7, hF⟩
    -- the tail: a quiet sitting
    have tail : ∀ (q6 : Hp) (u : Nat), u = (if bU (zT n s t j) + 1 < bL (zT n s t j) then bU (zT n s t j) + 1 else 0) → Fr (fun c i => c = 251 ∧ 46 ≤ i ∧ i ≤ 48) h q6 → q6.1 251 46 = vF (cm3 (hT n s t w) (j + 1)).1 → q6.1 251 47 = vF (cm3 (hT n s t w) (j + 1)).2.1 → q6.1 251 48 = nI (cm3 (hT n s t w) (j + 1)).2.2 → Okk (M_findComes_j217 (nI t) q1 (nI (bL (zT n s t j))) (nI u) (nI (j + 1)) q6) (Sum.elim (fun q => ∃ j', j + 1 + 1 = j' + 1 ∧ q.2.1 = nI (bL (zT n s t j')) ∧ q.2.2.1 = nI (bU (zT n s t j')) ∧ q.2.2.2.1 = nI (j + 1 + 1) ∧ rw' w (zT n s t j') q.1 ∧ Fr (fun c i => c = 251 ∧ 46 ≤ i ∧ i ≤ 48) h q.2.2.2.2 ∧ q.2.2.2.2.1 251 46 = vF (cm3 (hT n s t w) j').1 ∧ q.2.2.2.2.1 251 47 = vF (cm3 (hT n s t w) j').2.1 ∧ q.2.2.2.2.1 251 48 = nI (cm3 (hT n s t w) j').2.2) (fun h' => h'.1 251 46 = vF (cm3 (hT n s t w) 6).1 ∧ h'.1 251 47 = vF (cm3 (hT n s t w) 6).2.1 ∧ h'.1 251 48 = nI (cm3 (hT n s t w) 6).2.2 ∧ Fr (fun c i => c = 251 ∧ 46 ≤ i ∧ i ≤ 48) h h')) := by
      intro q6 u hu G6 z5 z6 z7
      have hap : rw' w (bAp (bTn (zT n s t j)) (nI 0, nI 0, sN s)) q1 := by
        have := rw_ap (p := (nI 0, nI 0, sN s)) (b := false) (x := bTn (zT n s t j)) (r := q1) hq (show bL (zT n s t j) < 31 by omega) (b_0 w)
        rw [if_neg (show ¬ (false = true) by decide), or_z] at this
        exact this
      have eL1 : bL (zT n s t (j + 1)) = bL (zT n s t j) + 1 - (bL (zT n s t j) + 1 - nK n t) := by
        show bL (zT n s t j) + 1 - (bL (zT n s t j) + 1 - kp n t) = _
        rw [hkp]
      have eU1 : bU (zT n s t (j + 1)) = u - (bL (zT n s t j) + 1 - nK n t) := by
        show (if bU (zT n s t j) + 1 < bL (zT n s t j) then bU (zT n s t j) + 1 else 0) - (bL (zT n s t j) + 1 - kp n t) = _
        rw [hkp, ← hu]
      have hul : u ≤ 12 := by
        rw [hu]
        split <;> omega
      unfold M_findComes_j217 M_findComes_j248
      simp (disch := omega) only [KK, K1, K2, NN, bnd_eq, sb, smr, bI_ite, if_pos, if_neg, if_true, if_false, or_true, true_or, true_and, and_true, g01, (q_ofT (oX G6) hw ht).2.1]
      by_cases c1 : bL (zT n s t j) + 1 ≤ nK n t
      · rw [if_pos c1]
        refine ok_mk ⟨j + 1, rfl, ?_, ?_, rfl, ?_, G6, z5, z6, z7⟩
        · show nI (bL (zT n s t j) + 1) = _
          rw [eL1, show bL (zT n s t j) + 1 - nK n t = 0 by omega]; rfl
        · show nI u = _
          rw [eU1, show bL (zT n s t j) + 1 - nK n t = 0 by omega]; rfl
        · show rw' w (bKp (bAp (bTn (zT n s t j)) (nI 0, nI 0, sN s)) (kp n t)) q1
          rw [hkp]
          exact rw_k0 hap c1
      · rw [if_neg c1]
        simp (disch := omega) only [KK, K1, K2, NN, bnd_eq, sb, smr, bI_ite, if_pos, if_neg, if_true, if_false, or_true, true_or, true_and, and_true, g01, q_gs]
        refine ok_mk ⟨j + 1, rfl, ?_, ?_, rfl, ?_, G6, z5, z6, z7⟩
        · show nI (bL (zT n s t j) + 1 - 1) = _
          rw [eL1, show bL (zT n s t j) + 1 - nK n t = 1 by omega]
        · show nI (u - 1) = _
          rw [eU1, show bL (zT n s t j) + 1 - nK n t = 1 by omega]
        · show rw' w (bKp (bAp (bTn (zT n s t j)) (nI 0, nI 0, sN s)) (kp n t)) (sr q1 (nI 1))
          rw [hkp]
          exact rw_k1 hap (show bL (zT n s t j) + 1 = nK n t + 1 by omega) (by omega)
    by_cases cn : bL (zT n s t j) ≤ 0
    · have hh : hT n s t w j = false := by
        show bt (bV (zT n s t j)) w = false
        unfold bV
        rw [if_neg (by omega)]
        exact b_0 w
      simp (disch := omega) only [KK, K1, K2, NN, bnd_eq, sb, smr, bI_ite, if_pos, if_neg, if_true, if_false, or_true, true_or, true_and, and_true, g01, c0, hh]
      refine tail q5 (bU (zT n s t j)) ?_ hF ?_ ?_ ?_
      · rw [if_neg (by omega)]
        omega
      · rw [cm3_s, hh, if_neg (by decide), f5]
      · rw [cm3_s, hh, if_neg (by decide), f6]
      · rw [cm3_s, hh, if_neg (by decide), f7]
    · have cu : bU (zT n s t j) < bL (zT n s t j) := by omega
      have hbit : bt q1 (bU (zT n s t j)) = hT n s t w j := by
        rw [hq, decide_eq_true cu, Bool.true_and]
        show _ = bt (bV (zT n s t j)) w
        unfold bV
        rw [if_pos cu]
      have hn64 : ¬ ((64 : Int32) < nI (j + 1)) := by
        rw [show (64 : Int32) = nI 64 from rfl, nI_ltI (by omega) (by omega)]
        omega
      have hx4 : ¬ nI (bL (zT n s t j)) ≤ (0 : Int32) := by
        rw [show (0 : Int32) = nI 0 from rfl, nI_leI (by omega) (by omega)]
        exact cn
      have e208 : ∀ h', M_findComes_j208 (nI t) q1 (nI (bL (zT n s t j))) (nI (bU (zT n s t j))) (nI (j + 1)) h' = M_findComes_j217 (nI t) q1 (nI (bL (zT n s t j))) (nI ((bU (zT n s t j) + 1) % bL (zT n s t j))) (nI (j + 1)) h' := by
        intro h'
        unfold M_findComes_j208
        rw [if_pos (show ¬ nI (bL (zT n s t j)) = (0 : Int32) from ne_nI (b := 0) (by omega) (by omega) (by omega)), bnd_eq, show nI (bU (zT n s t j)) + (1 : Int32) = nI (bU (zT n s t j) + 1) from nI_1 _, show rm (nI (bU (zT n s t j) + 1)) (nI (bL (zT n s t j))) = nI ((bU (zT n s t j) + 1) % bL (zT n s t j)) from pk_rem (by omega) (by omega) (by omega)]
      rw [if_neg hn64, if_neg (show ¬ q1 = 0 from c0), if_neg hx4, q_has q1 (show bU (zT n s t j) < 32 by omega), sb, hbit, bI_it0]
      have hmod : (bU (zT n s t j) + 1) % bL (zT n s t j) = (if bU (zT n s t j) + 1 < bL (zT n s t j) then bU (zT n s t j) + 1 else 0) := by
        by_cases e : bU (zT n s t j) + 1 < bL (zT n s t j)
        · rw [if_pos e, Nat.mod_eq_of_lt e]
        · rw [if_neg e, show bU (zT n s t j) + 1 = bL (zT n s t j) by omega, Nat.mod_self]
      by_cases c : hT n s t w j = true
      · rw [if_pos c, f5]
        have fin : ∀ v, v = vF (if (cm3 (hT n s t w) j).1 = 0 then j + 1 else (cm3 (hT n s t w) j).1) → Okk (M_findComes_j189 (nI t) q1 (nI (bL (zT n s t j))) (nI (bU (zT n s t j))) (nI (j + 1)) v q5) (Sum.elim (fun q => ∃ j', j + 1 + 1 = j' + 1 ∧ q.2.1 = nI (bL (zT n s t j')) ∧ q.2.2.1 = nI (bU (zT n s t j')) ∧ q.2.2.2.1 = nI (j + 1 + 1) ∧ rw' w (zT n s t j') q.1 ∧ Fr (fun c i => c = 251 ∧ 46 ≤ i ∧ i ≤ 48) h q.2.2.2.2 ∧ q.2.2.2.2.1 251 46 = vF (cm3 (hT n s t w) j').1 ∧ q.2.2.2.2.1 251 47 = vF (cm3 (hT n s t w) j').2.1 ∧ q.2.2.2.2.1 251 48 = nI (cm3 (hT n s t w) j').2.2) (fun h' => h'.1 251 46 = vF (cm3 (hT n s t w) 6).1 ∧ h'.1 251 47 = vF (cm3 (hT n s t w) 6).2.1 ∧ h'.1 251 48 = nI (cm3 (hT n s t w) 6).2.2 ∧ Fr (fun c i => c = 251 ∧ 46 ≤ i ∧ i ≤ 48) h h')) := by
          intro v hv
          unfold M_findComes_j189
          simp (disch := omega) only [KK, K1, K2, NN, bnd_eq, sb, smr, bI_ite, if_pos, if_neg, if_true, if_false, or_true, true_or, true_and, and_true, g01, wr_at, wr_c, wr_p, f7, e208]
          refine tail _ _ hmod ?_ ?_ ?_ ?_
          · refine fr_tr (fr_tr (fr_tr hF (fr_wr ⟨rfl, ?_, ?_⟩)) (fr_wr ⟨rfl, ?_, ?_⟩)) (fr_wr ⟨rfl, ?_, ?_⟩) <;> omega
          · rw [cm3_s, if_pos c]
            simp (disch := omega) only [KK, K1, K2, NN, bnd_eq, sb, smr, bI_ite, if_pos, if_neg, if_true, if_false, or_true, true_or, true_and, and_true, g01, wr_at, wr_c, wr_p, hv]
          · rw [cm3_s, if_pos c]
            simp (disch := omega) only [KK, K1, K2, NN, bnd_eq, sb, smr, bI_ite, if_pos, if_neg, if_true, if_false, or_true, true_or, true_and, and_true, g01, wr_at, wr_c, wr_p, ]
            exact (if_neg (by omega)).symm
          · rw [cm3_s, if_pos c]
            simp (disch := omega) only [KK, K1, K2, NN, bnd_eq, sb, smr, bI_ite, if_pos, if_neg, if_true, if_false, or_true, true_or, true_and, and_true, g01, wr_at, wr_c, wr_p, ]
        by_cases c2 : (cm3 (hT n s t w) j).1 = 0
        · rw [if_pos (show vF (cm3 (hT n s t w) j).1 = (-1 : Int32) by rw [c2]; rfl)]
          exact fin _ (by rw [if_pos c2]; exact (if_neg (by omega)).symm)
        · rw [if_neg (show ¬ vF (cm3 (hT n s t w) j).1 = (-1 : Int32) by
            rw [show vF (cm3 (hT n s t w) j).1 = nI (cm3 (hT n s t w) j).1 from if_neg c2]
            intro e
            have := (NJ (cm3 (hT n s t w) j).1 1 (by omega) (by omega)).2.2.2.2.1 (by omega)
            have e' : nI (cm3 (hT n s t w) j).1 = jN 1 := e
            rw [this] at e'
            exact e')]
          exact fin _ (by rw [if_neg c2])
      · rw [if_neg c, e208]
        refine tail q5 _ hmod hF ?_ ?_ ?_
        · rw [cm3_s, if_neg c, f5]
        · rw [cm3_s, if_neg c, f6]
        · rw [cm3_s, if_neg c, f7]
  · rintro ⟨q1, q2, q3, q4, q5⟩ ⟨j, hj, e2, e3, e4, hq, hF, f5, f6, f7⟩
    dsimp only at e2 e3 e4 hq hF f5 f6 f7
    have : j = 6 := by omega
    subst this
    subst e4
    obtain ⟨g1, g2⟩ := gB_zT W (show t < 5 by omega) 6
    have hk6 := kp_le hw t
    have qq := qT_zT n s t 6
    have e0 : q1 = nI 0 := rw_z hq (fun i hi => by
      rw [(qq i hi (by omega)).2]
      exact b_0 w)
    subst e0
    unfold M_findComes_b146 M_findComes_j254
    simp (disch := omega) only [KK, K1, K2, NN, bnd_eq, sb, smr, bI_ite, if_pos, if_neg, if_true, if_false, or_true, true_or, true_and, and_true, g01]
    exact ⟨_, rfl, f5, f6, f7, hF⟩
  · refine ⟨0, rfl, ?_, ?_, rfl, hr, F1, ?_, ?_, ?_⟩
    · dsimp only
      rw [eL]
    · dsimp only
      rw [eU]
    · exact m46
    · exact m47
    · exact m48
theorem q_findC {h : Hp} {n : Inn} {s : St} (X : MX h n) (hw : wI n) (C : MS h s) (W : wS n s) {t w : Nat} (ht : t < nT n) (hw10 : w < 10) : Okk (M_findComes h (nI t) (nI w)) (fun h' => h'.1 251 46 = vF (cm3 (hT n s t w) 6).1 ∧ h'.1 251 47 = vF (cm3 (hT n s t w) 6).2.1 ∧ h'.1 251 48 = nI (cm3 (hT n s t w) 6).2.2 ∧ Fr (fun c i => c = 251 ∧ 46 ≤ i ∧ i ≤ 48) h h') := by
  have hT5 := hw.1
  have hK := hw.2.2.2.1 t ht
  have hkp := kp_at ht
  obtain ⟨c3, c4, c5, c6, cR⟩ := C.1 t (by omega)
  have Wt := (W.1 t (by omega)).1
  have hL := Wt.1
  have hU := Wt.2.1
  rw [hkp] at hL
  have oM : ∀ {h' : Hp}, Fr (fun c i => c = 251 ∧ 46 ≤ i ∧ i ≤ 48) h h' → ∀ c i, ¬ (c = 251 ∧ 46 ≤ i ∧ i ≤ 48) → h'.1 c i = h.1 c i := fun F c i hc => F c i hc
  have oX : ∀ {h' : Hp}, Fr (fun c i => c = 251 ∧ 46 ≤ i ∧ i ≤ 48) h h' → MX h' n := fun F => mx_fr X (fun c i hc => oM F c i (by omega))
  have main := fun h1 r y => q_fcM X hw W ht hw10 h1 r y
  unfold M_findComes
  have F0 : Fr (fun c i => c = 251 ∧ 46 ≤ i ∧ i ≤ 48) h (wr (wr (wr h 251 46 (jN 1)) 251 47 (jN 1)) 251 48 (nI 0)) := by
    refine fr_tr (fr_tr (fr_wr ⟨rfl, ?_, ?_⟩) (fr_wr ⟨rfl, ?_, ?_⟩)) (fr_wr ⟨rfl, ?_, ?_⟩) <;> omega
  simp (disch := omega) only [KK, K1, K2, NN, bnd_eq, sb, smr, bI_ite, if_pos, if_neg, if_true, if_false, or_true, true_or, true_and, and_true, g01, wr_at, wr_c, wr_p, lnm, c3, c4]
  generalize hm : wr (wr (wr h 251 46 (jN 1)) 251 47 (jN 1)) 251 48 (nI 0) = m at F0
  have m46 : m.1 251 46 = jN 1 := by rw [← hm]; simp (disch := omega) only [KK, K1, K2, NN, bnd_eq, sb, smr, bI_ite, if_pos, if_neg, if_true, if_false, or_true, true_or, true_and, and_true, g01, wr_at, wr_c, wr_p, ]
  have m47 : m.1 251 47 = jN 1 := by rw [← hm]; simp (disch := omega) only [KK, K1, K2, NN, bnd_eq, sb, smr, bI_ite, if_pos, if_neg, if_true, if_false, or_true, true_or, true_and, and_true, g01, wr_at, wr_c, wr_p, ]
  have m48 : m.1 251 48 = nI 0 := by rw [← hm]; simp (disch := omega) only [KK, K1, K2, NN, bnd_eq, sb, smr, bI_ite, if_pos, if_neg, if_true, if_false, or_true, true_or, true_and, and_true, g01, wr_at, wr_c, wr_p, ]
  unfold M_findComes_l36
  refine lp_for _ (bL (sB s t)) (fun k q => q.2 = nI k ∧ ∀ i, bt q.1 i = (decide (i < k) && bt (bR (sB s t) i).2.1 w)) _ ?_ ?_ 0 _ (by omega) ?_
  · rintro k ⟨q1, q2⟩ hk ⟨e1, hq⟩
    dsimp only at e1 hq
    subst e1
    have r1 : m.1 264 (16 * t + k) = (bR (sB s t) k).2.1 := by rw [oM F0 264 _ (by omega), (cR k hk).2.1]
    unfold M_findComes_b36 M_findComes_j71
    simp (disch := omega) only [KK, K1, K2, NN, bnd_eq, sb, smr, bI_ite, if_pos, if_neg, if_true, if_false, or_true, true_or, true_and, and_true, g01, lnm, r1, q_has (bR (sB s t) k).2.1 (show w < 32 by omega)]
    have bits : ∀ v, v = (if bt (bR (sB s t) k).2.1 w = true then sh (nI 1) (nI k) else nI 0) → ∀ i, bt (q1 ||| v) i = (decide (i < k + 1) && bt (bR (sB s t) i).2.1 w) := by
      intro v hv i
      have := rw_ap (w := w) (x := bMk k (bR (sB s t)) 0 (nI 0) (nI 0)) (r := q1) (p := bR (sB s t) k) (b := bt (bR (sB s t) k).2.1 w) hq (show k < 31 by omega) rfl i
      rw [hv]
      have e : (bR (bAp (bMk k (bR (sB s t)) 0 (nI 0) (nI 0)) (bR (sB s t) k)) i) = bR (sB s t) i := by
        show up (bR (sB s t)) k (bR (sB s t) k) i = _
        by_cases e : i = k
        · rw [e, up_at]
        · rw [up_ne _ _ e]
      rw [e] at this
      exact this
    by_cases c : bt (bR (sB s t) k).2.1 w = true
    · rw [if_pos c]
      exact ok_mk ⟨rfl, bits _ (by rw [if_pos c])⟩
    · rw [if_neg c]
      exact ok_mk ⟨rfl, bits _ (by rw [if_neg c])⟩
  · rintro ⟨q1, q2⟩ ⟨e1, hq⟩
    dsimp only at e1 hq
    subst e1
    have e268 : m.1 268 t = bS (sB s t) := by rw [oM F0 268 t (by omega), c5]
    have e269 : m.1 269 t = bW (sB s t) := by rw [oM F0 269 t (by omega), c6]
    have hq' : rw' w (sB s t) q1 := hq
    unfold M_findComes_b36 M_findComes_j79
    simp (disch := omega) only [KK, K1, K2, NN, bnd_eq, sb, smr, bI_ite, if_pos, if_neg, if_true, if_false, or_true, true_or, true_and, and_true, g01, lnm, e268, e269]
    refine okmr ?_
    by_cases c0 : bS (sB s t) = nI 0
    · rw [if_pos c0]
      have e : zT n s t 0 = bSt (sB s t) (nI 0) (nI 0) := if_pos c0
      exact main m q1 (sB s t) F0 m46 m47 m48 (by rw [e]; rfl) (by rw [e]; rfl) (by rw [e]; exact hq')
    · rw [if_neg c0]
      have e : zT n s t 0 = bSt (bKp (bAp (sB s t) (bS (sB s t), bW (sB s t), sN s)) (kp n t)) (nI 0) (nI 0) := if_neg c0
      have hap := rw_ap (w := w) (p := (bS (sB s t), bW (sB s t), sN s)) (b := bt (bW (sB s t)) w) hq' (by omega) rfl
      have fin : ∀ v, v = (if bt (bW (sB s t)) w = true then sh (nI 1) (nI (bL (sB s t))) else nI 0) → Okk (M_findComes_j110 (nI t) (nI (bL (sB s t))) (nI (bU (sB s t))) q1 v m) (fun h' => h'.1 251 46 = vF (cm3 (hT n s t w) 6).1 ∧ h'.1 251 47 = vF (cm3 (hT n s t w) 6).2.1 ∧ h'.1 251 48 = nI (cm3 (hT n s t w) 6).2.2 ∧ Fr (fun c i => c = 251 ∧ 46 ≤ i ∧ i ≤ 48) h h') := by
        intro v hv
        rw [← hv] at hap
        unfold M_findComes_j110
        simp (disch := omega) only [KK, K1, K2, NN, bnd_eq, sb, smr, bI_ite, if_pos, if_neg, if_true, if_false, or_true, true_or, true_and, and_true, g01, (q_ofT (oX F0) hw ht).2.1]
        by_cases c1 : bL (sB s t) + 1 ≤ nK n t
        · rw [if_pos c1]
          refine main m _ (bMk (bL (sB s t) + 1) (bR (sB s t)) (bU (sB s t)) (nI 0) (nI 0)) F0 m46 m47 m48 ?_ ?_ ?_
          · rw [e, hkp]
            show bL (sB s t) + 1 = bL (sB s t) + 1 - (bL (sB s t) + 1 - nK n t)
            omega
          · rw [e, hkp]
            show bU (sB s t) = bU (sB s t) - (bL (sB s t) + 1 - nK n t)
            omega
          · rw [e, hkp]
            exact rw_k0 hap c1
        · rw [if_neg c1]
          simp (disch := omega) only [KK, K1, K2, NN, bnd_eq, sb, smr, bI_ite, if_pos, if_neg, if_true, if_false, or_true, true_or, true_and, and_true, g01, q_gs]
          refine main m _ (bMk (bL (sB s t) + 1 - 1) (bR (sB s t)) (bU (sB s t) - 1) (nI 0) (nI 0)) F0 m46 m47 m48 ?_ ?_ ?_
          · rw [e, hkp]
            show bL (sB s t) + 1 - 1 = bL (sB s t) + 1 - (bL (sB s t) + 1 - nK n t)
            omega
          · rw [e, hkp]
            show bU (sB s t) - 1 = bU (sB s t) - (bL (sB s t) + 1 - nK n t)
            omega
          · rw [e, hkp]
            exact rw_k1 hap (show bL (sB s t) + 1 = nK n t + 1 by omega) (by omega)
      simp (disch := omega) only [KK, K1, K2, NN, bnd_eq, sb, smr, bI_ite, if_pos, if_neg, if_true, if_false, or_true, true_or, true_and, and_true, g01, q_has (bW (sB s t)) (show w < 32 by omega)]
      by_cases c : bt (bW (sB s t)) w = true
      · rw [if_pos c]
        exact fin _ (by rw [if_pos c])
      · rw [if_neg c]
        exact fin _ (by rw [if_neg c])
  · refine ⟨rfl, ?_⟩
    intro i
    rw [decide_eq_false (Nat.not_lt_zero i), Bool.false_and]
    exact b_0 i
