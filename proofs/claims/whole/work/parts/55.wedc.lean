/-! ===== L3: weddings of the code ===== -/
def wc (n : Inn) (s : St) (t : Nat) : Int32 := if 2 ≤ nS n t then oT (fun g => if nQ n g &&& bA (sB s t) = nI 0 then sh (nI 1) (nI g) else nI 0) (nG n) else nI 0
theorem wc_b {n : Inn} {s : St} {t : Nat} (hG : nG n ≤ 8) {g : Nat} (hg : g < nG n) : bt (wc n s t) g = (decide (2 ≤ nS n t) && decide (nQ n g &&& bA (sB s t) = nI 0)) := by
  unfold wc
  by_cases c1 : 2 ≤ nS n t
  · rw [if_pos c1, decide_eq_true c1, Bool.true_and]
    refine Bool.eq_iff_iff.mpr ?_
    rw [b_oT, decide_eq_true_eq]
    constructor
    · rintro ⟨j, hj, h1⟩
      by_cases c2 : nQ n j &&& bA (sB s t) = nI 0
      · rw [if_pos c2, b_sh (by omega) g (by omega), decide_eq_true_eq] at h1
        subst h1
        exact c2
      · rw [if_neg c2] at h1
        exact absurd ((b_0 g).symm.trans h1) (by decide)
    · intro c2
      refine ⟨g, hg, ?_⟩
      rw [if_pos c2, b_sh (by omega) g (by omega)]
      exact decide_eq_true rfl
  · rw [if_neg c1, decide_eq_false c1, Bool.false_and]
    exact b_0 g
def FX (n : Inn) (x F : Int32) : Prop := ∀ i, i < 32 → bt F i = (decide (i < nG n) && !bt x i)
theorem fx_lo {n : Inn} {x F : Int32} (hG : nG n ≤ 8) (H : FX n x F) : lo 10 F := fun i hi => by
  rcases Nat.lt_or_ge i 32 with h | h
  · rw [H i h, decide_eq_false (by omega), Bool.false_and]
  · exact b_big h
theorem fx_step {n : Inn} {x F y : Int32} (H : FX n x F) : FX n (x ||| y) (F &&& (y ^^^ jN 1)) := fun i hi => by
  rw [b_and, b_nt _ _ hi, H i hi, b_or]
  cases decide (i < nG n) <;> cases bt x i <;> cases bt y i <;> rfl
theorem cT_rm {p q : Nat → Bool} {k : Nat} (hp : p k = true) (hq : q k = false) : ∀ m, k < m → (∀ i, i < m → i ≠ k → p i = q i) → cT p m = cT q m + 1
  | 0, h, _ => absurd h (by omega)
  | m + 1, h, he => by
    rw [cT_s, cT_s]
    rcases Nat.lt_or_ge k m with h1 | h1
    · rw [cT_rm hp hq m h1 (fun i hi hk => he i (by omega) hk), he m (by omega) (by omega)]
      omega
    · have e : k = m := by omega
      subst e
      rw [if_pos hp, hq, if_neg (by decide), cT_cg k (fun i hi => he i (by omega) (by omega))]
theorem pc_2 {x : Int32} {a b : Nat} {y : Int32} (hab : a ≠ b) (ha : a < 8) (hb : b < 8) (h1 : bt x a = true) (h2 : bt x b = true) (hy : ∀ i, i < 32 → bt y i = (decide (i = a) || decide (i = b))) : pc (x &&& (y ^^^ jN 1)) + 2 = pc x := by
  have e1 : cT (bt x) 10 = cT (fun i => bt x i && !decide (i = a)) 10 + 1 := by
    refine cT_rm (k := a) h1 ?_ 10 (by omega) (fun i _ hi => ?_)
    · show (bt x a && !decide (a = a)) = false
      rw [decide_eq_true rfl]
      exact Bool.and_false _
    · show bt x i = (bt x i && !decide (i = a))
      rw [decide_eq_false hi]
      exact (Bool.and_true _).symm
  have e2 : cT (fun i => bt x i && !decide (i = a)) 10 = cT (bt (x &&& (y ^^^ jN 1))) 10 + 1 := by
    refine cT_rm (k := b) ?_ ?_ 10 (by omega) (fun i h10 hi => ?_)
    · show (bt x b && !decide (b = a)) = true
      rw [h2, decide_eq_false (fun e => hab e.symm)]
      rfl
    · rw [b_and, b_nt _ _ (by omega), hy b (by omega), decide_eq_true (rfl : b = b), Bool.or_true]
      exact Bool.and_false _
    · show (bt x i && !decide (i = a)) = _
      rw [b_and, b_nt _ _ (by omega), hy i (by omega), decide_eq_false hi, Bool.or_false]
  unfold pc
  omega
theorem okW_ab {n : Inn} {s : St} {t c : Nat} {x : Int32} (h : okW n s t c x = true) : c / 8 < c % 8 ∧ c % 8 < nG n ∧ bt x (c / 8) = false ∧ bt x (c % 8) = false := by
  unfold okW at h
  simp only [Bool.and_eq_true, decide_eq_true_eq, Bool.not_eq_true'] at h
  exact ⟨h.1, h.2.1, h.2.2.2.1, h.2.2.2.2.1⟩
theorem wM_pc {n : Inn} (s : St) (hG : nG n ≤ 8) : ∀ d x F, FX n x F → 2 * wM n s d x ≤ pc F
  | 0, x, F, H => by rw [wM_0]; omega
  | d + 1, x, F, H => by
    have h0 := wM_pc s hG d x F H
    have := fM_le (p := fun c => okW n s (nT n - (d + 1)) c x) (f := fun c => wM n s d (x ||| tk c) + 1) (a := wM n s d x) (m := pc F / 2) (by omega) 64 (fun i hi ok => by
      obtain ⟨o1, o2, o3, o4⟩ := okW_ab ok
      have h1 := wM_pc s hG d (x ||| tk i) _ (fx_step (y := tk i) H)
      have h2 := pc_2 (x := F) (a := i / 8) (b := i % 8) (y := tk i) (by omega) (by omega) (by omega) (by rw [H _ (by omega), o3, decide_eq_true (by omega)]; rfl) (by rw [H _ (by omega), o4, decide_eq_true (by omega)]; rfl) (fun j hj => tk_b hi hj)
      show wM n s d (x ||| tk i) + 1 ≤ pc F / 2
      omega)
    rw [wM_s]
    omega
theorem s_b (z y : Int32) : z &&& (y ^^^ jN 1) = nI 0 ↔ ∀ i, i < 32 → bt z i = true → bt y i = true := by
  constructor
  · intro e i hi hz
    have h1 : bt (z &&& (y ^^^ jN 1)) i = false := by rw [e]; exact b_0 i
    rw [b_and, b_nt _ _ hi, hz, Bool.true_and] at h1
    cases hb : bt y i
    · rw [hb] at h1
      exact absurd h1 (by decide)
    · rfl
  · intro e
    refine b_ext (fun i hi => ?_)
    rw [b_and, b_nt _ _ hi, show bt (nI 0) i = false from b_0 i]
    cases hz : bt z i
    · rfl
    · rw [e i hi hz]; rfl
theorem okW_c {n : Inn} {s : St} {t o u : Nat} {x F : Int32} (hG : nG n ≤ 8) (H : FX n x F) (h1 : o < u) (h2 : u < nG n) : okW n s t (8 * o + u) x = (bt (nL n o) u && decide (tk (8 * o + u) &&& ((F &&& wc n s t) ^^^ jN 1) = nI 0)) := by
  have e1 : (8 * o + u) / 8 = o := by omega
  have e2 : (8 * o + u) % 8 = u := by omega
  unfold okW
  rw [e1, e2, decide_eq_true h1, decide_eq_true h2, Bool.true_and, Bool.true_and]
  cases bt (nL n o) u
  case false => rfl
  rw [Bool.true_and, Bool.true_and]
  refine Bool.eq_iff_iff.mpr ?_
  rw [decide_eq_true_eq, s_b]
  have hF : ∀ i, i < nG n → (bt (F &&& wc n s t) i = true ↔ bt x i = false ∧ 2 ≤ nS n t ∧ nQ n i &&& bA (sB s t) = nI 0) := fun i hi => by
    rw [b_and, H i (by omega), decide_eq_true hi, Bool.true_and, wc_b hG hi]
    simp only [Bool.and_eq_true, decide_eq_true_eq, Bool.not_eq_true']
  have hb : ∀ i, i < 32 → bt (tk (8 * o + u)) i = (decide (i = o) || decide (i = u)) := fun i hi => by rw [tk_b (by omega) hi, e1, e2]
  simp only [Bool.and_eq_true, decide_eq_true_eq, Bool.not_eq_true']
  constructor
  · rintro ⟨a1, a2, a3, a4, a5⟩ i hi hz
    rw [hb i hi, Bool.or_eq_true, decide_eq_true_eq, decide_eq_true_eq] at hz
    rcases hz with rfl | rfl
    · exact (hF _ (by omega)).mpr ⟨a1, a3, a4⟩
    · exact (hF _ (by omega)).mpr ⟨a2, a3, a5⟩
  · intro a
    obtain ⟨b1, b2, b3⟩ := (hF o (by omega)).mp (a o (by omega) (by rw [hb o (by omega), decide_eq_true rfl, Bool.true_or]))
    obtain ⟨c1, c2, c3⟩ := (hF u (by omega)).mp (a u (by omega) (by rw [hb u (by omega), decide_eq_true (rfl : u = u), Bool.or_true]))
    exact ⟨b1, c1, b2, b3, c3⟩
/-- the most so far, one more -/
def eM (m : Nat) : Int32 := nI m + jN 1
theorem eM_s (m : Nat) : eM (m + 1) = nI m := pk_m1 m
theorem eM_0 : eM 0 = jN 1 := by decide +kernel
theorem eM_lt {m k : Nat} (hm : m < 2 ^ 20) (hk : k < 2 ^ 20) : eM m < nI k ↔ m < k + 1 := by
  cases m with
  | zero =>
    rw [eM_0]
    constructor
    · intro _; omega
    · intro _
      exact of_eq_true ((NJ k 1 (by omega) (by omega)).2.2.2.1 (by omega))
  | succ m =>
    rw [eM_s, nI_ltI (by omega) (by omega)]
    omega
def pWd : Nat → Nat → Prop := fun c i => (c = 113 ∧ i = 4) ∨ c = 115 ∨ c = 116
def Wpre (n : Inn) (s : St) (a : Nat) (h : Hp) : Prop := a < 50 ∧ h.1 113 3 = nI a ∧ CH h a n ∧ ∀ t, t < nT n → h.1 114 t = wc n s t
theorem wpre_fr {n : Inn} {s : St} {a : Nat} {h h' : Hp} (hw : wI n) (H : Wpre n s a h) (F : Fr pWd h h') : Wpre n s a h' := by
  obtain ⟨ha, h1, h2, h3⟩ := H
  have o : ∀ c i, ¬ ((c = 113 ∧ i = 4) ∨ c = 115 ∨ c = 116) → h'.1 c i = h.1 c i := F
  refine ⟨ha, by rw [o _ _ (by omega), h1], chf hw h2 (fun c i hc1 hc2 => o c i (by omega)), fun t ht => by rw [o _ _ (by omega), h3 t ht]⟩
def pW (n : Inn) (s : St) (d : Nat) (x : Int32) (c : Nat) : Bool := okW n s (nT n - (d + 1)) c x
def fW (n : Inn) (s : St) (w d : Nat) (x : Int32) (c : Nat) : Nat := w + (wM n s d (x ||| tk c) + 1) + 1
def wIV (n : Inn) (s : St) (h : Hp) (m w d : Nat) (x : Int32) (c : Nat) (h' : Hp) : Prop := h'.1 113 4 = eM (fM (pW n s d x) (fW n s w d x) m c) ∧ (m < fM (pW n s d x) (fW n s w d x) m c → ∃ k, k < c ∧ pW n s d x k = true ∧ fW n s w d x k = fM (pW n s d x) (fW n s w d x) m c ∧ (∀ i, i < k → pW n s d x i = true → fW n s w d x i < fM (pW n s d x) (fW n s w d x) m c) ∧ (∀ i, i < nT n - (d + 1) → h'.1 116 i = h.1 115 i) ∧ h'.1 116 (nT n - (d + 1)) = nI k ∧ ∀ j, j < d → h'.1 116 (nT n - (d + 1) + 1 + j) = rW n s d (x ||| tk k) j) ∧ (fM (pW n s d x) (fW n s w d x) m c ≤ m → ∀ i, h'.1 116 i = h.1 116 i) ∧ (∀ i, i < nT n - (d + 1) → h'.1 115 i = h.1 115 i) ∧ Fr pWd h h'
def wPo (n : Inn) (s : St) (h : Hp) (m w d : Nat) (x : Int32) (h' : Hp) : Prop := h'.1 113 4 = eM (max m (w + wM n s d x + 1)) ∧ (m < w + wM n s d x + 1 → (∀ i, i < nT n - d → h'.1 116 i = h.1 115 i) ∧ ∀ j, j < d → h'.1 116 (nT n - d + j) = rW n s d x j) ∧ (w + wM n s d x + 1 ≤ m → ∀ i, h'.1 116 i = h.1 116 i) ∧ (∀ i, i < nT n - d → h'.1 115 i = h.1 115 i) ∧ Fr pWd h h'
theorem wIV_skip {n : Inn} {s : St} {h h' : Hp} {m w d c : Nat} {x : Int32} (e : Nat) (H : wIV n s h m w d x c h') (hp : ∀ i, c ≤ i → i < c + e → pW n s d x i = false) : wIV n s h m w d x (c + e) h' := by
  have hE := fM_skip (p := pW n s d x) (f := fW n s w d x) (a := m) (c := c) e hp
  unfold wIV at H ⊢
  rw [hE]
  obtain ⟨a1, a2, a3⟩ := H
  refine ⟨a1, fun hm => ?_, a3⟩
  obtain ⟨k, hk, r⟩ := a2 hm
  exact ⟨k, by omega, r⟩
theorem wIV_step {n : Inn} {s : St} {h h' h'' : Hp} {m w d c : Nat} {x : Int32} (hd : d < nT n) (H : wIV n s h m w d x c h') (ok : pW n s d x c = true) (P : wPo n s (wr h' 115 (nT n - (d + 1)) (nI c)) (fM (pW n s d x) (fW n s w d x) m c) (w + 1) d (x ||| tk c) h'') : wIV n s h m w d x (c + 1) h'' := by
  obtain ⟨b1, b2, b3, b4, b5⟩ := P
  obtain ⟨a1, a2, a3, a4, a5⟩ := H
  obtain ⟨g1, g2⟩ := fM_ge (p := pW n s d x) (f := fW n s w d x) (a := m) c
  have eW : w + 1 + wM n s d (x ||| tk c) + 1 = fW n s w d x c := by unfold fW; omega
  rw [eW] at b1 b2 b3
  have eS : fM (pW n s d x) (fW n s w d x) m (c + 1) = max (fM (pW n s d x) (fW n s w d x) m c) (fW n s w d x c) := by rw [fM_s, if_pos ok]
  have eT : nT n - d = nT n - (d + 1) + 1 := by omega
  rw [eT] at b2 b4
  have o15 : ∀ i, i < nT n - (d + 1) → (wr h' 115 (nT n - (d + 1)) (nI c)).1 115 i = h.1 115 i := fun i hi => by rw [wr_p _ _ _ _ (by omega), a4 i hi]
  have o16 : ∀ i, (wr h' 115 (nT n - (d + 1)) (nI c)).1 116 i = h'.1 116 i := fun i => wr_c _ _ _ _ (by omega)
  unfold wIV
  rw [eS]
  refine ⟨b1, fun hm => ?_, fun hm i => ?_, fun i hi => ?_, fr_tr a5 (fr_tr (fr_wr (Or.inr (Or.inl rfl))) b5)⟩
  · rcases Nat.lt_or_ge (fM (pW n s d x) (fW n s w d x) m c) (fW n s w d x c) with h1 | h1
    · obtain ⟨c1, c2⟩ := b2 h1
      refine ⟨c, by omega, ok, by omega, fun i hi hpi => ?_, fun i hi => ?_, ?_, c2⟩
      · have := g2 i hi hpi
        omega
      · rw [c1 i (by omega), o15 i hi]
      · rw [c1 _ (by omega), wr_at]
    · have hb := b3 h1
      obtain ⟨k, k1, k2, k3, k4, k5, k6, k7⟩ := a2 (by omega)
      refine ⟨k, by omega, k2, by omega, fun i hi hpi => ?_, fun i hi => ?_, ?_, fun j hj => ?_⟩
      · have := k4 i hi hpi
        omega
      · rw [hb, o16, k5 i hi]
      · rw [hb, o16, k6]
      · rw [hb, o16, k7 j hj]
  · rw [b3 (by omega), o16, a3 (by omega)]
  · rw [b4 i (by omega), o15 i hi]
theorem wIV_end {n : Inn} {s : St} {h h' h'' : Hp} {m w d : Nat} {x : Int32} (hd : d < nT n) (H : wIV n s h m w d x 64 h') (P : wPo n s (wr h' 115 (nT n - (d + 1)) (jN 1)) (fM (pW n s d x) (fW n s w d x) m 64) w d x h'') : wPo n s h m w (d + 1) x h'' := by
  obtain ⟨b1, b2, b3, b4, b5⟩ := P
  obtain ⟨a1, a2, a3, a4, a5⟩ := H
  obtain ⟨g1, g2⟩ := fM_ge (p := pW n s d x) (f := fW n s w d x) (a := m) 64
  have eX : max (fM (pW n s d x) (fW n s w d x) m 64) (w + wM n s d x + 1) = max m (w + wM n s (d + 1) x + 1) := fM_mx (g := fun c => wM n s d (x ||| tk c) + 1) (fun c => rfl) 64
  have eT : nT n - d = nT n - (d + 1) + 1 := by omega
  rw [eT] at b2 b4
  have o15 : ∀ i, i < nT n - (d + 1) → (wr h' 115 (nT n - (d + 1)) (jN 1)).1 115 i = h.1 115 i := fun i hi => by rw [wr_p _ _ _ _ (by omega), a4 i hi]
  have o16 : ∀ i, (wr h' 115 (nT n - (d + 1)) (jN 1)).1 116 i = h'.1 116 i := fun i => wr_c _ _ _ _ (by omega)
  unfold wPo
  refine ⟨by rw [b1, eX], fun hm => ?_, fun hm i => ?_, fun i hi => ?_, fr_tr a5 (fr_tr (fr_wr (Or.inr (Or.inl rfl))) b5)⟩
  · rcases Nat.lt_or_ge (fM (pW n s d x) (fW n s w d x) m 64) (w + wM n s d x + 1) with h1 | h1
    · -- nobody weds here
      obtain ⟨c1, c2⟩ := b2 h1
      have hg : ¬ gC n s d x < 64 := fun hg => by
        have hq := fF_at (gP n s d x) 64 hg
        unfold gP at hq
        rw [Bool.and_eq_true, decide_eq_true_eq] at hq
        have h2 := g2 _ hg hq.1
        have h3 : fW n s w d x (fF (gP n s d x) 64) = w + (wM n s d (x ||| tk (fF (gP n s d x) 64)) + 1) + 1 := rfl
        have h4 : wM n s d (x ||| tk (fF (gP n s d x) 64)) + 1 = wM n s (d + 1) x := hq.2
        have h5 : fW n s w d x (gC n s d x) = fW n s w d x (fF (gP n s d x) 64) := rfl
        omega
      refine ⟨fun i hi => by rw [c1 i (by omega), o15 i hi], fun j hj => ?_⟩
      cases j with
      | zero => rw [rW_0, if_neg hg, Nat.add_zero, c1 _ (by omega), wr_at]
      | succ j =>
        rw [rW_s, if_neg hg, ← c2 j (by omega), show nT n - (d + 1) + (j + 1) = nT n - (d + 1) + 1 + j by omega]
    · have hb := b3 h1
      obtain ⟨k, k1, k2, k3, k4, k5, k6, k7⟩ := a2 (by omega)
      have eK : gC n s d x = k := by
        refine fF_at' (gP n s d x) (k := k) (fun i hi => ?_) ?_ 64 k1
        · unfold gP
          cases hpi : okW n s (nT n - (d + 1)) i x
          case false => rfl
          rw [Bool.true_and]
          refine decide_eq_false (fun e => ?_)
          have h2 := k4 i hi hpi
          have h3 : fW n s w d x i = w + (wM n s d (x ||| tk i) + 1) + 1 := rfl
          omega
        · unfold gP
          rw [show okW n s (nT n - (d + 1)) k x = true from k2, Bool.true_and]
          have h3 : fW n s w d x k = w + (wM n s d (x ||| tk k) + 1) + 1 := rfl
          exact decide_eq_true (by omega)
      refine ⟨fun i hi => by rw [hb, o16, k5 i hi], fun j hj => ?_⟩
      cases j with
      | zero => rw [rW_0, eK, if_pos k1, Nat.add_zero, hb, o16, k6]
      | succ j =>
        rw [rW_s, eK, if_pos k1, ← k7 j (by omega), hb, o16, show nT n - (d + 1) + (j + 1) = nT n - (d + 1) + 1 + j by omega]
  · rw [b3 (by omega), o16, a3 (by omega)]
  · rw [b4 i (by omega), o15 i hi]
