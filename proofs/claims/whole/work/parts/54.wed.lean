/-! ===== L3: weddings, and the model's ===== -/
/-- the couple of a number -/
def tk (c : Nat) : Int32 := sh (nI 1) (nI (c / 8)) ||| sh (nI 1) (nI (c % 8))
def okW (n : Inn) (s : St) (t c : Nat) (x : Int32) : Bool := decide (c / 8 < c % 8) && (decide (c % 8 < nG n) && (bt (nL n (c / 8)) (c % 8) && (!bt x (c / 8) && (!bt x (c % 8) && (decide (2 ≤ nS n t) && (decide (nQ n (c / 8) &&& bA (sB s t) = nI 0) && decide (nQ n (c % 8) &&& bA (sB s t) = nI 0)))))))
def fM (p : Nat → Bool) (f : Nat → Nat) (a : Nat) : Nat → Nat
  | 0 => a
  | c + 1 => if p c = true then max (fM p f a c) (f c) else fM p f a c
theorem fM_s (p : Nat → Bool) (f : Nat → Nat) (a c : Nat) : fM p f a (c + 1) = if p c = true then max (fM p f a c) (f c) else fM p f a c := rfl
/-- the most weddings at the last d tables, x taken -/
def wM (n : Inn) (s : St) : Nat → Int32 → Nat
  | 0, _ => 0
  | d + 1, x => fM (fun c => okW n s (nT n - (d + 1)) c x) (fun c => wM n s d (x ||| tk c) + 1) (wM n s d x) 64
theorem wM_0 (n : Inn) (s : St) (x : Int32) : wM n s 0 x = 0 := rfl
theorem wM_s (n : Inn) (s : St) (d : Nat) (x : Int32) : wM n s (d + 1) x = fM (fun c => okW n s (nT n - (d + 1)) c x) (fun c => wM n s d (x ||| tk c) + 1) (wM n s d x) 64 := rfl
/-- the couple that the first of the best rows has there -/
def gP (n : Inn) (s : St) (d : Nat) (x : Int32) (c : Nat) : Bool := okW n s (nT n - (d + 1)) c x && decide (wM n s d (x ||| tk c) + 1 = wM n s (d + 1) x)
def gC (n : Inn) (s : St) (d : Nat) (x : Int32) : Nat := fF (gP n s d x) 64
def rW (n : Inn) (s : St) : Nat → Int32 → Nat → Int32
  | 0, _, _ => jN 1
  | d + 1, x, 0 => if gC n s d x < 64 then nI (gC n s d x) else jN 1
  | d + 1, x, j + 1 => rW n s d (if gC n s d x < 64 then x ||| tk (gC n s d x) else x) j
theorem rW_0 (n : Inn) (s : St) (d : Nat) (x : Int32) : rW n s (d + 1) x 0 = if gC n s d x < 64 then nI (gC n s d x) else jN 1 := rfl
theorem rW_s (n : Inn) (s : St) (d : Nat) (x : Int32) (j : Nat) : rW n s (d + 1) x (j + 1) = rW n s d (if gC n s d x < 64 then x ||| tk (gC n s d x) else x) j := rfl
theorem fM_le {p : Nat → Bool} {f : Nat → Nat} {a m : Nat} (ha : a ≤ m) : ∀ c, (∀ i, i < c → p i = true → f i ≤ m) → fM p f a c ≤ m
  | 0, _ => ha
  | c + 1, h => by
    have ih := fM_le ha c (fun i hi => h i (by omega))
    rw [fM_s]
    by_cases hp : p c = true
    · rw [if_pos hp]
      have := h c (by omega) hp
      omega
    · rw [if_neg hp]; exact ih
theorem fM_ge {p : Nat → Bool} {f : Nat → Nat} {a : Nat} : ∀ c, a ≤ fM p f a c ∧ ∀ i, i < c → p i = true → f i ≤ fM p f a c
  | 0 => ⟨Nat.le_refl _, fun i hi => absurd hi (by omega)⟩
  | c + 1 => by
    obtain ⟨h1, h2⟩ := fM_ge (p := p) (f := f) (a := a) c
    rw [fM_s]
    by_cases hp : p c = true
    · rw [if_pos hp]
      refine ⟨by omega, fun i hi hpi => ?_⟩
      rcases Nat.lt_or_ge i c with h | h
      · have := h2 i h hpi
        omega
      · have : i = c := by omega
        subst this
        omega
    · rw [if_neg hp]
      refine ⟨h1, fun i hi hpi => ?_⟩
      rcases Nat.lt_or_ge i c with h | h
      · exact h2 i h hpi
      · have : i = c := by omega
        subst this
        exact absurd hpi hp
theorem fM_skip {p : Nat → Bool} {f : Nat → Nat} {a c : Nat} : ∀ e, (∀ i, c ≤ i → i < c + e → p i = false) → fM p f a (c + e) = fM p f a c
  | 0, _ => rfl
  | e + 1, h => by
    rw [show c + (e + 1) = c + e + 1 by omega, fM_s, h (c + e) (by omega) (by omega), if_neg (by decide)]
    exact fM_skip e (fun i h1 h2 => h i h1 (by omega))
theorem fM_mx {p : Nat → Bool} {f g : Nat → Nat} {m b w : Nat} (hf : ∀ c, f c = w + g c + 1) : ∀ c, max (fM p f m c) (w + b + 1) = max m (w + fM p g b c + 1)
  | 0 => rfl
  | c + 1 => by
    have ih := fM_mx (p := p) (m := m) (b := b) hf c
    rw [fM_s, fM_s]
    by_cases hp : p c = true
    · rw [if_pos hp, if_pos hp, hf c]
      omega
    · rw [if_neg hp, if_neg hp]; exact ih
theorem wM_le (n : Inn) (s : St) : ∀ d x, wM n s d x ≤ d
  | 0, _ => Nat.le_refl _
  | d + 1, x => by
    rw [wM_s]
    exact fM_le (by have := wM_le n s d x; omega) 64 (fun i _ _ => by have := wM_le n s d (x ||| tk i); omega)
theorem sh8 : ∀ a, a < 8 → sh (nI 1) (nI a) = nI (2 ^ a) := by decide +kernel
def tn (c : Nat) : Nat := 2 ^ (c / 8) ||| 2 ^ (c % 8)
theorem tk_n {c : Nat} (hc : c < 64) : tk c = nI (tn c) := by
  unfold tk tn
  rw [sh8 _ (by omega), sh8 _ (by omega), n_or]
theorem tn_lt {c k : Nat} (hc : c < 64) (hk : k < 256) : k ||| tn c < 256 := by
  have h1 : 2 ^ (c / 8) < 2 ^ 8 := Nat.pow_lt_pow_right (by decide) (by omega)
  have h2 : 2 ^ (c % 8) < 2 ^ 8 := Nat.pow_lt_pow_right (by decide) (by omega)
  exact Nat.or_lt_two_pow (n := 8) hk (Nat.or_lt_two_pow h1 h2)
theorem tk_b {c : Nat} (hc : c < 64) {i : Nat} (hi : i < 32) : bt (tk c) i = (decide (i = c / 8) || decide (i = c % 8)) := by
  unfold tk
  rw [b_or, b_sh (by omega) i hi, b_sh (by omega) i hi]
theorem cT_z (p : Nat → Bool) : ∀ m, cT p m = 0 → ∀ i, i < m → p i = false
  | 0, _, i, hi => absurd hi (by omega)
  | m + 1, h, i, hi => by
    rw [cT_s] at h
    rcases Nat.lt_or_ge i m with h1 | h1
    · exact cT_z p m (by omega) i h1
    · have e : i = m := by omega
      subst e
      refine eq_false_of_ne_true (fun c => ?_)
      rw [if_pos c] at h
      omega
theorem pc_z {x : Int32} (h : lo 10 x) : pc x = 0 ↔ x = nI 0 := by
  constructor
  · intro e
    refine lo_eq 10 h (lo_0 10) (fun i hi => ?_)
    rw [cT_z _ 10 e i hi]
    exact (b_0 i).symm
  · rintro rfl
    exact cT_f _ 10 (fun i _ => b_0 i)
theorem cp_z (f : Nat → Int32) (x y : Int32) : ∀ k, cp f x y k = 0 ↔ ∀ g, g < k → bt x g = true → pc (f g &&& y) = 0
  | 0 => ⟨fun _ g hg => absurd hg (by omega), fun _ => rfl⟩
  | k + 1 => by
    have ih := cp_z f x y k
    show cp f x y k + (if bt x k = true then pc (f k &&& y) else 0) = 0 ↔ _
    constructor
    · intro e g hg hb
      rcases Nat.lt_or_ge g k with h1 | h1
      · exact ih.mp (by omega) g h1 hb
      · have e2 : g = k := by omega
        subst e2
        rw [if_pos hb] at e
        omega
    · intro e
      have h1 := ih.mpr (fun g hg => e g (by omega))
      by_cases hb : bt x k = true
      · rw [if_pos hb, e k (by omega) hb, h1]
      · rw [if_neg hb, h1]
theorem cp_tk {n : Inn} (hw : wI n) {c : Nat} (hc : c < 64) (y : Int32) : decide (cp (nQ n) (tk c) y 8 = 0) = (decide (nQ n (c / 8) &&& y = nI 0) && decide (nQ n (c % 8) &&& y = nI 0)) := by
  have hz : ∀ g, g < 8 → (pc (nQ n g &&& y) = 0 ↔ nQ n g &&& y = nI 0) := fun g hg => pc_z (lo_al y (wI_lo hw hg).1)
  refine Bool.eq_iff_iff.mpr ?_
  rw [Bool.and_eq_true, decide_eq_true_eq, decide_eq_true_eq, decide_eq_true_eq, cp_z]
  constructor
  · intro e
    refine ⟨(hz _ (by omega)).mp (e _ (by omega) ?_), (hz _ (by omega)).mp (e _ (by omega) ?_)⟩
    · rw [tk_b hc (by omega), decide_eq_true rfl, Bool.true_or]
    · rw [tk_b hc (by omega), decide_eq_true (rfl : c % 8 = c % 8), Bool.or_true]
  · rintro ⟨e1, e2⟩ g hg hb
    rw [tk_b hc (by omega), Bool.or_eq_true, decide_eq_true_eq, decide_eq_true_eq] at hb
    rcases hb with rfl | rfl
    · exact (hz _ (by omega)).mpr e1
    · exact (hz _ (by omega)).mpr e2
theorem q_mlov {h : Hp} {n : Inn} (X : MX h n) {g : Nat} (hg : g < 8) {k : Nat} (hk : k < 32) : M_loves h (nI g) (nI k) = some (bI (bt (nL n g) k)) := by
  unfold M_loves
  rw [show (25 : Int32) = nI 25 from rfl, (q_ofG X hg).2, sb, q_has _ hk, sb, if_pos (show bI (bt (nL n g) k) = 0 ∨ bI (bt (nL n g) k) = 1 from of_eq_true (bI_g _))]
theorem q_canWed {h : Hp} {n : Inn} {s : St} (X : MX h n) (hw : wI n) (C : MS h s) (W : wS n s) {t c : Nat} (ht : t < nT n) (hc : c < 64) (x : Int32) : M_canWed h (nI t) (nI c) x = some (bI (okW n s t c x)) := by
  have hT := hw.1
  have hS := (hw.2.2.2.1 t ht).2.1
  have e1 := q_mlov X (show c / 8 < 8 by omega) (show c % 8 < 32 by omega)
  have e2 := q_has x (show c / 8 < 32 by omega)
  have e3 := q_has x (show c % 8 < 32 by omega)
  have e4 := q_isGuest X hw (nI (c % 8))
  rw [iz_nI 0 _ (by omega), show decide (0 ≤ c % 8 ∧ c % 8 < 0 + nG n) = decide (c % 8 < nG n) by congr 1; apply propext; omega] at e4
  have e5 := (q_ofT X hw ht).1
  have e6 := q_mcrowd X hw C W (show t < 5 by omega)
  have e7 := (q_mcoup X hw (tk c) (bA (sB s t))).1
  have e8 := cp_tk hw hc (bA (sB s t))
  have e9 := cp_le (nQ n) (tk c) (bA (sB s t)) 8
  have hh : ∀ s0 : Nat, (s0 = 0 ∨ s0 = 1) → M_canWed_j107 (nI s0) h = some (nI s0) := by
    rintro s0 (rfl | rfl)
    · rfl
    · rfl
  have hj : ∀ b : Bool, M_canWed_j62 (nI t) (nI (c / 8)) (nI (c % 8)) (nI 1) h = some (bI (decide (2 ≤ nS n t) && (decide (nQ n (c / 8) &&& bA (sB s t) = nI 0) && decide (nQ n (c % 8) &&& bA (sB s t) = nI 0)))) := by
    intro _
    unfold M_canWed_j62 M_canWed_j106
    rw [← e8]
    rw [if_neg (show ¬ nI 1 = 0 by decide +kernel), show (0 : Int32) = nI 0 from rfl, e5, sb]
    by_cases c1 : 2 ≤ nS n t
    · rw [if_neg (show ¬ nI (nS n t) ≤ (1 : Int32) from fun e => by rw [i_le, nI_toInt (by omega)] at e; have : (1 : Int32).toInt = 1 := rfl; omega), e6, sb]
      show (M_couples h (tk c) (bA (sB s t)) (nI 17)).bind _ = _
      rw [e7, sb, decide_eq_true c1, Bool.true_and]
      by_cases c2 : cp (nQ n) (tk c) (bA (sB s t)) 8 = 0
      · rw [if_pos (by rw [c2]), decide_eq_true c2]
        exact hh 1 (Or.inr rfl)
      · rw [if_neg (fun e => c2 ((nI_eq (by omega) (by omega)).mp e)), decide_eq_false c2]
        exact hh 0 (Or.inl rfl)
    · rw [if_pos (show nI (nS n t) ≤ (1 : Int32) by rw [i_le, nI_toInt (by omega)]; have : (1 : Int32).toInt = 1 := rfl; omega), decide_eq_false c1, Bool.false_and]
      exact hh 0 (Or.inl rfl)
  have hn : M_canWed_j61 (nI t) (nI (c / 8)) (nI (c % 8)) h = some (bI false) := by
    unfold M_canWed_j61 M_canWed_j62 M_canWed_j106
    rw [if_pos rfl]
    exact hh 0 (Or.inl rfl)
  unfold M_canWed okW
  simp (disch := omega) only [KK, K1, K2, NN, bnd_eq, sb, smr, bI_ite, if_pos, if_neg, if_true, if_false, or_true, true_or, true_and, and_true, g01]
  by_cases d1 : c / 8 < c % 8
  case neg =>
    rw [if_pos (show c % 8 ≤ c / 8 by omega), hn, decide_eq_false d1, Bool.false_and]
  rw [if_neg (show ¬ c % 8 ≤ c / 8 by omega), e4, sb, bI_ite, decide_eq_true d1, Bool.true_and]
  by_cases d2 : c % 8 < nG n
  case neg =>
    rw [decide_eq_false d2, if_neg (by decide), hn, Bool.false_and]
  rw [decide_eq_true d2, if_pos rfl, e1, sb, bI_ite, Bool.true_and]
  cases d3 : bt (nL n (c / 8)) (c % 8)
  case false => rw [if_neg (by decide), hn, Bool.false_and]
  rw [if_pos rfl, e2, sb, bI_ite, Bool.true_and]
  cases d4 : bt x (c / 8)
  case true => rw [if_pos rfl, hn]; rfl
  rw [if_neg (by decide), e3, sb, bI_ite, Bool.not_false, Bool.true_and]
  cases d5 : bt x (c % 8)
  case true => rw [if_pos rfl, hn]; rfl
  rw [if_neg (by decide), hj true]
  rfl
theorem q_tak {c : Nat} (hc : c < 64) : M_taking (nI c) = some (nI (tn c)) := by
  rw [← tk_n hc]
  unfold M_taking tk
  simp (disch := omega) only [KK, K1, K2, NN, bnd_eq, sb, smr, bI_ite, if_pos, if_neg, if_true, if_false, or_true, true_or, true_and, and_true, g01]
def LV (n : Inn) (s : St) (d : Nat) (h : Hp) : Prop := ∀ k, k < 256 → h.1 279 (256 * (nT n - d) + k) = nI (wM n s d (nI k))
def p279 : Nat → Nat → Prop := fun c _ => c = 279
theorem p279_x {h h' : Hp} {n : Inn} {s : St} (F : Fr p279 h h') (X : MX h n) (C : MS h s) : MX h' n ∧ MS h' s := ⟨mx_fr X (fun c i hc => F c i (by show ¬ c = 279; omega)), ms_fr C (fun c i hc => F c i (by show ¬ c = 279; omega))⟩
/-- one cell of the table of weddings -/
theorem q_wed1 {h : Hp} {n : Inn} {s : St} (X : MX h n) (hw : wI n) (C : MS h s) (W : wS n s) {d k : Nat} (hd : d < nT n) (hk : k < 256) (L : LV n s d h) : M_findWeds_l69 (nI (nT n - (d + 1))) (nI k) (nI (wM n s d (nI k))) (0 : Int32) h = M_findWeds_j125 (nI (nT n - (d + 1))) (nI k) (nI (wM n s (d + 1) (nI k))) h := by
  have hT := hw.1
  have ht : nT n - (d + 1) < nT n := by omega
  have e279 : ln 279 = 1536 := by decide +kernel
  have hv : ∀ c, fM (fun c => okW n s (nT n - (d + 1)) c (nI k)) (fun c => wM n s d (nI k ||| tk c) + 1) (wM n s d (nI k)) c ≤ 6 := fun c => fM_le (by have := wM_le n s d (nI k); omega) c (fun i _ _ => by have := wM_le n s d (nI k ||| tk i); omega)
  have ex : ∃ r, M_findWeds_j125 (nI (nT n - (d + 1))) (nI k) (nI (wM n s (d + 1) (nI k))) h = some r := by
    unfold M_findWeds_j125
    simp (disch := omega) only [KK, K1, K2, NN, bnd_eq, sb, smr, bI_ite, if_pos, if_neg, if_true, if_false, or_true, true_or, true_and, and_true, g01, e279]
    exact ⟨_, rfl⟩
  obtain ⟨r, hr⟩ := ex
  rw [hr]
  apply ok_to
  unfold M_findWeds_l69
  refine lp_for _ 64 (fun c q => q = (nI (fM (fun c => okW n s (nT n - (d + 1)) c (nI k)) (fun c => wM n s d (nI k ||| tk c) + 1) (wM n s d (nI k)) c), nI c)) _ ?_ ?_ 0 _ (by omega) rfl
  · rintro c q hc rfl
    have hv1 := hv c
    unfold M_findWeds_b69 M_findWeds_j118
    simp (disch := omega) only [KK, K1, K2, NN, bnd_eq, sb, smr, bI_ite, if_pos, if_neg, if_true, if_false, or_true, true_or, true_and, and_true, g01, q_canWed X hw C W ht hc (nI k)]
    rw [fM_s]
    by_cases ok : okW n s (nT n - (d + 1)) c (nI k) = true
    · have ew := L (k ||| tn c) (tn_lt hc hk)
      have hlt := tn_lt hc hk
      have hwl := wM_le n s d (nI k ||| tk c)
      rw [← n_or, ← tk_n hc] at ew
      rw [if_pos ok, if_pos ok, q_tak hc, sb, n_or]
      rw [show nT n - (d + 1) + 1 = nT n - d by omega]
      simp (disch := omega) only [KK, K1, K2, NN, bnd_eq, sb, smr, bI_ite, if_pos, if_neg, if_true, if_false, or_true, true_or, true_and, and_true, g01, e279, ew, q_gr]
      refine ok_mk ?_
      show _ = _
      rw [show 1 + wM n s d (nI k ||| tk c) = wM n s d (nI k ||| tk c) + 1 by omega]
    · rw [if_neg ok, if_neg ok]
      exact ok_mk rfl
  · rintro q rfl
    unfold M_findWeds_b69
    dsimp only
    rw [if_pos (show (64 : Int32) ≤ nI 64 from of_eq_true (by decide +kernel)), ← wM_s, hr]
    exact okmr (ok_mk rfl)
theorem q_findWeds {h : Hp} {n : Inn} {s : St} (X : MX h n) (hw : wI n) (C : MS h s) (W : wS n s) : Okk (M_findWeds h) (fun h' => (∀ d, d ≤ nT n → LV n s d h') ∧ Fr p279 h h') := by
  have hT := hw.1
  have e279 : ln 279 = 1536 := by decide +kernel
  unfold M_findWeds M_findWeds_l2
  refine lp_for _ 256 (fun k q => q.1 = nI k ∧ (∀ i, i < k → q.2.1 279 (256 * nT n + i) = nI 0) ∧ Fr p279 h q.2) _ ?_ ?_ 0 _ (by omega) ⟨rfl, fun i hi => absurd hi (by omega), fr_rfl⟩
  · rintro k ⟨q1, q2⟩ hk ⟨rfl, hz, F⟩
    dsimp only at hz F
    have hx := (mx_g (p279_x F X C).1).1
    unfold M_findWeds_b2
    dsimp only
    rw [hx]
    simp (disch := omega) only [KK, K1, K2, NN, bnd_eq, sb, smr, bI_ite, if_pos, if_neg, if_true, if_false, or_true, true_or, true_and, and_true, g01, e279]
    refine ok_mk ⟨rfl, ?_, fr_tr F (fr_wr rfl)⟩
    intro i hi
    rcases Nat.lt_or_ge i k with h1 | h1
    · simp (disch := omega) only [KK, K1, K2, NN, bnd_eq, sb, smr, bI_ite, if_pos, if_neg, if_true, if_false, or_true, true_or, true_and, and_true, g01, wr_p, hz i h1]
    · have e : i = k := by omega
      subst e
      exact wr_at _ _ _ _
  rintro ⟨q1, q2⟩ ⟨rfl, hz, F⟩
  dsimp only at hz F
  have hx := (mx_g (p279_x F X C).1).1
  unfold M_findWeds_b2
  dsimp only
  rw [if_pos (show (256 : Int32) ≤ nI 256 from of_eq_true (by decide +kernel))]
  unfold M_findWeds_j31
  rw [hx, bnd_eq]
  refine okmr ?_
  unfold M_findWeds_l38
  refine lp_for _ (nT n) (fun d q => q.1 = nI (nT n - d) + jN 1 ∧ (∀ e, e ≤ d → LV n s e q.2) ∧ Fr p279 h q.2) _ ?_ ?_ 0 _ (by omega) ⟨?_, ?_, F⟩
  · rintro d ⟨r1, r2⟩ hd ⟨rfl, hL, F2⟩
    dsimp only at hL F2
    have e0 : nI (nT n - d) + jN 1 = nI (nT n - (d + 1)) := by
      simp (disch := omega) only [KK, K1, K2, NN, bnd_eq, sb, smr, bI_ite, if_pos, if_neg, if_true, if_false, or_true, true_or, true_and, and_true, g01]
      rw [show nT n - d - 1 = nT n - (d + 1) by omega]
    unfold M_findWeds_b38 M_findWeds_j150
    rw [e0]
    simp (disch := omega) only [KK, K1, K2, NN, bnd_eq, sb, smr, bI_ite, if_pos, if_neg, if_true, if_false, or_true, true_or, true_and, and_true, g01]
    unfold M_findWeds_l44
    refine lp_for _ 256 (fun k q => q.1 = nI k ∧ (∀ e, e ≤ d → LV n s e q.2) ∧ (∀ i, i < k → q.2.1 279 (256 * (nT n - (d + 1)) + i) = nI (wM n s (d + 1) (nI i))) ∧ Fr p279 h q.2) _ ?_ ?_ 0 _ (by omega) ⟨rfl, hL, fun i hi => absurd hi (by omega), F2⟩
    · rintro k ⟨q1, q2⟩ hk ⟨rfl, hL2, hz2, F3⟩
      dsimp only at hL2 hz2 F3
      obtain ⟨X3, C3⟩ := p279_x F3 X C
      have ew := hL2 d (Nat.le_refl _) k hk
      unfold M_findWeds_b44
      dsimp only
      simp (disch := omega) only [KK, K1, K2, NN, bnd_eq, sb, smr, bI_ite, if_pos, if_neg, if_true, if_false, or_true, true_or, true_and, and_true, g01, e279]
      rw [show nT n - (d + 1) + 1 = nT n - d by omega]
      simp (disch := omega) only [KK, K1, K2, NN, bnd_eq, sb, smr, bI_ite, if_pos, if_neg, if_true, if_false, or_true, true_or, true_and, and_true, g01, e279, ew]
      have e1 := q_wed1 X3 hw C3 W hd hk (hL2 d (Nat.le_refl _))
      rw [show (0 : Int32) = nI 0 from rfl] at e1
      rw [e1]
      unfold M_findWeds_j125
      simp (disch := omega) only [KK, K1, K2, NN, bnd_eq, sb, smr, bI_ite, if_pos, if_neg, if_true, if_false, or_true, true_or, true_and, and_true, g01, e279]
      refine ok_mk ⟨rfl, ?_, ?_, fr_tr F3 (fr_wr rfl)⟩
      · intro e he i hi
        simp (disch := omega) only [KK, K1, K2, NN, bnd_eq, sb, smr, bI_ite, if_pos, if_neg, if_true, if_false, or_true, true_or, true_and, and_true, g01, wr_p]
        exact hL2 e he i hi
      · intro i hi
        rcases Nat.lt_or_ge i k with h1 | h1
        · simp (disch := omega) only [KK, K1, K2, NN, bnd_eq, sb, smr, bI_ite, if_pos, if_neg, if_true, if_false, or_true, true_or, true_and, and_true, g01, wr_p]
          exact hz2 i h1
        · have e : i = k := by omega
          subst e
          exact wr_at _ _ _ _
    · rintro ⟨q1, q2⟩ ⟨rfl, hL2, hz2, F3⟩
      dsimp only at hL2 hz2 F3
      unfold M_findWeds_b44 M_findWeds_j144
      dsimp only
      rw [if_pos (show (256 : Int32) ≤ nI 256 from of_eq_true (by decide +kernel))]
      refine okmr (ok_mk ⟨rfl, ?_, F3⟩)
      intro e he
      rcases Nat.lt_or_ge e (d + 1) with h1 | h1
      · exact hL2 e (by omega)
      · have e : e = d + 1 := by omega
        subst e
        exact hz2
  · rintro ⟨r1, r2⟩ ⟨rfl, hL, F2⟩
    dsimp only at hL F2
    unfold M_findWeds_b38 M_findWeds_j150
    dsimp only
    rw [Nat.sub_self, if_pos (show nI 0 + jN 1 < 0 from of_eq_true (by decide +kernel))]
    exact okmr (ok_mk ⟨hL, F2⟩)
  · show nI (nT n) - (1 : Int32) = nI (nT n) + jN 1
    rw [Int32.sub_eq_add_neg]
    rfl
  · intro e he
    have e0 : e = 0 := by omega
    subst e0
    exact hz
