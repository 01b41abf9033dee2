/-! ===== L3: the model's tables ===== -/
theorem lnm : ln 252 = 2400 ∧ ln 253 = 4 ∧ ln 254 = 4 ∧ ln 255 = 4 ∧ ln 256 = 16 ∧ ln 257 = 264 ∧ ln 258 = 968 ∧ ln 259 = 248 ∧ ln 260 = 64 ∧ ln 261 = 121 ∧ ln 262 = 3 ∧ ln 263 = 80 ∧ ln 264 = 80 ∧ ln 265 = 80 ∧ ln 266 = 5 ∧ ln 267 = 5 ∧ ln 268 = 5 ∧ ln 269 = 5 ∧ ln 270 = 8 ∧ ln 271 = 8 ∧ ln 272 = 64 ∧ ln 273 = 8 ∧ ln 274 = 8 ∧ ln 275 = 5 ∧ ln 276 = 8 ∧ ln 277 = 8 ∧ ln 278 = 256 ∧ ln 279 = 1536 ∧ ln 280 = 3 := by decide +kernel
def pm (t : Nat) : Nat → Nat → Prop := fun c i => (263 ≤ c ∧ c ≤ 265 ∧ 16 * t ≤ i ∧ i < 16 * t + 16) ∨ (266 ≤ c ∧ c ≤ 269 ∧ i = t)
def pms : Nat → Nat → Prop := fun c i => (c = 251 ∧ 38 ≤ i ∧ i ≤ 40) ∨ (263 ≤ c ∧ c ≤ 273)
theorem pm_pms {t : Nat} : ∀ c i, pm t c i → pms c i := by
  intro c i hc
  have hc' : (263 ≤ c ∧ c ≤ 265 ∧ 16 * t ≤ i ∧ i < 16 * t + 16) ∨ (266 ≤ c ∧ c ≤ 269 ∧ i = t) := hc
  show (c = 251 ∧ 38 ≤ i ∧ i ≤ 40) ∨ (263 ≤ c ∧ c ≤ 273)
  omega
theorem pm_fr {t : Nat} {h h' : Hp} (F : Fr (pm t) h h') {c i : Nat} (hc : ¬ ((263 ≤ c ∧ c ≤ 265 ∧ 16 * t ≤ i ∧ i < 16 * t + 16) ∨ (266 ≤ c ∧ c ≤ 269 ∧ i = t))) : h'.1 c i = h.1 c i := F c i hc
theorem pms_fr {h h' : Hp} (F : Fr pms h h') {c i : Nat} (hc : ¬ ((c = 251 ∧ 38 ≤ i ∧ i ≤ 40) ∨ (263 ≤ c ∧ c ≤ 273))) : h'.1 c i = h.1 c i := F c i hc
theorem mb_fr {h h' : Hp} {t : Nat} {x : Bn} (H : MB h t x) (hl : bL x ≤ 16) (hf : ∀ c i, (263 ≤ c ∧ c ≤ 265 ∧ 16 * t ≤ i ∧ i < 16 * t + 16) ∨ (266 ≤ c ∧ c ≤ 269 ∧ i = t) → h'.1 c i = h.1 c i) : MB h' t x := by
  obtain ⟨h3, h4, h5, h6, hR⟩ := H
  refine ⟨by rw [hf 266 t (by omega), h3], by rw [hf 267 t (by omega), h4], by rw [hf 268 t (by omega), h5], by rw [hf 269 t (by omega), h6], ?_⟩
  intro i hi
  obtain ⟨e1, e2, e3⟩ := hR i hi
  exact ⟨by rw [hf _ _ (by omega), e1], by rw [hf _ _ (by omega), e2], by rw [hf _ _ (by omega), e3]⟩
theorem mx_fr {h h' : Hp} {n : Inn} (H : MX h n) (hf : ∀ c i, (c = 251 ∧ 23 ≤ i ∧ i ≤ 25) ∨ c = 257 → h'.1 c i = h.1 c i) : MX h' n := by
  obtain ⟨k, hk, h3, h4, h5, hT, hG, hR, hQ⟩ := H
  refine ⟨k, hk, by rw [hf 251 23 (by omega), h3], by rw [hf 251 24 (by omega), h4], by rw [hf 251 25 (by omega), h5], by rw [hf 257 _ (by omega), hT], by rw [hf 257 _ (by omega), hG], ?_, ?_⟩
  · intro t ht
    obtain ⟨e1, e2, e3⟩ := hR t ht
    exact ⟨by rw [hf _ _ (by omega), e1], by rw [hf _ _ (by omega), e2], by rw [hf _ _ (by omega), e3]⟩
  · intro g hg
    obtain ⟨e1, e2⟩ := hQ g hg
    exact ⟨by rw [hf _ _ (by omega), e1], by rw [hf _ _ (by omega), e2]⟩
theorem mx_st {h h' : Hp} {n : Inn} (H : MX h n) (F : Fr pms h h') : MX h' n := mx_fr H (fun c i hc => pms_fr F (by omega))
theorem q_ofT {h : Hp} {n : Inn} (H : MX h n) (hw : wI n) {t : Nat} (ht : t < nT n) : M_ofTable h (nI t) (nI 0) = some (nI (nS n t)) ∧ M_ofTable h (nI t) (nI 1) = some (nI (nK n t)) ∧ M_ofTable h (nI t) (nI 2) = some (nP n t) := by
  obtain ⟨k, hk, h3, h4, h5, hT, hG, hR, hQ⟩ := H
  have hn := hw.1
  obtain ⟨e1, e2, e3⟩ := hR t ht
  have e1' : h.1 257 (33 * k + (2 + 3 * t + 0)) = nI (nS n t) := e1
  unfold M_ofTable M_of
  rw [h3]
  simp (disch := omega) only [KK, K1, K2, NN, bnd_eq, sb, smr, bI_ite, if_pos, if_neg, if_true, if_false, or_true, true_or, true_and, and_true, g01, lnm, e1', e2, e3]
theorem q_ofG {h : Hp} {n : Inn} (H : MX h n) {g : Nat} (hg : g < 8) : M_of h (nI 17 + nI g) = some (nQ n g) ∧ M_of h (nI 25 + nI g) = some (nL n g) := by
  obtain ⟨k, hk, h3, h4, h5, hT, hG, hR, hQ⟩ := H
  obtain ⟨e1, e2⟩ := hQ g hg
  unfold M_of
  rw [h3]
  simp (disch := omega) only [KK, K1, K2, NN, bnd_eq, sb, smr, bI_ite, if_pos, if_neg, if_true, if_false, or_true, true_or, true_and, and_true, g01, lnm, e1, e2]
theorem q_isTable {h : Hp} {n : Inn} (H : MX h n) (hw : wI n) (x : Int32) : M_isTable h x = some (bI (iz x 0 (nT n))) := by
  obtain ⟨k, hk, h3, h4, h5, -⟩ := H
  have hn := hw.1
  unfold M_isTable
  rw [h4, show (0 : Int32) = nI 0 from rfl, show (1 : Int32) = nI 1 from rfl, q_in0 x (by omega), sb]
  simp only [bI_g, if_true]
theorem q_isGuest {h : Hp} {n : Inn} (H : MX h n) (hw : wI n) (x : Int32) : M_isGuest h x = some (bI (iz x 0 (nG n))) := by
  obtain ⟨k, hk, h3, h4, h5, -⟩ := H
  have hn := hw.2.2.1
  unfold M_isGuest
  rw [h5, show (0 : Int32) = nI 0 from rfl, show (1 : Int32) = nI 1 from rfl, q_in0 x (by omega), sb]
  simp only [bI_g, if_true]
/-! couples, counted one by one -/
def cm (f : Nat → Int32) (x y : Int32) (m : Nat) : Nat → Nat
  | 0 => 0
  | k + 1 => cm f x y m k + cT (fun b => bt x k && (bt y b && bt (f k) b)) m
theorem cm_le (f : Nat → Int32) (x y : Int32) (m : Nat) : ∀ k, cm f x y m k ≤ m * k
  | 0 => Nat.zero_le _
  | k + 1 => by
    have h1 := cm_le f x y m k
    have h2 := cT_le (fun b => bt x k && (bt y b && bt (f k) b)) m
    show cm f x y m k + cT (fun b => bt x k && (bt y b && bt (f k) b)) m ≤ m * (k + 1)
    rw [Nat.mul_succ]
    omega
theorem cT_ext (p : Nat → Bool) {m : Nat} : ∀ d, (∀ i, m ≤ i → p i = false) → cT p (m + d) = cT p m
  | 0, _ => rfl
  | d + 1, h => by
    rw [show m + (d + 1) = (m + d) + 1 by omega, cT_s, cT_ext p d h, h (m + d) (by omega), if_neg (by decide)]
    rfl
theorem cT_f (p : Nat → Bool) : ∀ m, (∀ i, i < m → p i = false) → cT p m = 0
  | 0, _ => rfl
  | m + 1, h => by rw [cT_s, cT_f p m (fun i hi => h i (by omega)), h m (by omega), if_neg (by decide)]
theorem cm_cp (f : Nat → Int32) (x y : Int32) {m : Nat} (hm : m ≤ 8) (hlo : ∀ g, g < 8 → lo m (f g)) : ∀ k, k ≤ 8 → cm f x y m k = cp f x y k
  | 0, _ => rfl
  | k + 1, hk => by
    show cm f x y m k + cT (fun b => bt x k && (bt y b && bt (f k) b)) m = cp f x y k + (if bt x k = true then pc (f k &&& y) else 0)
    rw [cm_cp f x y hm hlo k (by omega)]
    congr 1
    by_cases h : bt x k = true
    · rw [if_pos h]
      unfold pc
      rw [show (10 : Nat) = m + (10 - m) by omega, cT_ext _ _ (fun i hi => lo_al y (hlo k (by omega)) i hi)]
      apply cT_cg
      intro i hi
      rw [h, b_and, Bool.true_and, Bool.and_comm]
    · rw [if_neg h]
      apply cT_f
      intro i hi
      rw [eq_false_of_ne_true h, Bool.false_and]
theorem cp_cut (f : Nat → Int32) (x y : Int32) {m : Nat} : ∀ d, (∀ g, m ≤ g → g < m + d → f g = nI 0) → cp f x y (m + d) = cp f x y m
  | 0, _ => rfl
  | d + 1, h => by
    show cp f x y (m + d) + (if bt x (m + d) = true then pc (f (m + d) &&& y) else 0) = _
    rw [cp_cut f x y d (fun g h1 h2 => h g h1 (by omega)), h (m + d) (by omega) (by omega)]
    have e : pc (nI 0 &&& y) = 0 := by
      unfold pc
      apply cT_f
      intro i hi
      rw [b_and, show bt (nI 0) i = false from b_0 i, Bool.false_and]
    rw [e]
    split <;> rfl
theorem wI_z {n : Inn} (hw : wI n) {g : Nat} (h1 : nG n ≤ g) (h2 : g < 8) : nQ n g = nI 0 ∧ nL n g = nI 0 := by
  obtain ⟨a1, a2, -, -, a5⟩ := hw.2.2.2.2 g h2
  have hG := hw.2.2.1
  refine ⟨lo_eq 8 (lo_mo a1 hG) (lo_0 8) ?_, lo_eq 8 (lo_mo a2 hG) (lo_0 8) ?_⟩
  · intro i hi
    rw [(a5 i hi).1, (hw.2.2.2.2 i hi).1 g h1]
    exact (b_0 i).symm
  · intro i hi
    rw [(a5 i hi).2, (hw.2.2.2.2 i hi).2.1 g h1]
    exact (b_0 i).symm
theorem q_mcoup {h : Hp} {n : Inn} (H : MX h n) (hw : wI n) (x y : Int32) : M_couples h x y (nI 17) = some (nI (cp (nQ n) x y 8)) ∧ M_couples h x y (nI 25) = some (nI (cp (nL n) x y 8)) := by
  have hG := hw.2.2.1
  obtain ⟨kk, hkk, h3, h4, h5, -⟩ := id H
  have key : ∀ (r : Int32) (f : Nat → Int32), (∀ g, g < 8 → M_of h (r + nI g) = some (f g)) → (∀ g, g < 8 → lo (nG n) (f g)) → (∀ g, nG n ≤ g → g < 8 → f g = nI 0) → M_couples h x y r = some (nI (cp f x y 8)) := by
    intro r f hr hlo hz
    rw [show (8 : Nat) = nG n + (8 - nG n) by omega, cp_cut f x y (8 - nG n) (fun g h1 h2 => hz g h1 (by omega)), ← cm_cp f x y hG hlo _ hG]
    apply ok_to
    unfold M_couples M_couples_l6
    refine lp_for _ (nG n) (fun k s => s = (nI (cm f x y (nG n) k), nI k)) _ ?_ ?_ 0 _ (by omega) rfl
    · rintro k s hk rfl
      have hc := cm_le f x y (nG n) k
      have hc2 : cm f x y (nG n) k ≤ 64 := Nat.le_trans hc (by have e8 := Nat.mul_le_mul hG (show k ≤ 8 by omega); exact e8)
      unfold M_couples_b6
      rw [h5]
      simp (disch := omega) only [KK, K1, K2, NN, bnd_eq, sb, smr, bI_ite, if_pos, if_neg, if_true, if_false, or_true, true_or, true_and, and_true, g01]
      unfold M_couples_l18
      refine lp_for _ (nG n) (fun j s => s = (nI (cm f x y (nG n) k + cT (fun b => bt x k && (bt y b && bt (f k) b)) j), nI j)) _ ?_ ?_ 0 _ (by omega) rfl
      · rintro j s hj rfl
        have hc3 := cT_le (fun b => bt x k && (bt y b && bt (f k) b)) j
        unfold M_couples_b18 M_couples_j67 M_couples_j68
        rw [h5]
        simp (disch := omega) only [KK, K1, K2, NN, bnd_eq, sb, smr, bI_ite, if_pos, if_neg, if_true, if_false, or_true, true_or, true_and, and_true, g01, q_has x (show k < 32 by omega), q_has y (show j < 32 by omega), hr k (by omega), q_has (f k) (show j < 32 by omega)]
        show Okk _ (Sum.elim (fun s => s = (nI (cm f x y (nG n) k + (cT (fun b => bt x k && (bt y b && bt (f k) b)) j + (if (bt x k && (bt y j && bt (f k) j)) = true then 1 else 0))), nI (j + 1))) _)
        cases bt x k <;> cases bt y j <;> cases bt (f k) j <;> exact ok_mk rfl
      · rintro s rfl
        unfold M_couples_b18 M_couples_j77
        rw [h5]
        simp (disch := omega) only [KK, K1, K2, NN, bnd_eq, sb, smr, bI_ite, if_pos, if_neg, if_true, if_false, or_true, true_or, true_and, and_true, g01]
        exact ⟨_, rfl, rfl⟩
    · rintro s rfl
      unfold M_couples_b6 M_couples_j83
      rw [h5]
      simp (disch := omega) only [KK, K1, K2, NN, bnd_eq, sb, smr, bI_ite, if_pos, if_neg, if_true, if_false, or_true, true_or, true_and, and_true, g01]
      exact ⟨_, rfl, rfl⟩
  exact ⟨key (nI 17) (nQ n) (fun g hg => (q_ofG H hg).1) (fun g hg => (hw.2.2.2.2 g hg).1) (fun g h1 h2 => (wI_z hw h1 h2).1), key (nI 25) (nL n) (fun g hg => (q_ofG H hg).2) (fun g hg => (hw.2.2.2.2 g hg).2.1) (fun g h1 h2 => (wI_z hw h1 h2).2)⟩
/-! rows -/
def mv (h : Hp) (t i u j : Nat) : Hp := wr (wr (wr h 263 (16 * u + j) (h.1 263 (16 * t + i))) 264 (16 * u + j) (h.1 264 (16 * t + i))) 265 (16 * u + j) (h.1 265 (16 * t + i))
theorem q_move (h : Hp) {t i u j : Nat} (ht : t < 5) (hu : u < 5) (hi : i < 16) (hj : j < 16) : M_movePast h (nI t) (nI i) (nI u) (nI j) = some (mv h t i u j) := by
  unfold M_movePast mv
  simp (disch := omega) only [KK, K1, K2, NN, bnd_eq, sb, smr, bI_ite, if_pos, if_neg, if_true, if_false, or_true, true_or, true_and, and_true, g01, wr_at, wr_c, wr_p, lnm]
theorem mv_o (h : Hp) (t i u j : Nat) {c k : Nat} (hc : c < 263 ∨ 265 < c ∨ k ≠ 16 * u + j) : (mv h t i u j).1 c k = h.1 c k := by
  unfold mv
  rcases hc with hc | hc | hc
  · simp (disch := omega) only [KK, K1, K2, NN, bnd_eq, sb, smr, bI_ite, if_pos, if_neg, if_true, if_false, or_true, true_or, true_and, and_true, g01, wr_at, wr_c, wr_p, ]
  · simp (disch := omega) only [KK, K1, K2, NN, bnd_eq, sb, smr, bI_ite, if_pos, if_neg, if_true, if_false, or_true, true_or, true_and, and_true, g01, wr_at, wr_c, wr_p, ]
  · simp (disch := omega) only [KK, K1, K2, NN, bnd_eq, sb, smr, bI_ite, if_pos, if_neg, if_true, if_false, or_true, true_or, true_and, and_true, g01, wr_at, wr_c, wr_p, ]
theorem mv_at (h : Hp) (t i u j : Nat) : (mv h t i u j).1 263 (16 * u + j) = h.1 263 (16 * t + i) ∧ (mv h t i u j).1 264 (16 * u + j) = h.1 264 (16 * t + i) ∧ (mv h t i u j).1 265 (16 * u + j) = h.1 265 (16 * t + i) := by
  unfold mv
  refine ⟨?_, ?_, ?_⟩
  · simp (disch := omega) only [KK, K1, K2, NN, bnd_eq, sb, smr, bI_ite, if_pos, if_neg, if_true, if_false, or_true, true_or, true_and, and_true, g01, wr_at, wr_c, wr_p, ]
  · simp (disch := omega) only [KK, K1, K2, NN, bnd_eq, sb, smr, bI_ite, if_pos, if_neg, if_true, if_false, or_true, true_or, true_and, and_true, g01, wr_at, wr_c, wr_p, ]
  · simp (disch := omega) only [KK, K1, K2, NN, bnd_eq, sb, smr, bI_ite, if_pos, if_neg, if_true, if_false, or_true, true_or, true_and, and_true, g01, wr_at, wr_c, wr_p, ]
theorem mv_pm {h : Hp} {t i u j : Nat} (hj : j < 16) : Fr (pm u) h (mv h t i u j) := by
  intro c k hc
  have hc' : ¬ ((263 ≤ c ∧ c ≤ 265 ∧ 16 * u ≤ k ∧ k < 16 * u + 16) ∨ (266 ≤ c ∧ c ≤ 269 ∧ k = u)) := hc
  exact mv_o h t i u j (by omega)
theorem q_less {h : Hp} {n : Inn} {t : Nat} {x : Bn} (H : MX h n) (hw : wI n) (ht : t < nT n) (B : MB h t x) (hl : bL x ≤ 12) (hu : bU x ≤ 12) : Okk (M_lessens h (nI t)) (fun r => MB r.2 t (bKp x (nK n t)) ∧ Fr (pm t) h r.2) := by
  have hn := hw.1
  have hK := hw.2.2.2.1 t ht
  obtain ⟨h3, h4, h5, h6, hR⟩ := B
  have e := (q_ofT H hw ht).2.1
  unfold M_lessens
  simp (disch := omega) only [KK, K1, K2, NN, bnd_eq, sb, smr, bI_ite, if_pos, if_neg, if_true, if_false, or_true, true_or, true_and, and_true, g01, lnm, e, h3, q_gs]
  generalize hd : bL x - nK n t = d
  unfold M_lessens_l20
  refine lp_for _ (bL x - d) (fun k q => q.1 = nI k ∧ Fr (pm t) h q.2 ∧ q.2.1 266 t = nI (bL x) ∧ q.2.1 267 t = nI (bU x) ∧ q.2.1 268 t = bS x ∧ q.2.1 269 t = bW x ∧ ∀ j, j < bL x → q.2.1 263 (16 * t + j) = (bR x (if j < k then j + d else j)).1 ∧ q.2.1 264 (16 * t + j) = (bR x (if j < k then j + d else j)).2.1 ∧ q.2.1 265 (16 * t + j) = (bR x (if j < k then j + d else j)).2.2) _ ?_ ?_ 0 _ (by omega) ?_
  · rintro k ⟨q1, q2⟩ hk ⟨rfl, hF, g3, g4, g5, g6, g7⟩
    dsimp only at hF g3 g4 g5 g6 g7 ⊢
    obtain ⟨e1, e2, e3⟩ := g7 (k + d) (by omega)
    rw [if_neg (by omega)] at e1 e2 e3
    unfold M_lessens_b20
    simp (disch := omega) only [KK, K1, K2, NN, bnd_eq, sb, smr, bI_ite, if_pos, if_neg, if_true, if_false, or_true, true_or, true_and, and_true, g01, lnm, g3, q_move]
    obtain ⟨a1, a2, a3⟩ := mv_at q2 t (k + d) t k
    refine ok_mk ⟨rfl, fr_tr hF (mv_pm (by omega)), ?_, ?_, ?_, ?_, ?_⟩
    · rw [mv_o _ _ _ _ _ (by omega), g3]
    · rw [mv_o _ _ _ _ _ (by omega), g4]
    · rw [mv_o _ _ _ _ _ (by omega), g5]
    · rw [mv_o _ _ _ _ _ (by omega), g6]
    · intro j hj
      by_cases ej : j = k
      · subst ej
        rw [if_pos (by omega), a1, a2, a3]
        exact ⟨e1, e2, e3⟩
      · rw [mv_o _ _ _ _ _ (by omega), mv_o _ _ _ _ _ (by omega), mv_o _ _ _ _ _ (by omega)]
        rw [show (if j < k + 1 then j + d else j) = (if j < k then j + d else j) by
          by_cases h5 : j < k
          · rw [if_pos h5, if_pos (by omega)]
          · rw [if_neg h5, if_neg (by omega)]]
        exact g7 j hj
  · rintro ⟨q1, q2⟩ ⟨rfl, hF, g3, g4, g5, g6, g7⟩
    dsimp only at hF g3 g4 g5 g6 g7 ⊢
    unfold M_lessens_b20 M_lessens_j48
    simp (disch := omega) only [KK, K1, K2, NN, bnd_eq, sb, smr, bI_ite, if_pos, if_neg, if_true, if_false, or_true, true_or, true_and, and_true, g01, wr_at, wr_c, wr_p, lnm, g3, g4, q_gs]
    refine ok_mk ⟨⟨?_, ?_, ?_, ?_, ?_⟩, ?_⟩
    · unfold bKp
      simp (disch := omega) only [KK, K1, K2, NN, bnd_eq, sb, smr, bI_ite, if_pos, if_neg, if_true, if_false, or_true, true_or, true_and, and_true, g01, wr_at, wr_c, wr_p, hd]; rfl
    · unfold bKp
      simp (disch := omega) only [KK, K1, K2, NN, bnd_eq, sb, smr, bI_ite, if_pos, if_neg, if_true, if_false, or_true, true_or, true_and, and_true, g01, wr_at, wr_c, wr_p, hd]; rfl
    · simp (disch := omega) only [KK, K1, K2, NN, bnd_eq, sb, smr, bI_ite, if_pos, if_neg, if_true, if_false, or_true, true_or, true_and, and_true, g01, wr_at, wr_c, wr_p, g5]; rfl
    · simp (disch := omega) only [KK, K1, K2, NN, bnd_eq, sb, smr, bI_ite, if_pos, if_neg, if_true, if_false, or_true, true_or, true_and, and_true, g01, wr_at, wr_c, wr_p, g6]; rfl
    · intro j hj
      have hj' : j < bL x - (bL x - nK n t) := hj
      rw [hd] at hj'
      obtain ⟨f1, f2, f3⟩ := g7 j (by omega)
      rw [if_pos (by omega)] at f1 f2 f3
      unfold bKp
      rw [hd]
      simp (disch := omega) only [KK, K1, K2, NN, bnd_eq, sb, smr, bI_ite, if_pos, if_neg, if_true, if_false, or_true, true_or, true_and, and_true, g01, wr_at, wr_c, wr_p, ]
      exact ⟨f1, f2, f3⟩
    · refine fr_tr (fr_tr hF (fr_wr (Or.inr ⟨by omega, by omega, rfl⟩))) (fr_wr (Or.inr ⟨by omega, by omega, rfl⟩))
  · refine ⟨rfl, fr_rfl, h3, h4, h5, h6, ?_⟩
    intro j hj
    rw [if_neg (by omega)]
    exact hR j hj
theorem q_becomes {h : Hp} {n : Inn} {t : Nat} {x : Bn} (H : MX h n) (hw : wI n) (ht : t < nT n) (B : MB h t x) (hl : bL x ≤ 11) (hu : bU x ≤ 12) : Okk (M_becomesPast h (nI t)) (fun h' => MB h' t (bSt (bKp (bAp x (bS x, bW x, h.1 251 38)) (nK n t)) (nI 0) (nI 0)) ∧ Fr (pm t) h h') := by
  have hn := hw.1
  obtain ⟨h3, h4, h5, h6, hR⟩ := B
  unfold M_becomesPast
  simp (disch := omega) only [KK, K1, K2, NN, bnd_eq, sb, smr, bI_ite, if_pos, if_neg, if_true, if_false, or_true, true_or, true_and, and_true, g01, wr_at, wr_c, wr_p, lnm, h3, h5, h6]
  generalize hm : wr (wr (wr (wr (wr (wr h 263 (16 * t + bL x) (bS x)) 264 (16 * t + bL x) (bW x)) 265 (16 * t + bL x) (h.1 251 38)) 266 t (nI (bL x + 1))) 268 t (nI 0)) 269 t (nI 0) = m
  have Fm : Fr (pm t) h m := by
    rw [← hm]
    refine fr_tr (fr_tr (fr_tr (fr_tr (fr_tr (fr_wr (Or.inl ?_)) (fr_wr (Or.inl ?_))) (fr_wr (Or.inl ?_))) (fr_wr (Or.inr ?_))) (fr_wr (Or.inr ?_))) (fr_wr (Or.inr ?_)) <;> omega
  have Bm : MB m t (bSt (bAp x (bS x, bW x, h.1 251 38)) (nI 0) (nI 0)) := by
    rw [← hm]
    refine ⟨?_, ?_, ?_, ?_, ?_⟩
    · simp (disch := omega) only [KK, K1, K2, NN, bnd_eq, sb, smr, bI_ite, if_pos, if_neg, if_true, if_false, or_true, true_or, true_and, and_true, g01, wr_at, wr_c, wr_p, ]; rfl
    · simp (disch := omega) only [KK, K1, K2, NN, bnd_eq, sb, smr, bI_ite, if_pos, if_neg, if_true, if_false, or_true, true_or, true_and, and_true, g01, wr_at, wr_c, wr_p, h4]; rfl
    · simp (disch := omega) only [KK, K1, K2, NN, bnd_eq, sb, smr, bI_ite, if_pos, if_neg, if_true, if_false, or_true, true_or, true_and, and_true, g01, wr_at, wr_c, wr_p, ]; rfl
    · simp (disch := omega) only [KK, K1, K2, NN, bnd_eq, sb, smr, bI_ite, if_pos, if_neg, if_true, if_false, or_true, true_or, true_and, and_true, g01, wr_at, wr_c, wr_p, ]; rfl
    · intro i hi
      have hi' : i < bL x + 1 := hi
      show _ = (up (bR x) (bL x) (bS x, bW x, h.1 251 38) i).1 ∧ _ = (up (bR x) (bL x) (bS x, bW x, h.1 251 38) i).2.1 ∧ _ = (up (bR x) (bL x) (bS x, bW x, h.1 251 38) i).2.2
      by_cases e : i = bL x
      · subst e
        rw [up_at]
        simp (disch := omega) only [KK, K1, K2, NN, bnd_eq, sb, smr, bI_ite, if_pos, if_neg, if_true, if_false, or_true, true_or, true_and, and_true, g01, wr_at, wr_c, wr_p, ]
      · rw [up_ne _ _ e]
        obtain ⟨e1, e2, e3⟩ := hR i (by omega)
        simp (disch := omega) only [KK, K1, K2, NN, bnd_eq, sb, smr, bI_ite, if_pos, if_neg, if_true, if_false, or_true, true_or, true_and, and_true, g01, wr_at, wr_c, wr_p, e1, e2, e3]
  have Hm : MX m n := mx_st H (fr_mo Fm pm_pms)
  refine okb (q_less Hm hw ht Bm (show bL x + 1 ≤ 12 by omega) hu) ?_
  rintro ⟨r1, r2⟩ ⟨B2, F2⟩
  exact ok_mk ⟨B2, fr_tr Fm F2⟩
