/-! ===== L3: states, what a sitting does ===== -/
def sMk (b : Nat → Bn) (hh p m d : Nat → Int32) (n f j : Int32) : St := (b, hh, p, m, d, n, f, j)
/-- the least place below k where p is, else k -/
def fF (p : Nat → Bool) : Nat → Nat
  | 0 => 0
  | k + 1 => if fF p k < k then fF p k else if p k = true then k else k + 1
theorem fF_s (p : Nat → Bool) (k : Nat) : fF p (k + 1) = if fF p k < k then fF p k else if p k = true then k else k + 1 := rfl
theorem fF_le (p : Nat → Bool) : ∀ k, fF p k ≤ k
  | 0 => Nat.le_refl _
  | k + 1 => by
    have := fF_le p k
    rw [fF_s]
    split
    · omega
    · split <;> omega
theorem fF_at (p : Nat → Bool) : ∀ k, fF p k < k → p (fF p k) = true
  | 0, h => absurd h (Nat.not_lt_zero _)
  | k + 1, h => by
    rw [fF_s] at h ⊢
    by_cases h1 : fF p k < k
    · rw [if_pos h1]
      exact fF_at p k h1
    · rw [if_neg h1] at h ⊢
      by_cases h2 : p k = true
      · rw [if_pos h2]
        exact h2
      · rw [if_neg h2] at h
        omega
theorem fF_no (p : Nat → Bool) : ∀ k i, i < fF p k → p i = false
  | 0, i, h => absurd h (Nat.not_lt_zero _)
  | k + 1, i, h => by
    rw [fF_s] at h
    by_cases h1 : fF p k < k
    · rw [if_pos h1] at h
      exact fF_no p k i h
    · have h3 := fF_le p k
      rw [if_neg h1] at h
      by_cases h2 : p k = true
      · rw [if_pos h2] at h
        exact fF_no p k i (by omega)
      · rw [if_neg h2] at h
        rcases Nat.lt_or_ge i k with h4 | h4
        · exact fF_no p k i (by omega)
        · have : i = k := by omega
          subst this
          cases e : p i
          · rfl
          · exact absurd e h2
theorem fF_cg {p q : Nat → Bool} : ∀ k, (∀ i, i < k → p i = q i) → fF p k = fF q k
  | 0, _ => rfl
  | k + 1, h => by rw [fF_s, fF_s, fF_cg k (fun i hi => h i (by omega)), h k (by omega)]
def seatAll (s : St) : Int32 := oT (fun t => bS (sB s t)) 5
def dP (who gh pr : Int32) (f : Nat → Int32) (g : Nat) : Int32 := if g = fF (bt who) 8 then aT (if bt who g = true then f g + pr else f g) pr (bt gh) 8 else if bt who g = true then f g + pr else f g
def dD (who gh pr : Int32) (f : Nat → Int32) (i : Nat) : Int32 := if i / 8 = fF (bt who) 8 ∧ bt gh (i % 8) = true then f i + (if i % 8 = fF (bt who) 8 then nI 0 else pr) else f i
def dH (who wd : Int32) (f : Nat → Int32) (g : Nat) : Int32 := if bt who g = true then f g ||| wd else f g
def dM (who gh : Int32) (f : Nat → Int32) (g : Nat) : Int32 := f g ||| ((if bt who g = true then who ||| gh else if bt gh g = true then who else nI 0) &&& (sh (nI 1) (nI g) ^^^ jN 1))
def sitB (x : Bn) (who : Int32) : Bn := bTn (bSt x who (bW x))
def dSit (n : Inn) (s : St) (t : Nat) (who : Int32) : St := sMk (up (sB s) t (sitB (sB s t) who)) (dH who (bV (sB s t)) (sH s)) (dP who (bG (sB s t)) (nP n t) (sP s)) (dM who (bG (sB s t)) (sM s)) (dD who (bG (sB s t)) (nP n t) (sD s)) (sN s) (sF s + nI (cp (nQ n) who (bG (sB s t)) 8)) (sJ s + nI (cp (nL n) who (bG (sB s t)) 8))
def okSit (n : Inn) (s : St) (t : Nat) (who : Int32) : Bool := decide (t < nT n) && (decide (bS (sB s t) = nI 0) && (decide (sr who (nI (nG n)) = nI 0) && (decide (who &&& seatAll s = nI 0) && decide (pc who ≤ nS n t))))
/-- what the state's methods may change -/
def pst : Nat → Nat → Prop := fun c i => (c = 57 ∧ 7 ≤ i ∧ i ≤ 9) ∨ (59 ≤ c ∧ c ≤ 62) ∨ (70 ≤ c ∧ c < 90)
theorem ln_st : ln 58 = 5 ∧ ln 59 = 8 ∧ ln 60 = 8 ∧ ln 61 = 8 ∧ ln 62 = 64 ∧ ln 63 = 5 := by decide +kernel
theorem el_st : ∀ t, t < 5 → el 58 t = 70 + 4 * t ∧ kd (70 + 4 * t) = 0 := by decide +kernel
theorem cx_fr {h h' : Hp} {n : Inn} (H : CX h n) (hf : ∀ c i, c < 57 ∨ (c = 57 ∧ i = 6) → h'.1 c i = h.1 c i) : CX h' n := by
  obtain ⟨a, ha, h6, hk, h5, h6', hT, hG⟩ := H
  refine ⟨a, ha, by rw [hf 57 6 (Or.inr ⟨rfl, rfl⟩), h6], hk, by rw [hf a 5 (by omega), h5], by rw [hf a 6 (by omega), h6'], ?_, ?_⟩
  · intro t ht
    obtain ⟨e1, e2, e3⟩ := hT t ht
    exact ⟨by rw [hf _ t (by omega), e1], by rw [hf _ t (by omega), e2], by rw [hf _ t (by omega), e3]⟩
  · intro g hg
    obtain ⟨e1, e2⟩ := hG g hg
    exact ⟨by rw [hf _ g (by omega), e1], by rw [hf _ g (by omega), e2]⟩
theorem cx_st {h h' : Hp} {n : Inn} (H : CX h n) (hf : Fr pst h h') : CX h' n := cx_fr H (fun c i hc => hf c i (by show ¬ ((c = 57 ∧ 7 ≤ i ∧ i ≤ 9) ∨ (59 ≤ c ∧ c ≤ 62) ∨ (70 ≤ c ∧ c < 90)); omega))
theorem cs_up {h h' : Hp} {s : St} {t : Nat} {x : Bn} (H : CS h s) (ht : t < 5) (F : Fr (pb (70 + 4 * t)) h h') (C : CB h' (70 + 4 * t) x) : CS h' (sMk (up (sB s) t x) (sH s) (sP s) (sM s) (sD s) (sN s) (sF s) (sJ s)) := by
  obtain ⟨hb, hg, hd, hN, hF, hJ⟩ := H
  refine ⟨?_, ?_, ?_, ?_, ?_, ?_⟩
  · intro u hu
    show CB h' (70 + 4 * u) (up (sB s) t x u)
    by_cases e : u = t
    · subst e
      rw [up_at]
      exact C
    · rw [up_ne _ _ e]
      exact cb_fr (hb u hu) (fun c i h1 h2 => F c i (by show ¬ (70 + 4 * t ≤ c ∧ c < 70 + 4 * t + 4); omega))
  · intro g hg'
    obtain ⟨e1, e2, e3⟩ := hg g hg'
    exact ⟨by rw [pb_fr F g (by omega), e1]; rfl, by rw [pb_fr F g (by omega), e2]; rfl, by rw [pb_fr F g (by omega), e3]; rfl⟩
  · intro i hi
    rw [pb_fr F i (by omega), hd i hi]; rfl
  · rw [pb_fr F 7 (by omega), hN]; rfl
  · rw [pb_fr F 8 (by omega), hF]; rfl
  · rw [pb_fr F 9 (by omega), hJ]; rfl
theorem pb_pst {t : Nat} (ht : t < 5) : ∀ c i, pb (70 + 4 * t) c i → pst c i := by
  intro c i hc
  have hc' : 70 + 4 * t ≤ c ∧ c < 70 + 4 * t + 4 := hc
  show (c = 57 ∧ 7 ≤ i ∧ i ≤ 9) ∨ (59 ≤ c ∧ c ≤ 62) ∨ (70 ≤ c ∧ c < 90)
  omega
theorem q_benchAt {h : Hp} {n : Inn} (H : CX h n) (hw : wI n) (x : Int32) : S_benchAt h x = some (if iz x 0 (nT n) = true then 70 + 4 * x.toNatClampNeg else 0) := by
  obtain ⟨a, ha, h6, C⟩ := H
  have e := q_hasTable C hw x
  have hk := C.1
  have hn := hw.1
  obtain ⟨l1, -⟩ := ln_st
  unfold S_benchAt S_benchAt_j29 S_benchAt_j30
  rw [h6, nI_clamp (by omega), if_pos hk, e, l1]
  by_cases hx : iz x 0 (nT n) = true
  · rw [if_pos hx]
    obtain ⟨k, hk0, hk1, rfl⟩ := iz_0 hx
    rw [hx, show Int32.ofNat 5 = nI 5 from rfl]
    simp (disch := omega) only [KK, K1, K2, NN, bnd_eq, sb, smr, bI_ite, if_pos, if_neg, if_true, if_false, or_true, true_or, true_and, and_true, g01, (el_st k (by omega)).1]
  · rw [if_neg hx, eq_false_of_ne_true hx]
    rfl
theorem q_bat {h : Hp} {n : Inn} (H : CX h n) (hw : wI n) {t : Nat} (ht : t < nT n) : S_benchAt h (nI t) = some (70 + 4 * t) := by
  have hn := hw.1
  rw [q_benchAt H hw, iz_nI 0 (nT n) (by omega), decide_eq_true (by omega), if_pos rfl, nI_clamp (by omega)]
theorem q_seated {h : Hp} {s : St} (H : CS h s) : S_seated h = some (seatAll s) := by
  obtain ⟨l1, -⟩ := ln_st
  apply ok_to
  unfold S_seated S_seated_l4 seatAll
  refine lp_for _ 5 (fun k s1 => s1 = (oT (fun t => bS (sB s t)) k, nI k)) _ ?_ ?_ 0 _ (by omega) rfl
  · rintro k s1 hk1 rfl
    obtain ⟨e1, e2⟩ := el_st k hk1
    unfold S_seated_b4
    rw [l1, show Int32.ofNat 5 = nI 5 from rfl]
    simp (disch := omega) only [KK, K1, K2, NN, bnd_eq, sb, smr, bI_ite, if_pos, if_neg, if_true, if_false, or_true, true_or, true_and, and_true, g01, e1, e2, (H.1 k hk1).2.2.1]
    exact ok_mk rfl
  · rintro s1 rfl
    unfold S_seated_b4 S_seated_j31
    rw [l1, show Int32.ofNat 5 = nI 5 from rfl]
    simp (disch := omega) only [KK, K1, K2, NN, bnd_eq, sb, smr, bI_ite, if_pos, if_neg, if_true, if_false, or_true, true_or, true_and, and_true, g01]
    exact ⟨_, rfl, rfl⟩
def tabOf (s : St) (g : Nat) : Nat := fF (fun t => bt (bS (sB s t)) g) 5
theorem q_tableOf {h : Hp} {s : St} (H : CS h s) {g : Nat} (hg : g < 31) : S_tableOf h (nI g) = some (if tabOf s g < 5 then nI (tabOf s g) else jN 1) := by
  obtain ⟨l1, -⟩ := ln_st
  apply ok_to
  unfold S_tableOf S_tableOf_l2 tabOf
  refine lp_for _ 5 (fun k s1 => s1 = nI k ∧ fF (fun t => bt (bS (sB s t)) g) k = k) _ ?_ ?_ 0 _ (by omega) ⟨rfl, rfl⟩
  · rintro k s1 hk1 ⟨rfl, hf⟩
    obtain ⟨e1, e2⟩ := el_st k hk1
    unfold S_tableOf_b2 S_tableOf_j27
    rw [l1, show Int32.ofNat 5 = nI 5 from rfl]
    simp (disch := omega) only [KK, K1, K2, NN, bnd_eq, sb, smr, bI_ite, if_pos, if_neg, if_true, if_false, or_true, true_or, true_and, and_true, g01, e1, e2, (H.1 k hk1).2.2.1, q_isIn (bS (sB s k)) hg]
    by_cases hb : bt (bS (sB s k)) g = true
    · rw [if_pos hb]
      refine ok_mk ?_
      have key : ∀ m, k < m → fF (fun t => bt (bS (sB s t)) g) m = k := by
        intro m
        induction m with
        | zero => intro h0; omega
        | succ m ih =>
          intro h0
          rw [fF_s]
          by_cases h1 : k < m
          · rw [ih h1, if_pos h1]
          · have : k = m := by omega
            subst this
            rw [hf, if_neg (by omega), if_pos hb]
      show nI k = _
      rw [key 5 hk1, if_pos hk1]
    · rw [if_neg hb]
      refine ok_mk ⟨rfl, ?_⟩
      rw [fF_s, hf, if_neg (by omega), if_neg hb]
  · rintro s1 ⟨rfl, hf⟩
    unfold S_tableOf_b2 S_tableOf_j35
    rw [l1, show Int32.ofNat 5 = nI 5 from rfl]
    simp (disch := omega) only [KK, K1, K2, NN, bnd_eq, sb, smr, bI_ite, if_pos, if_neg, if_true, if_false, or_true, true_or, true_and, and_true, g01]
    exact ⟨_, rfl, rfl⟩
theorem q_hearAll {h : Hp} (who wd : Int32) : Okk (S_hearAll h who wd) (fun h' => (∀ g, g < 8 → h'.1 59 g = dH who wd (h.1 59) g) ∧ Fr (fun c _ => c = 59) h h') := by
  obtain ⟨-, l1, -⟩ := ln_st
  unfold S_hearAll S_hearAll_l2
  refine lp_for _ 8 (fun k s => s.1 = nI k ∧ Fr (fun c _ => c = 59) h s.2 ∧ ∀ g, g < 8 → s.2.1 59 g = if g < k then dH who wd (h.1 59) g else h.1 59 g) _ ?_ ?_ 0 _ (by omega) ?_
  · rintro k ⟨s1, s2⟩ hk1 ⟨rfl, hF, hv⟩
    dsimp only at hF hv ⊢
    have hvk := hv k hk1
    rw [if_neg (by omega)] at hvk
    unfold S_hearAll_b2 S_hearAll_j26
    simp (disch := omega) only [KK, K1, K2, NN, bnd_eq, sb, smr, bI_ite, if_pos, if_neg, if_true, if_false, or_true, true_or, true_and, and_true, g01, q_isIn who (show k < 31 by omega), l1, hvk]
    by_cases hb : bt who k = true
    · rw [if_pos hb]
      refine ok_mk ⟨rfl, fr_tr hF (fr_wr rfl), ?_⟩
      intro g hg
      by_cases e : g = k
      · subst e
        simp (disch := omega) only [KK, K1, K2, NN, bnd_eq, sb, smr, bI_ite, if_pos, if_neg, if_true, if_false, or_true, true_or, true_and, and_true, g01, wr_at, wr_c, wr_p, ]
        unfold dH
        rw [if_pos hb]
      · simp (disch := omega) only [KK, K1, K2, NN, bnd_eq, sb, smr, bI_ite, if_pos, if_neg, if_true, if_false, or_true, true_or, true_and, and_true, g01, wr_at, wr_c, wr_p, hv g hg]
        by_cases h1 : g < k
        · rw [if_pos h1, if_pos (by omega)]
        · rw [if_neg h1, if_neg (by omega)]
    · rw [if_neg hb]
      refine ok_mk ⟨rfl, hF, ?_⟩
      intro g hg
      show s2.1 59 g = _
      rw [hv g hg]
      by_cases e : g = k
      · subst e
        rw [if_neg (by omega), if_pos (by omega)]
        unfold dH
        rw [if_neg hb]
      · by_cases h1 : g < k
        · rw [if_pos h1, if_pos (by omega)]
        · rw [if_neg h1, if_neg (by omega)]
  · rintro ⟨s1, s2⟩ ⟨rfl, hF, hv⟩
    dsimp only at hF hv ⊢
    unfold S_hearAll_b2 S_hearAll_j32
    simp (disch := omega) only [KK, K1, K2, NN, bnd_eq, sb, smr, bI_ite, if_pos, if_neg, if_true, if_false, or_true, true_or, true_and, and_true, g01]
    refine ok_mk ⟨?_, hF⟩
    intro g hg
    rw [hv g hg, if_pos hg]
  · refine ⟨rfl, fr_rfl, ?_⟩
    intro g hg
    rw [if_neg (by omega)]
theorem q_meetAll {h : Hp} (who gh : Int32) : Okk (S_meetAll h who gh) (fun h' => (∀ g, g < 8 → h'.1 61 g = dM who gh (h.1 61) g) ∧ Fr (fun c _ => c = 61) h h') := by
  obtain ⟨-, -, -, l1, -⟩ := ln_st
  unfold S_meetAll S_meetAll_l2
  refine lp_for _ 8 (fun k s => s.1 = nI k ∧ Fr (fun c _ => c = 61) h s.2 ∧ ∀ g, g < 8 → s.2.1 61 g = if g < k then dM who gh (h.1 61) g else h.1 61 g) _ ?_ ?_ 0 _ (by omega) ?_
  · rintro k ⟨s1, s2⟩ hk1 ⟨rfl, hF, hv⟩
    dsimp only at hF hv ⊢
    have hvk := hv k hk1
    rw [if_neg (by omega)] at hvk
    have key : ∀ v, v = (if bt who k = true then who ||| gh else if bt gh k = true then who else nI 0) → Okk (S_meetAll_j35 who gh (nI k) v s2) (Sum.elim (fun s => s.1 = nI (k + 1) ∧ Fr (fun c _ => c = 61) h s.2 ∧ ∀ g, g < 8 → s.2.1 61 g = if g < k + 1 then dM who gh (h.1 61) g else h.1 61 g) (fun h' => (∀ g, g < 8 → h'.1 61 g = dM who gh (h.1 61) g) ∧ Fr (fun c _ => c = 61) h h')) := by
      rintro v hv1
      unfold S_meetAll_j35
      simp (disch := omega) only [KK, K1, K2, NN, bnd_eq, sb, smr, bI_ite, if_pos, if_neg, if_true, if_false, or_true, true_or, true_and, and_true, g01, l1, hvk]
      refine ok_mk ⟨rfl, fr_tr hF (fr_wr rfl), ?_⟩
      intro g hg
      by_cases e : g = k
      · subst e
        simp (disch := omega) only [KK, K1, K2, NN, bnd_eq, sb, smr, bI_ite, if_pos, if_neg, if_true, if_false, or_true, true_or, true_and, and_true, g01, wr_at, wr_c, wr_p, ]
        unfold dM
        rw [hv1]
      · simp (disch := omega) only [KK, K1, K2, NN, bnd_eq, sb, smr, bI_ite, if_pos, if_neg, if_true, if_false, or_true, true_or, true_and, and_true, g01, wr_at, wr_c, wr_p, hv g hg]
        by_cases h1 : g < k
        · rw [if_pos h1, if_pos (by omega)]
        · rw [if_neg h1, if_neg (by omega)]
    unfold S_meetAll_b2
    simp (disch := omega) only [KK, K1, K2, NN, bnd_eq, sb, smr, bI_ite, if_pos, if_neg, if_true, if_false, or_true, true_or, true_and, and_true, g01, q_isIn who (show k < 31 by omega), q_isIn gh (show k < 31 by omega)]
    by_cases hb : bt who k = true
    · rw [if_pos hb]
      exact key _ (by rw [if_pos hb])
    · rw [if_neg hb]
      by_cases hc : bt gh k = true
      · rw [if_pos hc]
        exact key _ (by rw [if_neg hb, if_pos hc])
      · rw [if_neg hc]
        exact key _ (by rw [if_neg hb, if_neg hc])
  · rintro ⟨s1, s2⟩ ⟨rfl, hF, hv⟩
    dsimp only at hF hv ⊢
    unfold S_meetAll_b2 S_meetAll_j60
    simp (disch := omega) only [KK, K1, K2, NN, bnd_eq, sb, smr, bI_ite, if_pos, if_neg, if_true, if_false, or_true, true_or, true_and, and_true, g01]
    refine ok_mk ⟨?_, hF⟩
    intro g hg
    rw [hv g hg, if_pos hg]
  · refine ⟨rfl, fr_rfl, ?_⟩
    intro g hg
    rw [if_neg (by omega)]
theorem q_payAll {h : Hp} {who : Int32} (hl : fF (bt who) 8 < 8) (gh pr : Int32) : Okk (S_payAll h who gh pr) (fun h' => (∀ g, g < 8 → h'.1 60 g = dP who gh pr (h.1 60) g) ∧ (∀ i, i < 64 → h'.1 62 i = dD who gh pr (h.1 62) i) ∧ Fr (fun c _ => c = 60 ∨ c = 62) h h') := by
  obtain ⟨-, -, l1, -, l2, -⟩ := ln_st
  unfold S_payAll S_payAll_l6
  have second : ∀ h0 : Hp, Fr (fun c _ => c = 60 ∨ c = 62) h h0 → (∀ g, g < 8 → h0.1 60 g = if bt who g = true then h.1 60 g + pr else h.1 60 g) → (∀ i, i < 64 → h0.1 62 i = h.1 62 i) → Okk (S_payAll_j54 gh pr (nI (fF (bt who) 8)) h0) (fun h' => (∀ g, g < 8 → h'.1 60 g = dP who gh pr (h.1 60) g) ∧ (∀ i, i < 64 → h'.1 62 i = dD who gh pr (h.1 62) i) ∧ Fr (fun c _ => c = 60 ∨ c = 62) h h') := by
    intro h0 F0 v0 w0
    unfold S_payAll_j54 S_payAll_l57
    refine lp_for _ 8 (fun k s => s.1 = nI k ∧ Fr (fun c _ => c = 60 ∨ c = 62) h s.2 ∧ (∀ g, g < 8 → s.2.1 60 g = if g = fF (bt who) 8 then aT (if bt who g = true then h.1 60 g + pr else h.1 60 g) pr (bt gh) k else if bt who g = true then h.1 60 g + pr else h.1 60 g) ∧ (∀ i, i < 64 → s.2.1 62 i = if i % 8 < k then dD who gh pr (h.1 62) i else h.1 62 i)) _ ?_ ?_ 0 _ (by omega) ?_
    · rintro k ⟨s1, s2⟩ hk1 ⟨rfl, hF, hv, hw⟩
      dsimp only at hF hv hw ⊢
      have hvk := hv (fF (bt who) 8) hl
      rw [if_pos rfl] at hvk
      have hwk := hw (8 * fF (bt who) 8 + k) (by omega)
      rw [if_neg (by omega)] at hwk
      unfold S_payAll_b57 S_payAll_j118
      simp (disch := omega) only [KK, K1, K2, NN, bnd_eq, sb, smr, bI_ite, if_pos, if_neg, if_true, if_false, or_true, true_or, true_and, and_true, g01, NJ, q_isIn gh (show k < 31 by omega), l1]
      by_cases hb : bt gh k = true
      · rw [if_pos hb]
        have key : ∀ v, v = (if k = fF (bt who) 8 then nI 0 else pr) → Okk (S_payAll_j116 gh pr (nI (fF (bt who) 8)) (nI k) (nI (8 * fF (bt who) 8 + k)) (h.1 62 (8 * fF (bt who) 8 + k)) v (wr s2 60 (fF (bt who) 8) (s2.1 60 (fF (bt who) 8) + pr))) (Sum.elim (fun s => s.1 = nI (k + 1) ∧ Fr (fun c _ => c = 60 ∨ c = 62) h s.2 ∧ (∀ g, g < 8 → s.2.1 60 g = if g = fF (bt who) 8 then aT (if bt who g = true then h.1 60 g + pr else h.1 60 g) pr (bt gh) (k + 1) else if bt who g = true then h.1 60 g + pr else h.1 60 g) ∧ (∀ i, i < 64 → s.2.1 62 i = if i % 8 < k + 1 then dD who gh pr (h.1 62) i else h.1 62 i)) (fun h' => (∀ g, g < 8 → h'.1 60 g = dP who gh pr (h.1 60) g) ∧ (∀ i, i < 64 → h'.1 62 i = dD who gh pr (h.1 62) i) ∧ Fr (fun c _ => c = 60 ∨ c = 62) h h')) := by
          intro v hv1
          unfold S_payAll_j116 S_payAll_j118
          simp (disch := omega) only [KK, K1, K2, NN, bnd_eq, sb, smr, bI_ite, if_pos, if_neg, if_true, if_false, or_true, true_or, true_and, and_true, g01, l2]
          refine ok_mk ⟨rfl, fr_tr (fr_tr hF (fr_wr (Or.inl rfl))) (fr_wr (Or.inr rfl)), ?_, ?_⟩
          · intro g hg
            by_cases e : g = fF (bt who) 8
            · rw [e]
              simp (disch := omega) only [KK, K1, K2, NN, bnd_eq, sb, smr, bI_ite, if_pos, if_neg, if_true, if_false, or_true, true_or, true_and, and_true, g01, wr_at, wr_c, wr_p, hvk]
              show _ = if bt gh k = true then _ else _
              rw [if_pos hb]
            · simp (disch := omega) only [KK, K1, K2, NN, bnd_eq, sb, smr, bI_ite, if_pos, if_neg, if_true, if_false, or_true, true_or, true_and, and_true, g01, wr_at, wr_c, wr_p, hv g hg]
          · intro i hi
            by_cases e : i = 8 * fF (bt who) 8 + k
            · have hdiv : i / 8 = fF (bt who) 8 := by omega
              have hmod : i % 8 = k := by omega
              rw [hmod, if_pos (by omega)]
              unfold dD
              rw [hmod, hdiv, if_pos ⟨rfl, hb⟩, e]
              simp (disch := omega) only [KK, K1, K2, NN, bnd_eq, sb, smr, bI_ite, if_pos, if_neg, if_true, if_false, or_true, true_or, true_and, and_true, g01, wr_at, wr_c, wr_p, hv1]
            · simp (disch := omega) only [KK, K1, K2, NN, bnd_eq, sb, smr, bI_ite, if_pos, if_neg, if_true, if_false, or_true, true_or, true_and, and_true, g01, wr_at, wr_c, wr_p, hw i hi]
              by_cases h1 : i % 8 < k
              · rw [if_pos h1, if_pos (by omega)]
              · rw [if_neg h1]
                by_cases h2 : i % 8 < k + 1
                · rw [if_pos h2]
                  unfold dD
                  rw [if_neg]
                  rintro ⟨h3, -⟩
                  omega
                · rw [if_neg h2]
        simp (disch := omega) only [KK, K1, K2, NN, bnd_eq, sb, smr, bI_ite, if_pos, if_neg, if_true, if_false, or_true, true_or, true_and, and_true, g01, wr_at, wr_c, wr_p, hwk, l2]
        by_cases hkl : k = fF (bt who) 8
        · rw [if_pos hkl]
          exact key _ (by rw [if_pos hkl])
        · rw [if_neg hkl]
          exact key _ (by rw [if_neg hkl])
      · rw [if_neg hb]
        refine ok_mk ⟨rfl, hF, ?_, ?_⟩
        · intro g hg
          show s2.1 60 g = _
          rw [hv g hg]
          show _ = if g = fF (bt who) 8 then (if bt gh k = true then _ else _) else _
          rw [if_neg hb]
        · intro i hi
          show s2.1 62 i = _
          rw [hw i hi]
          by_cases h1 : i % 8 < k
          · rw [if_pos h1, if_pos (by omega)]
          · rw [if_neg h1]
            by_cases h2 : i % 8 < k + 1
            · rw [if_pos h2]
              unfold dD
              rw [if_neg]
              rintro ⟨-, h3⟩
              rw [show i % 8 = k by omega] at h3
              exact hb h3
            · rw [if_neg h2]
    · rintro ⟨s1, s2⟩ ⟨rfl, hF, hv, hw⟩
      dsimp only at hF hv hw ⊢
      unfold S_payAll_b57 S_payAll_j124
      simp (disch := omega) only [KK, K1, K2, NN, bnd_eq, sb, smr, bI_ite, if_pos, if_neg, if_true, if_false, or_true, true_or, true_and, and_true, g01]
      refine ok_mk ⟨?_, ?_, hF⟩
      · intro g hg
        rw [hv g hg]
        rfl
      · intro i hi
        rw [hw i hi, if_pos (by omega)]
    · refine ⟨rfl, F0, ?_, ?_⟩
      · intro g hg
        show h0.1 60 g = _
        rw [v0 g hg]
        show _ = if g = fF (bt who) 8 then (if bt who g = true then _ else _) else _
        by_cases e : g = fF (bt who) 8
        · rw [if_pos e]
        · rw [if_neg e]
      · intro i hi
        show h0.1 62 i = _
        rw [w0 i hi, if_neg (by omega)]
  refine lp_for _ 8 (fun k s => s.1 = (if fF (bt who) k < k then nI (fF (bt who) k) else jN 1) ∧ s.2.1 = nI k ∧ Fr (fun c _ => c = 60 ∨ c = 62) h s.2.2 ∧ (∀ g, g < 8 → s.2.2.1 60 g = if g < k ∧ bt who g = true then h.1 60 g + pr else h.1 60 g) ∧ (∀ i, i < 64 → s.2.2.1 62 i = h.1 62 i)) _ ?_ ?_ 0 _ (by omega) ?_
  · rintro k ⟨s1, s2, s3⟩ hk1 ⟨e1, rfl, hF, hv, hw⟩
    dsimp only at e1 hF hv hw ⊢
    have hvk := hv k hk1
    rw [if_neg (fun e => absurd e.1 (by omega))] at hvk
    have hfl := fF_le (bt who) k
    unfold S_payAll_b6 S_payAll_j46 S_payAll_j48
    simp (disch := omega) only [KK, K1, K2, NN, bnd_eq, sb, smr, bI_ite, if_pos, if_neg, if_true, if_false, or_true, true_or, true_and, and_true, g01, q_isIn who (show k < 31 by omega), l1]
    by_cases hb : bt who k = true
    · rw [if_pos hb, e1, hvk]
      have fin : ∀ v, v = (if fF (bt who) (k + 1) < k + 1 then nI (fF (bt who) (k + 1)) else jN 1) → v = (if fF (bt who) (k + 1) < k + 1 then nI (fF (bt who) (k + 1)) else jN 1) ∧ nI (k + 1) = nI (k + 1) ∧ Fr (fun c _ => c = 60 ∨ c = 62) h (wr s3 60 k (h.1 60 k + pr)) ∧ (∀ g, g < 8 → (wr s3 60 k (h.1 60 k + pr)).1 60 g = if g < k + 1 ∧ bt who g = true then h.1 60 g + pr else h.1 60 g) ∧ (∀ i, i < 64 → (wr s3 60 k (h.1 60 k + pr)).1 62 i = h.1 62 i) := by
        intro v hv1
        refine ⟨hv1, rfl, fr_tr hF (fr_wr (Or.inl rfl)), ?_, ?_⟩
        · intro g hg
          by_cases e : g = k
          · subst e
            simp (disch := omega) only [KK, K1, K2, NN, bnd_eq, sb, smr, bI_ite, if_pos, if_neg, if_true, if_false, or_true, true_or, true_and, and_true, g01, wr_at, wr_c, wr_p, ]
            rw [if_pos ⟨by omega, hb⟩]
          · simp (disch := omega) only [KK, K1, K2, NN, bnd_eq, sb, smr, bI_ite, if_pos, if_neg, if_true, if_false, or_true, true_or, true_and, and_true, g01, wr_at, wr_c, wr_p, hv g hg]
            by_cases h1 : g < k ∧ bt who g = true
            · rw [if_pos h1, if_pos ⟨by omega, h1.2⟩]
            · rw [if_neg h1, if_neg (fun e2 => h1 ⟨by omega, e2.2⟩)]
        · intro i hi
          simp (disch := omega) only [KK, K1, K2, NN, bnd_eq, sb, smr, bI_ite, if_pos, if_neg, if_true, if_false, or_true, true_or, true_and, and_true, g01, wr_at, wr_c, wr_p, hw i hi]
      by_cases hf : fF (bt who) k < k
      · rw [if_pos hf]
        simp (disch := omega) only [KK, K1, K2, NN, bnd_eq, sb, smr, bI_ite, if_pos, if_neg, if_true, if_false, or_true, true_or, true_and, and_true, g01, NJ]
        exact ok_mk (fin _ (by rw [fF_s, if_pos hf, if_pos (by omega)]))
      · rw [if_neg hf, if_pos rfl]
        exact ok_mk (fin _ (by rw [fF_s, if_neg hf, if_pos hb, if_pos (by omega)]))
    · rw [if_neg hb]
      refine ok_mk ⟨?_, rfl, hF, ?_, hw⟩
      · show s1 = _
        rw [e1, fF_s]
        by_cases hf : fF (bt who) k < k
        · rw [if_pos hf, if_pos hf, if_pos (by omega)]
        · rw [if_neg hf, if_neg hf, if_neg hb, if_neg (by omega)]
      · intro g hg
        show s3.1 60 g = _
        rw [hv g hg]
        by_cases e : g = k
        · subst e
          rw [if_neg (fun e => absurd e.1 (by omega)), if_neg (fun e => hb e.2)]
        · by_cases h1 : g < k ∧ bt who g = true
          · rw [if_pos h1, if_pos ⟨by omega, h1.2⟩]
          · rw [if_neg h1, if_neg (fun e2 => h1 ⟨by omega, e2.2⟩)]
  · rintro ⟨s1, s2, s3⟩ ⟨e1, rfl, hF, hv, hw⟩
    dsimp only at e1 hF hv hw ⊢
    rw [if_pos hl] at e1
    subst e1
    unfold S_payAll_b6
    simp (disch := omega) only [KK, K1, K2, NN, bnd_eq, sb, smr, bI_ite, if_pos, if_neg, if_true, if_false, or_true, true_or, true_and, and_true, g01]
    refine okmr (second s3 hF ?_ hw)
    intro g hg
    rw [hv g hg]
    by_cases h1 : bt who g = true
    · rw [if_pos ⟨hg, h1⟩, if_pos h1]
    · rw [if_neg (fun e => h1 e.2), if_neg h1]
  · refine ⟨rfl, rfl, fr_rfl, ?_, fun _ _ => rfl⟩
    intro g hg
    rw [if_neg (fun e => absurd e.1 (by omega))]
