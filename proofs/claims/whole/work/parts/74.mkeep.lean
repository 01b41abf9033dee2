/-! ===== L3: texts: what the model keeps of a line ===== -/
theorem l261 : ln 261 = 121 := lnm.2.2.2.2.2.2.2.2.2.1
theorem q_mkeep {h : Hp} {m k0 wd lim : Nat} (h0 : h.1 261 0 = nI m) (hm : m ≤ lim) (hl : k0 + wd * lim ≤ 121) (hk0 : 1 ≤ k0) (hwd : wd ≤ 3) (hl40 : lim ≤ 40) : Okk (M_keep h (0 : Int32) (nI k0) (nI wd) (nI lim)) (fun h' => (m = lim → h' = h) ∧ (m < lim → h'.1 261 0 = nI (m + 1) ∧ (∀ j, j < wd → h'.1 261 (k0 + wd * m + j) = h.1 262 j) ∧ Fr (fun c i => c = 261 ∧ (i = 0 ∨ (k0 + wd * m ≤ i ∧ i < k0 + wd * m + wd))) h h' ∧ h'.2 = h.2)) := by
  have l1 := l261
  have l2 : ln 262 = 3 := lnm.2.2.2.2.2.2.2.2.2.2.1
  have hn := cl0
  unfold M_keep
  rw [if_pos (show inb 0 (ln 261) from nI_in (c := 0) (by omega) (by omega)), hn, bnd_eq, h0]
  by_cases c : m = lim
  · rw [if_pos (show nI m = nI lim by rw [c])]
    exact ok_mk ⟨fun _ => rfl, fun e => absurd e (by omega)⟩
  rw [if_neg (ne_nI (by omega) (by omega) c)]
  have hml : wd * (m + 1) ≤ wd * lim := Nat.mul_le_mul_left wd (by omega)
  rw [Nat.mul_succ] at hml
  unfold M_keep_l19
  refine lp_for _ wd (fun k s => s.1 = nI k ∧ s.2.1 261 0 = nI m ∧ (∀ j, j < k → s.2.1 261 (k0 + wd * m + j) = h.1 262 j) ∧ Fr (fun c i => c = 261 ∧ k0 + wd * m ≤ i ∧ i < k0 + wd * m + wd) h s.2 ∧ s.2.2 = h.2) _ ?_ ?_ 0 _ (by omega) ⟨rfl, h0, fun j hj => absurd hj (by omega), fr_rfl, rfl⟩
  · rintro k ⟨s1, g⟩ hk ⟨e1, e2, e3, e4, e5⟩
    dsimp only at e1 e2 e3 e4 e5
    subst e1
    have o : ∀ c i, ¬ (c = 261 ∧ k0 + wd * m ≤ i ∧ i < k0 + wd * m + wd) → g.1 c i = h.1 c i := e4
    unfold M_keep_b19
    dsimp only
    rw [if_neg (show ¬ nI wd ≤ nI k from fun c => by rw [i_le, nI_toInt (by omega), nI_toInt (by omega)] at c; omega), l2, if_pos (nI_in (by omega) (by omega)), show (nI k0 + nI wd * nI m) + nI k = nI (k0 + wd * m + k) by rw [pk_mul, nI_add, nI_add], l1, if_pos (nI_in (by omega) (by omega)), nI_clamp (show k < 2 ^ 31 by omega), nI_clamp (show k0 + wd * m + k < 2 ^ 31 by omega), bnd_eq, bnd_eq]
    refine ok_mk ⟨nI_add _ 1, ?_, ?_, ?_, e5⟩
    · dsimp only
      rw [wr_p _ _ _ _ (by omega), e2]
    · intro j hj
      dsimp only
      by_cases cj : j = k
      · subst cj
        rw [wr_at, o _ _ (by omega)]
      · rw [wr_p _ _ _ _ (by omega), e3 j (by omega)]
    · exact fr_tr e4 (fr_wr ⟨rfl, by omega, by omega⟩)
  · rintro ⟨s1, g⟩ ⟨e1, e2, e3, e4, e5⟩
    dsimp only at e1 e2 e3 e4 e5
    subst e1
    unfold M_keep_b19 M_keep_j52
    dsimp only
    rw [if_pos (show nI wd ≤ nI wd by rw [i_le]; omega), if_pos (show inb 0 (ln 261) from nI_in (c := 0) (by omega) (by omega)), if_pos (show inb 0 (ln 261) from nI_in (c := 0) (by omega) (by omega)), hn, bnd_eq, e2, show nI m + (1 : Int32) = nI (m + 1) from nI_add _ _]
    refine okmr (ok_mk ⟨fun e => absurd e c, fun _ => ⟨wr_at _ _ _ _, fun j hj => ?_, ?_, e5⟩⟩)
    · rw [wr_p _ _ _ _ (by omega), e3 j hj]
    · exact fr_tr (fr_mo e4 (fun c i hc => ⟨hc.1, Or.inr hc.2⟩)) (fr_wr ⟨rfl, Or.inl rfl⟩)
theorem q_mfull {X : Tx} {h : Hp} {S : PS} (hX : okX X) (M : MP X h S) (hk : tK X S.1 ≠ 2) {m lim : Nat} (h0 : h.1 261 0 = nI m) (hm : m ≤ 40) (hl : lim ≤ 40) : Okk (M_full h (0 : Int32) (nI lim) (nI (tS X S.1))) (fun h' => MP X h' (mny X (decide (m = lim)) S) ∧ Fr (fun c i => c = 251 ∧ 17 ≤ i ∧ i ≤ 18) h h') := by
  have l1 := l261
  unfold M_full M_full_j16 mny
  rw [if_pos (show inb 0 (ln 261) from nI_in (c := 0) (by omega) (by omega)), cl0, h0]
  by_cases c : m = lim
  · rw [if_pos (show nI m = nI lim by rw [c]), decide_eq_true c, if_pos rfl]
    refine okb (q_later hX M (f := 3) (Or.inr rfl) (fun e => absurd e (by decide)) (fun _ => hk)) ?_
    rintro h1 H
    exact ok_mk H
  · rw [if_neg (ne_nI (by omega) (by omega) c), decide_eq_false c, if_neg (by decide)]
    exact ok_mk ⟨M, fr_rfl⟩
theorem nuS_f {X : Tx} {a c : Nat} {bar : Int32} {S : PS} (h1 : S.2.1 ≠ 1) (h2 : tK X S.1 ≠ 2) : nuS X a c bar S = (0, 1, tS X S.1) := by
  unfold nuS frm
  rw [if_neg h1, if_neg h2, if_neg h1]
theorem nuS_g {X : Tx} {a c : Nat} {bar : Int32} {S : PS} (h1 : S.2.1 ≠ 1) (h2 : tK X S.1 = 2) : (nuS X a c bar S).2.1 ≠ 1 := by
  rw [nuS_z h1 h2, nxt_f]
  by_cases c : vOk a c bar (tV X S.1) = true
  · rw [if_pos c]; exact h1
  · rw [if_neg c]
    exact fun e => h1 ((nte_1 (by omega)).mp e)
/-- a reading that breaks off at G -/
def BO (G : PS) (r : Int32 × Hp) : Prop := G.2.1 = 1 ∧ r.1 = nI 0 ∧ r.2.1 251 16 = nI G.2.2
theorem to_or {X : Tx} {h : Hp} {k a c : Nat} {bar : Int32} {S : PS} {r : Int32 × Hp} (H : TO X h k a c bar S r) (h1 : S.2.1 ≠ 1) : BO (nuS X a c bar S) r ∨ (tK X S.1 = 2 ∧ (nuS X a c bar S).2.1 ≠ 1 ∧ r.1 = nI 1 ∧ MP X r.2 (nuS X a c bar S) ∧ r.2.1 262 k = nI (tV X S.1) ∧ ((nuS X a c bar S).2.1 = 0 → nuV X a c S = tV X S.1 ∧ tV X S.1 ≤ c)) := by
  by_cases d : tK X S.1 = 2
  · right
    obtain ⟨e1, e2, e3, e4, e5⟩ := H.2.2 d
    refine ⟨d, nuS_g h1 d, e1, e2, e3, fun e => ?_⟩
    obtain ⟨-, -, g3, -, g5⟩ := nuS_0 e
    exact ⟨g5, (vOk_n g3).2.1⟩
  · left
    obtain ⟨e1, e2⟩ := H.2.1 d
    unfold BO
    rw [nuS_f h1 d]
    exact ⟨rfl, e1, e2⟩
theorem bo_1 {X : Tx} {a c : Nat} {bar : Int32} {G : PS} {r : Int32 × Hp} (H : BO G r) : BO (nuS X a c bar G) r := by
  rw [nuS_1 H.1]
  exact H
theorem bar_v {v u : Nat} (hu : u < 32) (hv : v < 32) : nI v = nI u ↔ bt (sh (nI 1) (nI u)) v = true := by
  rw [nI_eq (by omega) (by omega), b_sh hu v hv, decide_eq_true_eq]
def pMe : Nat → Nat → Prop := fun c i => (c = 251 ∧ 10 ≤ i ∧ i ≤ 22 ∧ i ≠ 11) ∨ c = 261 ∨ c = 262
theorem pme_o {h h' : Hp} (F : Fr pMe h h') : ∀ c i, ¬ ((c = 251 ∧ 10 ≤ i ∧ i ≤ 22 ∧ i ≠ 11) ∨ c = 261 ∨ c = 262) → h'.1 c i = h.1 c i := F
theorem ptb_e {k : Nat} {h h' : Hp} (F : Fr (pTb k) h h') : Fr pMe h h' := fr_mo F (fun c i hc => by
  have hc' : (c = 251 ∧ 10 ≤ i ∧ i ≤ 22 ∧ i ≠ 11 ∧ i ≠ 21) ∨ (c = 262 ∧ i = k) := hc
  show (c = 251 ∧ 10 ≤ i ∧ i ≤ 22 ∧ i ≠ 11) ∨ c = 261 ∨ c = 262
  omega)
theorem lat_e {h h' : Hp} (F : Fr (fun c i => c = 251 ∧ 17 ≤ i ∧ i ≤ 18) h h') : Fr pMe h h' := fr_mo F (fun c i hc => Or.inl (by omega))
theorem pmk_e {h h' : Hp} (F : Fr pMk h h') : Fr pMe h h' := ptb_e (pmk_tb (k := 0) F)
theorem pme_w {h : Hp} {c i : Nat} {v : Int32} (hc : (c = 251 ∧ 10 ≤ i ∧ i ≤ 22 ∧ i ≠ 11) ∨ c = 261 ∨ c = 262) : Fr pMe h (wr h c i v) := fr_wr hc
/-- a line read by the model -/
def LO {α : Type} (X : Tx) (MI : Hp → PS → α → Prop) (h : Hp) (r : Int32 × Hp) (G : PS × α) : Prop := Fr pMe h r.2 ∧ (BO G.1 r ∨ (G.1.2.1 ≠ 1 ∧ r.1 = nI 1 ∧ MP X r.2 G.1 ∧ MI r.2 G.1 G.2))
/-- the greatest told -/
def mgR (b m : Int32) : Prop := (m = jN 1 ∧ b = nI 0) ∨ ∃ g, g < 8 ∧ m = nI g ∧ bt b g = true ∧ ∀ i, g < i → bt b i = false
theorem q_grr (x y : Int32) : M_greater x y = some (if x ≤ y then y else x) := by
  unfold M_greater M_greater_j10
  by_cases c : x ≤ y
  · rw [if_pos c, if_pos c]
  · rw [if_neg c, if_neg c]
theorem mgR_s {b m : Int32} (H : mgR b m) {u v : Nat} (hu : u < 8) (hv : v < 8) : mgR (b ||| (sh (nI 1) (nI u) ||| sh (nI 1) (nI v))) (if m ≤ nI (max u v) then nI (max u v) else m) := by
  have hb : ∀ i, i < 32 → bt (b ||| (sh (nI 1) (nI u) ||| sh (nI 1) (nI v))) i = (bt b i || (decide (i = u) || decide (i = v))) := fun i hi => by
    rw [b_or, b_or, b_sh (by omega) i hi, b_sh (by omega) i hi]
  have top : bt (b ||| (sh (nI 1) (nI u) ||| sh (nI 1) (nI v))) (max u v) = true := by
    rw [hb _ (by omega)]
    rcases (by omega : max u v = u ∨ max u v = v) with e | e
    · rw [decide_eq_true e, Bool.true_or, Bool.or_true]
    · rw [decide_eq_true e, Bool.or_true, Bool.or_true]
  have rest : ∀ g, max u v ≤ g → (∀ i, g < i → bt b i = false) → ∀ i, g < i → bt (b ||| (sh (nI 1) (nI u) ||| sh (nI 1) (nI v))) i = false := fun g hg h1 i hi => by
    by_cases c : i < 32
    · rw [hb i c, h1 i hi, decide_eq_false (show ¬ i = u by omega), decide_eq_false (show ¬ i = v by omega)]
      rfl
    · exact b_big (by omega)
  right
  rcases H with ⟨rfl, rfl⟩ | ⟨g, hg, rfl, h1, h2⟩
  · rw [if_pos (show jN 1 ≤ nI (max u v) by rw [(NJ (max u v) 1 (by omega) (by omega)).2.1 (by omega)]; trivial)]
    exact ⟨max u v, by omega, rfl, top, rest _ (Nat.le_refl _) (fun i _ => b_0 i)⟩
  · by_cases c : g ≤ max u v
    · rw [if_pos (show nI g ≤ nI (max u v) by rw [i_le, nI_toInt (by omega), nI_toInt (by omega)]; omega)]
      exact ⟨max u v, by omega, rfl, top, rest _ (Nat.le_refl _) (fun i hi => h2 i (by omega))⟩
    · rw [if_neg (show ¬ nI g ≤ nI (max u v) from fun e => by rw [i_le, nI_toInt (by omega), nI_toInt (by omega)] at e; omega)]
      refine ⟨g, hg, rfl, ?_, rest g (by omega) h2⟩
      rw [hb g (by omega), h1, Bool.true_or]
theorem mgR_l {b m : Int32} (H : mgR b m) {G : Nat} (hG : G ≤ 8) : m < nI G ↔ sr b (nI G) = nI 0 := by
  rcases H with ⟨rfl, rfl⟩ | ⟨g, hg, rfl, h1, h2⟩
  · rw [(NJ G 1 (by omega) (by omega)).2.2.2.1 (by omega)]
    exact ⟨fun _ => lo_hA (by omega) (lo_0 G), fun _ => trivial⟩
  · rw [i_lt, nI_toInt (by omega), nI_toInt (by omega)]
    constructor
    · intro c
      exact lo_hA (by omega) (fun i hi => h2 i (by omega))
    · intro c
      have := sr_lo (by omega) c
      rcases Nat.lt_or_ge g G with d | d
      · omega
      · exact absurd (h1.symm.trans (this g d)) (by decide)
/-! the model's own data -/
def MDI (h : Hp) (S : PS) (D : Inn × Int32) : Prop := (∃ T, T ≤ 5 ∧ h.1 261 0 = nI T) ∧ (S.2.1 = 0 → nT D.1 ≤ 5 ∧ h.1 261 0 = nI (nT D.1) ∧ h.1 261 1 = nI (nG D.1) ∧ (∀ t, t < nT D.1 → h.1 261 (2 + 3 * t) = nI (nS D.1 t) ∧ h.1 261 (2 + 3 * t + 1) = nI (nK D.1 t) ∧ h.1 261 (2 + 3 * t + 2) = nP D.1 t) ∧ (∀ g, g < 8 → h.1 261 (17 + g) = nQ D.1 g ∧ h.1 261 (25 + g) = nL D.1 g) ∧ mgR D.2 (h.1 251 21))
def MDL (s : Nat) (h : Hp) (S : PS) (D : DN) : Prop := (∃ m, m ≤ lmT s ∧ h.1 261 0 = nI m) ∧ (S.2.1 = 0 → D.1 ≤ lmT s ∧ h.1 261 0 = nI D.1 ∧ ∀ i, i < D.1 → if s = 3 then h.1 261 (1 + i) = (D.2 i).2.1 else h.1 261 (1 + 3 * i) = (D.2 i).1 ∧ h.1 261 (1 + 3 * i + 1) = (D.2 i).2.1 ∧ h.1 261 (1 + 3 * i + 2) = (D.2 i).2.2)
theorem mdi_fr {h h' : Hp} {S S' : PS} {D : Inn × Int32} (H : MDI h S D) (hS : S'.2.1 = 0 → S.2.1 = 0) (o : ∀ c i, c = 261 ∨ (c = 251 ∧ i = 21) → h'.1 c i = h.1 c i) : MDI h' S' D := by
  obtain ⟨⟨T, h1, h2⟩, h3⟩ := H
  refine ⟨⟨T, h1, by rw [o _ _ (by omega), h2]⟩, fun c => ?_⟩
  obtain ⟨a1, a2, a3, a4, a5, a6⟩ := h3 (hS c)
  refine ⟨a1, by rw [o _ _ (by omega), a2], by rw [o _ _ (by omega), a3], fun t ht => ?_, fun g hg => ?_, by rw [o _ _ (by omega)]; exact a6⟩
  · rw [o _ _ (by omega), o _ _ (by omega), o _ _ (by omega)]
    exact a4 t ht
  · rw [o _ _ (by omega), o _ _ (by omega)]
    exact a5 g hg
theorem mdl_fr {s : Nat} {h h' : Hp} {S S' : PS} {D : DN} (H : MDL s h S D) (hS : S'.2.1 = 0 → S.2.1 = 0) (o : ∀ c i, c = 261 → h'.1 c i = h.1 c i) : MDL s h' S' D := by
  obtain ⟨⟨T, h1, h2⟩, h3⟩ := H
  refine ⟨⟨T, h1, by rw [o _ _ (by omega), h2]⟩, fun c => ?_⟩
  obtain ⟨a1, a2, a3⟩ := h3 (hS c)
  refine ⟨a1, by rw [o _ _ (by omega), a2], fun i hi => ?_⟩
  rw [o _ _ (by omega), o _ _ (by omega), o _ _ (by omega), o _ _ (by omega)]
  exact a3 i hi
/-- a line of deeds, wishes, hearings is kept -/
theorem q_keepL {s : Nat} {X : Tx} {h : Hp} {S : PS} {D : DN} {d : Pst} (s1 : 1 ≤ s) (s2 : s < 4) (M : MP X h S) (H : MDL s h S D) (hD : S.2.1 = 0 → D.1 < lmT s) (hd : S.2.1 = 0 → if s = 3 then h.1 262 0 = d.2.1 else h.1 262 0 = d.1 ∧ h.1 262 1 = d.2.1 ∧ h.1 262 2 = d.2.2) {wd lim : Int32} (ew : wd = nI (if s = 3 then 1 else 3)) (elm : lim = nI (lmT s)) : Okk (M_keep h (0 : Int32) (1 : Int32) wd lim) (fun h' => MP X h' S ∧ MDL s h' S (ap1 D d) ∧ Fr pMe h h') := by
  subst ew elm
  obtain ⟨⟨m, hm, h0⟩, h3⟩ := H
  have hl := lmT_le s
  have hw : 1 + (if s = 3 then 1 else 3) * lmT s ≤ 121 := by
    rcases (by omega : s = 1 ∨ s = 2 ∨ s = 3) with rfl | rfl | rfl <;> decide
  have hw3 : (if s = 3 then 1 else 3) ≤ 3 := by
    by_cases c : s = 3
    · rw [if_pos c]; omega
    · rw [if_neg c]; exact Nat.le_refl _
  refine okw (q_mkeep (k0 := 1) h0 hm hw (by omega) hw3 hl) ?_
  rintro h' ⟨g1, g2⟩
  by_cases c : m = lmT s
  · rw [g1 c]
    refine ⟨M, ⟨⟨m, hm, h0⟩, fun e => ?_⟩, fr_rfl⟩
    have e2 := (h3 e).2.1.symm.trans h0
    rw [nI_eq (by have := (h3 e).1; omega) (by omega)] at e2
    have := hD e
    omega
  obtain ⟨b1, b2, b3, b4⟩ := g2 (by omega)
  have b3' : ∀ c i, ¬ (c = 261 ∧ (i = 0 ∨ (1 + (if s = 3 then 1 else 3) * m ≤ i ∧ i < 1 + (if s = 3 then 1 else 3) * m + (if s = 3 then 1 else 3)))) → h'.1 c i = h.1 c i := b3
  refine ⟨mp_fr M (fun c i hc => b3' c i (by omega)) b4, ⟨⟨m + 1, by omega, b1⟩, fun e => ?_⟩, fr_mo b3 (fun c i hc => Or.inr (Or.inl hc.1))⟩
  obtain ⟨a1, a2, a3⟩ := h3 e
  have e2 := a2.symm.trans h0
  rw [nI_eq (by omega) (by omega)] at e2
  subst e2
  have hd' := hd e
  refine ⟨show D.1 + 1 ≤ lmT s from hD e, b1, fun i hi => ?_⟩
  have hi' : i < D.1 + 1 := hi
  show if s = 3 then h'.1 261 (1 + i) = (up D.2 D.1 d i).2.1 else h'.1 261 (1 + 3 * i) = (up D.2 D.1 d i).1 ∧ h'.1 261 (1 + 3 * i + 1) = (up D.2 D.1 d i).2.1 ∧ h'.1 261 (1 + 3 * i + 2) = (up D.2 D.1 d i).2.2
  by_cases cs : s = 3
  · rw [if_pos cs] at hd' b2 b3' ⊢
    by_cases ei : i = D.1
    · subst ei
      have := b2 0 (by omega)
      rw [show 1 + 1 * D.1 + 0 = 1 + D.1 by omega] at this
      rw [up_at, this, hd']
    · have a3i := a3 i (by omega)
      rw [if_pos cs] at a3i
      rw [up_ne _ _ ei, b3' _ _ (by omega), a3i]
  · rw [if_neg cs] at hd' b2 b3' ⊢
    by_cases ei : i = D.1
    · subst ei
      have y0 := b2 0 (by omega)
      have y1 := b2 1 (by omega)
      have y2 := b2 2 (by omega)
      rw [Nat.add_zero] at y0
      rw [up_at, y0, y1, y2]
      exact hd'
    · have a3i := a3 i (by omega)
      rw [if_neg cs] at a3i
      rw [up_ne _ _ ei, b3' _ _ (by omega), b3' _ _ (by omega), b3' _ _ (by omega)]
      exact a3i
