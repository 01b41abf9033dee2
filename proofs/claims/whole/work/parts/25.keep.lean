/-! ===== L3: what can be stays so ===== -/
theorem b_sr (x : Int32) {k : Nat} (hk : k < 32) {i : Nat} (hi : i < 32) : bt (sr x (nI k)) i = if k + i < 32 then bt x (k + i) else bt x 31 := b_sshr k hk x hi
theorem hA_lo {x : Int32} {g : Nat} (hg : g < 32) (h : sr x (nI g) = nI 0) : lo g x := by
  intro i hi
  rcases Nat.lt_or_ge i 32 with h1 | h1
  · have e := b_sr x hg (show i - g < 32 by omega)
    rw [h, if_pos (by omega), show g + (i - g) = i by omega] at e
    rw [← e]
    exact b_0 _
  · exact b_big h1
theorem lo_hA {x : Int32} {g : Nat} (hg : g < 32) (h : lo g x) : sr x (nI g) = nI 0 := by
  apply b_ext
  intro i hi
  rw [b_sr x hg hi, show bt (nI 0) i = false from b_0 i]
  by_cases h1 : g + i < 32
  · rw [if_pos h1]
    exact h _ (by omega)
  · rw [if_neg h1]
    exact h _ (by omega)
theorem wB_g {m k : Nat} {x : Bn} (W : wB m k x) : lo m (bG x) ∧ lo 10 (bV x) := by
  obtain ⟨-, -, -, -, -, hR⟩ := W
  unfold bG bV
  by_cases h : bU x < bL x
  · rw [if_pos h, if_pos h]
    exact ⟨(hR _ h).1, (hR _ h).2.2⟩
  · rw [if_neg h, if_neg h]
    exact ⟨lo_0 m, lo_0 10⟩
theorem lo_if {k : Nat} {c : Prop} {i : Decidable c} {x y : Int32} (hx : lo k x) (hy : lo k y) : lo k (@ite _ c i x y) := by
  by_cases h : c
  · rw [if_pos h]; exact hx
  · rw [if_neg h]; exact hy
theorem wS_up {n : Inn} {s : St} {t : Nat} {x : Bn} {hh : Nat → Int32} {p m d : Nat → Int32} {a b c : Int32} (W : wS n s) (ht : t < nT n) (hx : wB (nG n) (kp n t) x) (h2 : ∀ g, g < 8 → lo 10 (hh g) ∧ lo (nG n) (m g) ∧ bt (m g) g = false) : wS n (sMk (up (sB s) t x) hh p m d a b c) := by
  refine ⟨?_, h2⟩
  intro u hu
  show wB (nG n) (kp n u) (up (sB s) t x u) ∧ (nT n ≤ u → bS (up (sB s) t x u) = nI 0)
  by_cases e : u = t
  · subst e
    rw [up_at]
    exact ⟨hx, fun h => absurd h (by omega)⟩
  · rw [up_ne _ _ e]
    exact W.1 u hu
theorem wS_sit {n : Inn} {s : St} {t : Nat} {who : Int32} (hw : wI n) (W : wS n s) (ht : t < 5) (hne : who ≠ nI 0) (ok : okSit n s t who = true) : wS n (dSit n s t who) := by
  unfold okSit at ok
  rw [Bool.and_eq_true, Bool.and_eq_true, Bool.and_eq_true, Bool.and_eq_true, decide_eq_true_eq, decide_eq_true_eq, decide_eq_true_eq, decide_eq_true_eq, decide_eq_true_eq] at ok
  obtain ⟨o1, o2, o3, o4, o5⟩ := ok
  have hG := hw.2.2.1
  have lw := hA_lo (by omega) o3
  obtain ⟨lg, lv⟩ := wB_g (W.1 t ht).1
  obtain ⟨x1, x2, x3, x4, x5, x6⟩ := (W.1 t ht).1
  refine wS_up W o1 ⟨x1, ?_, lw, x4, fun e => absurd e hne, x6⟩ ?_
  · show (if bU (sB s t) + 1 < bL (sB s t) then bU (sB s t) + 1 else 0) < bL (sB s t) ∨ (if bU (sB s t) + 1 < bL (sB s t) then bU (sB s t) + 1 else 0) = 0
    by_cases h1 : bU (sB s t) + 1 < bL (sB s t)
    · rw [if_pos h1]
      exact Or.inl h1
    · rw [if_neg h1]
      exact Or.inr rfl
  · intro g hg
    obtain ⟨h1, h2, h3⟩ := W.2 g hg
    refine ⟨?_, ?_, ?_⟩
    · exact lo_if (lo_or h1 lv) h1
    · exact lo_or h2 (lo_al _ (lo_if (lo_or lw lg) (lo_if lw (lo_0 _))))
    · unfold dM
      rw [b_or, h3, b_and, b_nt _ g (by omega), b_sh (by omega) g (by omega), decide_eq_true rfl]
      simp
theorem wS_say {n : Inn} {s : St} {g w : Nat} (hw : wI n) (W : wS n s) (hw10 : w < 10) (ok : okSay n s g = true) : wS n (dSay s g w) := by
  unfold okSay at ok
  rw [Bool.and_eq_true, decide_eq_true_eq, decide_eq_true_eq] at ok
  obtain ⟨o1, o2⟩ := ok
  have hT := hw.1
  have hbit := fF_at (fun t => bt (bS (sB s t)) g) 5 (show tabOf s g < 5 by omega)
  obtain ⟨x1, x2, x3, x4, x5, x6⟩ := (W.1 (tabOf s g) (by omega)).1
  refine wS_up W o2 ⟨x1, x2, x3, lo_or x4 (lo_sh hw10 (by omega)), ?_, x6⟩ ?_
  · intro e
    exfalso
    have e' : bS (sB s (tabOf s g)) = nI 0 := e
    have hb : bt (bS (sB s (tabOf s g))) g = true := hbit
    rw [e', show bt (nI 0) g = false from b_0 g] at hb
    exact absurd hb (by decide)
  · intro k hk
    obtain ⟨h1, h2, h3⟩ := W.2 k hk
    exact ⟨lo_if (lo_or h1 (lo_sh hw10 (by omega))) h1, h2, h3⟩
theorem wB_kp {m k : Nat} {x : Bn} (hU : bU x < bL x ∨ bU x = 0) (h3 : lo m (bS x)) (h4 : lo 10 (bW x)) (h5 : bS x = nI 0 → bW x = nI 0) (h6 : ∀ i, i < bL x → lo m (bR x i).1 ∧ (bR x i).1 ≠ nI 0 ∧ lo 10 (bR x i).2.1) : wB m k (bKp x k) := by
  refine ⟨?_, ?_, h3, h4, h5, ?_⟩
  · show bL x - (bL x - k) ≤ k
    omega
  · show bU x - (bL x - k) < bL x - (bL x - k) ∨ bU x - (bL x - k) = 0
    omega
  · intro i hi
    have hi' : i < bL x - (bL x - k) := hi
    exact h6 (i + (bL x - k)) (by omega)
theorem wB_st {m k : Nat} {x : Bn} (W : wB m k x) : wB m k (bSt x (nI 0) (nI 0)) := ⟨W.1, W.2.1, lo_0 m, lo_0 10, fun _ => rfl, W.2.2.2.2.2⟩
theorem wB_en {m k : Nat} {x : Bn} (night : Int32) (W : wB m k x) : wB m k (bEn x night k) := by
  unfold bEn
  by_cases h : bS x = nI 0
  · rw [if_pos h]
    exact wB_st W
  · rw [if_neg h]
    obtain ⟨x1, x2, x3, x4, x5, x6⟩ := W
    refine wB_st (wB_kp ?_ x3 x4 x5 ?_)
    · show bU x < bL x + 1 ∨ bU x = 0
      omega
    · intro i hi
      have hi' : i < bL x + 1 := hi
      show lo m (up (bR x) (bL x) _ i).1 ∧ (up (bR x) (bL x) _ i).1 ≠ nI 0 ∧ lo 10 (up (bR x) (bL x) _ i).2.1
      by_cases e : i = bL x
      · subst e
        rw [up_at]
        exact ⟨x3, h, x4⟩
      · rw [up_ne _ _ e]
        exact x6 i (by omega)
theorem bEn_S (x : Bn) (night : Int32) (k : Nat) : bS (bEn x night k) = nI 0 := by
  unfold bEn
  by_cases h : bS x = nI 0
  · rw [if_pos h]; rfl
  · rw [if_neg h]; rfl
theorem wS_nig {n : Inn} {s : St} (W : wS n s) : wS n (dNig n s) := by
  refine ⟨?_, W.2⟩
  intro t ht
  exact ⟨wB_en _ (W.1 t ht).1, fun _ => bEn_S _ _ _⟩
theorem wS_scr {n : Inn} {s : St} {t : Nat} (hw : wI n) (W : wS n s) (ok : okScr n s t = true) : wS n (dScr s t) := by
  unfold okScr at ok
  rw [Bool.and_eq_true, Bool.and_eq_true, decide_eq_true_eq, decide_eq_true_eq, decide_eq_true_eq] at ok
  obtain ⟨o1, o2, o3⟩ := ok
  have hT := hw.1
  obtain ⟨x1, x2, x3, x4, x5, x6⟩ := (W.1 t (by omega)).1
  refine wS_up W o1 ⟨?_, ?_, x3, x4, x5, ?_⟩ W.2
  · show bL (sB s t) - 1 ≤ _
    omega
  · show (if (if bU (sB s t) = bL (sB s t) - 1 then bL (sB s t) - 2 else bU (sB s t)) < bL (sB s t) - 1 then (if bU (sB s t) = bL (sB s t) - 1 then bL (sB s t) - 2 else bU (sB s t)) else 0) < bL (sB s t) - 1 ∨ (if (if bU (sB s t) = bL (sB s t) - 1 then bL (sB s t) - 2 else bU (sB s t)) < bL (sB s t) - 1 then (if bU (sB s t) = bL (sB s t) - 1 then bL (sB s t) - 2 else bU (sB s t)) else 0) = 0
    generalize (if bU (sB s t) = bL (sB s t) - 1 then bL (sB s t) - 2 else bU (sB s t)) = v
    by_cases h : v < bL (sB s t) - 1
    · rw [if_pos h]
      exact Or.inl h
    · rw [if_neg h]
      exact Or.inr rfl
  · intro i hi
    have hi' : i < bL (sB s t) - 1 := hi
    show lo _ (up (bR (sB s t)) (bL (sB s t) - 2) _ i).1 ∧ (up (bR (sB s t)) (bL (sB s t) - 2) _ i).1 ≠ nI 0 ∧ lo 10 (up (bR (sB s t)) (bL (sB s t) - 2) _ i).2.1
    by_cases e : i = bL (sB s t) - 2
    · rw [e, up_at]
      exact x6 (bL (sB s t) - 1) (by omega)
    · rw [up_ne _ _ e]
      exact x6 i (by omega)
theorem wS_two {n : Inn} {s : St} {t u : Nat} {x y : Bn} (W : wS n s) (ht : t < nT n) (hu : u < nT n) (hx : wB (nG n) (kp n t) x) (hy : wB (nG n) (kp n u) y) : wS n (sMk (up (up (sB s) t x) u y) (sH s) (sP s) (sM s) (sD s) (sN s) (sF s) (sJ s)) := by
  have W1 : wS n (sMk (up (sB s) t x) (sH s) (sP s) (sM s) (sD s) (sN s) (sF s) (sJ s)) := wS_up W ht hx W.2
  exact wS_up W1 hu hy W.2
theorem wS_joi {n : Inn} {s : St} {t u : Nat} (hw : wI n) (W : wS n s) (ok : okJoi n s t u = true) : wS n (dJoi n s t u) := by
  unfold okJoi at ok
  rw [Bool.and_eq_true, Bool.and_eq_true, Bool.and_eq_true, decide_eq_true_eq, decide_eq_true_eq, decide_eq_true_eq, decide_eq_true_eq] at ok
  obtain ⟨o1, o2, o3, o4⟩ := ok
  have hT := hw.1
  obtain ⟨x1, x2, x3, x4, x5, x6⟩ := (W.1 t (by omega)).1
  obtain ⟨y1, y2, y3, y4, y5, y6⟩ := (W.1 u (by omega)).1
  refine wS_two W o1 o2 (wB_kp ?_ x3 x4 x5 ?_) (wB_cl _ _)
  · show bU (sB s t) < bL (sB s t) + bL (sB s u) ∨ bU (sB s t) = 0
    omega
  · intro i hi
    have hi' : i < bL (sB s t) + bL (sB s u) := hi
    show lo _ (if i < bL (sB s t) then bR (sB s t) i else bR (sB s u) (i - bL (sB s t))).1 ∧ (if i < bL (sB s t) then bR (sB s t) i else bR (sB s u) (i - bL (sB s t))).1 ≠ nI 0 ∧ lo 10 (if i < bL (sB s t) then bR (sB s t) i else bR (sB s u) (i - bL (sB s t))).2.1
    by_cases h : i < bL (sB s t)
    · rw [if_pos h]
      exact x6 i h
    · rw [if_neg h]
      exact y6 _ (by omega)
theorem wB_tz {m k : Nat} {x : Bn} (h1 : bL x ≤ k) (h3 : lo m (bS x)) (h4 : lo 10 (bW x)) (h5 : bS x = nI 0 → bW x = nI 0) (h6 : ∀ i, i < bL x → lo m (bR x i).1 ∧ (bR x i).1 ≠ nI 0 ∧ lo 10 (bR x i).2.1) : wB m k (bTz x) := ⟨h1, Or.inr rfl, h3, h4, h5, h6⟩
theorem wS_spl {n : Inn} {s : St} {t u : Nat} (hw : wI n) (W : wS n s) (ok : okSpl n s t u = true) : wS n (dSpl n s t u) := by
  unfold okSpl at ok
  rw [Bool.and_eq_true, Bool.and_eq_true, Bool.and_eq_true, Bool.and_eq_true, Bool.and_eq_true, decide_eq_true_eq, decide_eq_true_eq, decide_eq_true_eq, decide_eq_true_eq, decide_eq_true_eq, decide_eq_true_eq] at ok
  obtain ⟨o1, o2, o3, o4, o5, o6⟩ := ok
  have hT := hw.1
  obtain ⟨x1, x2, x3, x4, x5, x6⟩ := (W.1 t (by omega)).1
  obtain ⟨y1, y2, y3, y4, y5, y6⟩ := (W.1 u (by omega)).1
  refine wS_two W o1 o2 (wB_tz ?_ x3 x4 x5 ?_) (wB_tz ?_ y3 y4 y5 ?_)
  · show bL (sB s t) - bL (sB s t) / 2 ≤ _
    omega
  · intro i hi
    have hi' : i < bL (sB s t) - bL (sB s t) / 2 := hi
    exact x6 (i + bL (sB s t) / 2) (by omega)
  · show bL (sB s t) / 2 - (bL (sB s t) / 2 - kp n u) ≤ _
    omega
  · intro i hi
    have hi' : i < bL (sB s t) / 2 - (bL (sB s t) / 2 - kp n u) := hi
    exact x6 (i + (bL (sB s t) / 2 - kp n u)) (by omega)
theorem wS_do {n : Inn} {s : St} {d : Pst} (hw : wI n) (W : wS n s) (D : wD d) (ok : okD n s d = true) : wS n (doD n s d) := by
  unfold okD at ok
  unfold doD
  rcases D with ⟨d1, t, ht, d2, d3, d4⟩ | ⟨d1, g, w, hg, hw10, d2, d3⟩ | d1 | ⟨d1, t, ht, d2⟩ | ⟨d1, t, u, ht, hu, htu, d2, d3⟩ | ⟨d1, t, u, ht, hu, htu, d2, d3⟩
  · rw [d1, d2, nI_clamp (by omega), if_pos (show nI 0 = nI 0 from rfl)] at ok
    rw [d1, d2, nI_clamp (by omega), if_pos (show nI 0 = nI 0 from rfl)]
    exact wS_sit hw W ht d4 ok
  · rw [d1, d2, nI_clamp (show g < 2 ^ 31 by omega), if_neg (ne_nI (by omega) (by omega) (by omega)), if_pos rfl] at ok
    rw [d1, d2, d3, nI_clamp (show g < 2 ^ 31 by omega), nI_clamp (show w < 2 ^ 31 by omega), if_neg (ne_nI (by omega) (by omega) (by omega)), if_pos rfl]
    exact wS_say hw W hw10 ok
  · rw [d1, if_neg (ne_nI (by omega) (by omega) (by omega)), if_neg (ne_nI (by omega) (by omega) (by omega)), if_pos rfl]
    exact wS_nig W
  · rw [d1, d2, nI_clamp (by omega), if_neg (ne_nI (by omega) (by omega) (by omega)), if_neg (ne_nI (by omega) (by omega) (by omega)), if_neg (ne_nI (by omega) (by omega) (by omega)), if_pos rfl] at ok
    rw [d1, d2, nI_clamp (by omega), if_neg (ne_nI (by omega) (by omega) (by omega)), if_neg (ne_nI (by omega) (by omega) (by omega)), if_neg (ne_nI (by omega) (by omega) (by omega)), if_pos rfl]
    exact wS_scr hw W ok
  · rw [d1, d2, d3, nI_clamp (show t < 2 ^ 31 by omega), nI_clamp (show u < 2 ^ 31 by omega), if_neg (ne_nI (by omega) (by omega) (by omega)), if_neg (ne_nI (by omega) (by omega) (by omega)), if_neg (ne_nI (by omega) (by omega) (by omega)), if_neg (ne_nI (by omega) (by omega) (by omega)), if_pos rfl] at ok
    rw [d1, d2, d3, nI_clamp (show t < 2 ^ 31 by omega), nI_clamp (show u < 2 ^ 31 by omega), if_neg (ne_nI (by omega) (by omega) (by omega)), if_neg (ne_nI (by omega) (by omega) (by omega)), if_neg (ne_nI (by omega) (by omega) (by omega)), if_neg (ne_nI (by omega) (by omega) (by omega)), if_pos rfl]
    exact wS_joi hw W ok
  · rw [d1, d2, d3, nI_clamp (show t < 2 ^ 31 by omega), nI_clamp (show u < 2 ^ 31 by omega), if_neg (ne_nI (by omega) (by omega) (by omega)), if_neg (ne_nI (by omega) (by omega) (by omega)), if_neg (ne_nI (by omega) (by omega) (by omega)), if_neg (ne_nI (by omega) (by omega) (by omega)), if_neg (ne_nI (by omega) (by omega) (by omega))] at ok
    rw [d1, d2, d3, nI_clamp (show t < 2 ^ 31 by omega), nI_clamp (show u < 2 ^ 31 by omega), if_neg (ne_nI (by omega) (by omega) (by omega)), if_neg (ne_nI (by omega) (by omega) (by omega)), if_neg (ne_nI (by omega) (by omega) (by omega)), if_neg (ne_nI (by omega) (by omega) (by omega)), if_neg (ne_nI (by omega) (by omega) (by omega))]
    exact wS_spl hw W ok
theorem wS_pl {n : Inn} {f : Nat → Pst} (hw : wI n) : ∀ m k s, wS n s → (∀ i, k ≤ i → i < k + m → wD (f i)) → wS n (pl n f m k s).2
  | 0, k, s, W, _ => W
  | m + 1, k, s, W, D => by
    rw [pl_s]
    by_cases h : okD n s (f k) = true
    · rw [if_pos h]
      exact wS_pl hw m (k + 1) _ (wS_do hw W (D k (by omega) (by omega)) h) (fun i h1 h2 => D i (by omega) (by omega))
    · rw [if_neg h]
      exact W
/-! the code's way -/
def pbg : Nat → Nat → Prop := fun c i => (c = 57 ∧ 6 ≤ i ∧ i ≤ 9) ∨ (59 ≤ c ∧ c ≤ 62) ∨ (70 ≤ c ∧ c < 90)
theorem cl_fr {h h' : Hp} {a m : Nat} {f : Nat → Pst} (H : CL h a m f) (ha : a < 50) (hf : ∀ c i, c < 57 → h'.1 c i = h.1 c i) : CL h' a m f := by
  obtain ⟨hk, h3, hm, hR⟩ := H
  refine ⟨hk, by rw [hf a 3 (by omega), h3], hm, ?_⟩
  intro i hi
  obtain ⟨e1, e2, e3⟩ := hR i hi
  exact ⟨by rw [hf _ i (by omega), e1], by rw [hf _ i (by omega), e2], by rw [hf _ i (by omega), e3]⟩
theorem q_follow {h : Hp} {n : Inn} {a b m l : Nat} {f : Nat → Pst} (ha : a < 50) (H : CH h a n) (hb : b < 50) (L : CL h b m f) (hw : wI n) (D : ∀ i, i < m → wD (f i)) (hl : l ≤ m) : Okk (K_follow h a b (nI l)) (fun r => r.1 = nI (pl n f l 0 s0).1 ∧ CX r.2 n ∧ CS r.2 (pl n f l 0 s0).2 ∧ Fr pbg h r.2) := by
  have hm40 := L.2.2.1
  have hln := (li_kd L.1).2.2.2.1
  unfold K_follow
  refine okb (q_begin ha H) ?_
  rintro h8 ⟨X8, C8, F8⟩
  unfold K_follow_l11
  refine lp_for _ l (fun k q => q.1 = nI k ∧ Fr pbg h q.2 ∧ CX q.2 n ∧ ∃ s, CS q.2 s ∧ wS n s ∧ pl n f l 0 s0 = pl n f (l - k) k s) _ ?_ ?_ 0 _ (by omega) ?_
  · rintro k ⟨q1, q2⟩ hk ⟨rfl, hF, X, s, C, W, e⟩
    dsimp only at hF X C ⊢
    have L2 : CL q2 b m f := cl_fr L hb (fun c i hc => hF c i (by show ¬ ((c = 57 ∧ 6 ≤ i ∧ i ≤ 9) ∨ (59 ≤ c ∧ c ≤ 62) ∨ (70 ≤ c ∧ c < 90)); omega))
    have k2 := L2.1
    unfold K_follow_b11
    rw [L2.2.1]
    simp (disch := omega) only [KK, K1, K2, NN, bnd_eq, sb, smr, bI_ite, if_pos, if_neg, if_true, if_false, or_true, true_or, true_and, and_true, g01]
    refine okb (q_follows X hw C W L2 (by omega) (D k (by omega))) ?_
    rintro ⟨r1, r2⟩ ⟨g1, g2, g3⟩
    dsimp only at g1 g2 g3 ⊢
    have FF : Fr pbg h r2 := fr_tr hF (fr_mo g3 (fun c i hc => by
      have hc' : (c = 57 ∧ 7 ≤ i ∧ i ≤ 9) ∨ (59 ≤ c ∧ c ≤ 62) ∨ (70 ≤ c ∧ c < 90) := hc
      show (c = 57 ∧ 6 ≤ i ∧ i ≤ 9) ∨ (59 ≤ c ∧ c ≤ 62) ∨ (70 ≤ c ∧ c < 90)
      omega))
    rw [show l - k = (l - (k + 1)) + 1 by omega, pl_s] at e
    rw [g1]
    by_cases ok : okD n s (f k) = true
    · rw [if_pos ok] at g2 e
      rw [ok, if_neg (show ¬ bI true = nI 0 by decide +kernel)]
      exact ok_mk ⟨rfl, FF, cx_st X g3, _, g2, wS_do hw W (D k (by omega)) ok, e⟩
    · rw [if_neg ok] at g2 e
      rw [eq_false_of_ne_true ok, if_pos (show bI false = nI 0 from rfl)]
      unfold K_follow_j45
      refine ok_mk ?_
      show nI k = nI (pl n f l 0 s0).1 ∧ CX r2 n ∧ CS r2 (pl n f l 0 s0).2 ∧ Fr pbg h r2
      rw [e]
      exact ⟨rfl, cx_st X g3, g2, FF⟩
  · rintro ⟨q1, q2⟩ ⟨rfl, hF, X, s, C, W, e⟩
    dsimp only at hF X C ⊢
    unfold K_follow_b11 K_follow_j45
    simp (disch := omega) only [KK, K1, K2, NN, bnd_eq, sb, smr, bI_ite, if_pos, if_neg, if_true, if_false, or_true, true_or, true_and, and_true, g01]
    refine ok_mk ?_
    show nI l = nI (pl n f l 0 s0).1 ∧ CX q2 n ∧ CS q2 (pl n f l 0 s0).2 ∧ Fr pbg h q2
    rw [e, Nat.sub_self]
    exact ⟨rfl, X, C, hF⟩
  · exact ⟨rfl, F8, X8, s0, C8, wS_0 n, rfl⟩
