/-! ===== L3: texts asked: both ===== -/
theorem q_cut0 {h : Hp} (v : Int32) : (T_cutTo h 3 (0 : Int32)).bind (fun (r1, h2) => some (v, h2)) = if (0 : Int32) ≤ h.1 3 1 then some (v, wr h 3 1 0) else some (v, h) := by
  unfold T_cutTo T_cutTo_j12
  rw [if_pos (show kd 3 = 8 by decide +kernel), if_neg (show ¬ (0 : Int32) < 0 by decide +kernel)]
  by_cases c : (0 : Int32) ≤ h.1 3 1
  · rw [if_pos c, if_pos c]; rfl
  · rw [if_neg c, if_neg c]; rfl
def yT (h : Hp) : Hp := wr (wr (wr (wr (wr h 251 0 0) 251 11 (h.1 253 0)) 253 0 0) 254 0 0) 255 0 (-1)
theorem yT_o (h : Hp) : ∀ c i, ¬ ((c = 251 ∧ (i = 0 ∨ i = 11)) ∨ (253 ≤ c ∧ c ≤ 255 ∧ i = 0)) → (yT h).1 c i = h.1 c i := fun c i hc => by
  unfold yT
  rw [wr_i, if_neg (by omega), wr_i, if_neg (by omega), wr_i, if_neg (by omega), wr_i, if_neg (by omega), wr_i, if_neg (by omega)]
theorem yT_e (h : Hp) : (yT h).1 253 0 = nI 0 ∧ (yT h).1 254 0 = nI 0 ∧ (yT h).1 255 0 = jN 1 ∧ (yT h).1 251 11 = h.1 253 0 := by
  unfold yT
  refine ⟨?_, ?_, wr_at _ _ _ _, ?_⟩
  · rw [wr_c _ _ _ _ (by omega), wr_c _ _ _ _ (by omega), wr_at]; rfl
  · rw [wr_c _ _ _ _ (by omega), wr_at]; rfl
  · rw [wr_c _ _ _ _ (by omega), wr_c _ _ _ _ (by omega), wr_c _ _ _ _ (by omega), wr_at]
/-- the model's counts alone -/
def CM (h : Hp) (c : Nat → Nat) : Prop := ∀ s, s < 4 → c s ≤ 2 ∧ h.1 256 s = nI (c s)
theorem m_text {h : Hp} {c : Nat → Nat} (H : CM h c) (x y : Int32) : M_text h x y = if plc c x y = true then M_text_j75 x y (yT h) else some (jN 2, yT h) := by
  have l6 : ln 256 = 16 := lnm.2.2.2.2.1
  have Hy : ∀ s, s < 4 → (yT h).1 256 s = nI (c s) := fun s hs => by rw [yT_o h _ _ (by omega), (H s hs).2]
  unfold M_text M_text_j72
  rw [cl0, bnd_eq, wr_c _ _ _ _ (show 253 ≠ 251 by omega), bnd_eq, bnd_eq, bnd_eq, bnd_eq, show M_in x (0 : Int32) (3 : Int32) = some (bI (iz x 0 4)) from q_in x (a := 0) (b := 3) (by omega) (by omega), sb, bI_it0]
  show (if iz x 0 4 = true then (if y = (-1 : Int32) then (if inb x (ln 256) then (if (yT h).1 256 (Int32.toNatClampNeg x) = (2 : Int32) then some ((-2 : Int32), yT h) else M_text_j75 x y (yT h)) else none) else (M_is (yT h) x y).bind fun r21 => if r21 = 0 then some ((-2 : Int32), yT h) else M_text_j75 x y (yT h)) else some ((-2 : Int32), yT h)) = _
  unfold plc
  by_cases d : iz x 0 4 = true
  case neg =>
    rw [if_neg d, eq_false_of_ne_true d, Bool.false_and, if_neg (by decide)]
    rfl
  rw [if_pos d, d, Bool.true_and]
  obtain ⟨s, hs, hs2, rfl⟩ := iz_0 d
  have hc := (H s hs).1
  by_cases c1 : y = jN 1
  · rw [if_pos (show y = (-1 : Int32) from c1), if_pos c1, if_pos (show inb (nI s) (ln 256) by rw [l6]; exact nI_in (by omega) (by omega)), nI_clamp hs2, Hy s hs]
    by_cases c2 : c s = 2
    · rw [if_pos (show nI (c s) = (2 : Int32) by rw [c2]; rfl), decide_eq_false (by omega), if_neg (by decide)]
      rfl
    · rw [if_neg (show ¬ nI (c s) = (2 : Int32) from ne_nI (b := 2) (by omega) (by omega) c2), decide_eq_true (show c s < 2 by omega), if_pos rfl]
  · rw [if_neg (show ¬ y = (-1 : Int32) from c1), if_neg c1]
    unfold M_is
    rw [if_pos (show inb (nI s) (ln 256) by rw [l6]; exact nI_in (by omega) (by omega)), nI_clamp hs2, Hy s hs, show M_in y (0 : Int32) (nI (c s) - (1 : Int32)) = some (bI (iz y 0 (c s))) from q_in0 y (by omega), sb]
    cases iz y 0 (c s)
    · rw [if_pos (show bI false = 0 ∨ bI false = 1 from Or.inl rfl), sb, if_pos (show bI false = 0 from rfl), if_neg (show ¬ false = true by decide)]
      rfl
    · rw [if_pos (show bI true = 0 ∨ bI true = 1 from Or.inr rfl), sb, if_neg (show ¬ bI true = 0 from bt_0), if_pos rfl]
/-- the slot -/
theorem plc_k {c : Nat → Nat} {x y : Int32} (hc : ∀ s, s < 4 → c s ≤ 2) (h : plc c x y = true) : ∃ s k c', s < 4 ∧ k < 2 ∧ x = nI s ∧ ((c' = c s ∧ k < c s ∧ y = nI k) ∨ (k = c s ∧ c' = c s + 1 ∧ y = jN 1)) := by
  unfold plc at h
  rw [Bool.and_eq_true] at h
  obtain ⟨d, e⟩ := h
  obtain ⟨s, hs, hs2, rfl⟩ := iz_0 d
  have := hc s hs
  rw [nI_clamp hs2] at e
  by_cases c1 : y = jN 1
  · rw [if_pos c1, decide_eq_true_eq] at e
    exact ⟨s, c s, c s + 1, hs, e, rfl, Or.inr ⟨rfl, rfl, c1⟩⟩
  · rw [if_neg c1] at e
    obtain ⟨k, hk, hk2, rfl⟩ := iz_0 e
    exact ⟨s, k, c s, hs, by omega, rfl, Or.inl ⟨rfl, hk, rfl⟩⟩
/-- what the code keeps -/
def Kp (h h' : Hp) (s k c' : Nat) : Prop := h'.1 7 s = nI c' ∧ (s = 0 → ∀ n, wI n → CH h 47 n → CH h' (8 + 6 * k) n) ∧ (1 ≤ s → ∀ m f, m ≤ lmT s → CL h 53 m f → CL h' (20 + 8 * (s - 1) + 4 * k) m f) ∧ Fr (fun c i => (c = 7 ∧ i = s) ∨ (s = 0 ∧ 8 + 6 * k ≤ c ∧ c < 8 + 6 * k + 6) ∨ (1 ≤ s ∧ 20 + 8 * (s - 1) + 4 * k ≤ c ∧ c < 20 + 8 * (s - 1) + 4 * k + 4)) h h'
theorem q_tkeep {h : Hp} {c : Nat → Nat} (H : CC h c) {x y : Int32} {s k c' : Nat} (hs : s < 4) (hk : k < 2) (hx : x = nI s) (hy : (c' = c s ∧ k < c s ∧ y = nI k) ∨ (k = c s ∧ c' = c s + 1 ∧ y = jN 1)) (hl : 1 ≤ s → ∃ m f, m ≤ lmT s ∧ CL h 53 m f) : Okk (D_keep h 2 x y 46) (fun r => r.1 = nI k ∧ Kp h r.2 s k c') := by
  obtain ⟨k0, k1, k2, k3, k4, k5, k6, k7, k8⟩ := kd29
  have hcs := (H s hs).1
  have ep : plc c x y = true := by
    unfold plc
    rw [hx, iz_nI 0 4 (by omega), decide_eq_true (by omega), Bool.true_and, nI_clamp (show s < 2 ^ 31 by omega)]
    rcases hy with ⟨a1, a2, a3⟩ | ⟨a1, a2, a3⟩
    · rw [a3, if_neg (fun c => Eq.mp ((NJ k 1 (by omega) (by omega)).2.2.2.2.1 (by omega)) c), iz_nI 0 _ (by omega), decide_eq_true (by omega)]
    · rw [a3, if_pos rfl, decide_eq_true (by omega)]
  subst hx
  have j38 : ∀ g, CC g (up c s c') → g.1 7 s = nI c' → Fr (fun c i => c = 7 ∧ i = s) h g → Okk (D_keep_j38 2 46 (nI s) (nI k) g) (fun r => r.1 = nI k ∧ Kp h r.2 s k c') := by
    intro g Hg e7 Fg
    have og : ∀ c i, ¬ (c = 7 ∧ i = s) → g.1 c i = h.1 c i := Fg
    have hkc : k < c' := by omega
    unfold D_keep_j38 D_keep_j86
    rw [c_inn Hg k hk, sb]
    by_cases s0 : s = 0
    · subst s0
      rw [up_at, if_pos hkc]
      have eL : D_linesAt g 2 (nI 0) (nI k) = some 0 := by
        unfold D_linesAt D_linesAt_j26 D_linesAt_j27
        rw [if_pos k0, if_pos (show nI 0 = (0 : Int32) from rfl)]
      have kk := (k7 k hk).2
      rw [eL, sb, if_pos rfl, if_neg (by omega), if_pos rfl, if_pos kk]
      refine okb (q_hcopy (h := g) (a := 47) (a' := 8 + 6 * k) kd47.1 kk (by omega)) ?_
      rintro g2 ⟨b1, b2⟩
      have o2 : ∀ c i, ¬ (8 + 6 * k ≤ c ∧ c < 8 + 6 * k + 6) → g2.1 c i = g.1 c i := b2
      refine ok_mk ⟨rfl, by dsimp only; rw [o2 _ _ (by omega), e7], fun _ n hw C => ?_, fun e => absurd e (by omega), fr_tr (fr_mo Fg (fun c i hc => Or.inl hc)) (fr_mo b2 (fun c i hc => Or.inr (Or.inl ⟨rfl, hc⟩)))⟩
      obtain ⟨q1, q2, q3, q4, q5⟩ := C
      have hT5 := hw.1
      refine ⟨kk, ?_, ?_, fun t ht => ?_, fun u hu => ?_⟩
      · have := b1 0 5 (by omega) (fun _ => Or.inl rfl) (fun c => absurd c (by omega)) (fun _ c => absurd c (by omega))
        rw [← q2, ← og 47 5 (by omega)]
        exact this
      · have := b1 0 6 (by omega) (fun _ => Or.inr rfl) (fun c => absurd c (by omega)) (fun _ c => absurd c (by omega))
        rw [← q3, ← og 47 6 (by omega)]
        exact this
      · obtain ⟨y1, y2, y3⟩ := q4 t ht
        refine ⟨?_, ?_, ?_⟩
        · rw [← y1, ← og (47 + 1) t (by omega)]
          exact b1 1 t (by omega) (fun c => absurd c (by omega)) (fun _ => by omega) (fun _ _ => by omega)
        · rw [← y2, ← og (47 + 2) t (by omega)]
          exact b1 2 t (by omega) (fun c => absurd c (by omega)) (fun _ => by omega) (fun _ _ => by omega)
        · rw [← y3, ← og (47 + 3) t (by omega)]
          exact b1 3 t (by omega) (fun c => absurd c (by omega)) (fun _ => by omega) (fun _ _ => by omega)
      · obtain ⟨y1, y2⟩ := q5 u hu
        refine ⟨?_, ?_⟩
        · rw [← y1, ← og (47 + 4) u (by omega)]
          exact b1 4 u (by omega) (fun c => absurd c (by omega)) (fun _ => by omega) (fun c _ => absurd c (by omega))
        · rw [← y2, ← og (47 + 5) u (by omega)]
          exact b1 5 u (by omega) (fun c => absurd c (by omega)) (fun _ => by omega) (fun c _ => absurd c (by omega))
    · obtain ⟨q, rfl⟩ : ∃ q, s = q + 1 := ⟨s - 1, by omega⟩
      have eL := c_lin Hg (s := q) (by omega) k (by rw [up_at]; exact hkc)
      obtain ⟨-, kk, kl⟩ := k8 q (by omega) k hk
      obtain ⟨m, f, hm, CLm⟩ := hl (by omega)
      have l53 := kd47.2.2.2.2.2.2.2.2.2.2.2.2
      rw [eL, sb, if_neg (by omega), if_pos rfl, if_pos kk]
      have h40 := lmT_le (q + 1)
      have C53 : CL g 53 m f := by
        obtain ⟨q1, q2, q3, q4⟩ := CLm
        exact ⟨q1, by rw [og _ _ (by omega)]; exact q2, q3, fun i hi => by rw [og _ _ (by omega), og _ _ (by omega), og _ _ (by omega)]; exact q4 i hi⟩
      refine okb (q_lcopy2 (h := g) (a := 53) (a' := 20 + 8 * q + 4 * k) (m := m) C53.1 kk (by omega) C53.2.1 C53.2.2.1 (by rw [kl]; exact hm)) ?_
      rintro g2 ⟨b0, b1, b2⟩
      have o2 : ∀ c i, ¬ (20 + 8 * q + 4 * k ≤ c ∧ c < 20 + 8 * q + 4 * k + 4) → g2.1 c i = g.1 c i := b2
      refine ok_mk ⟨rfl, by dsimp only; rw [o2 _ _ (by omega), e7], fun e => absurd e (by omega), fun _ m2 f2 hm2 C2 => ?_, fr_tr (fr_mo Fg (fun c i hc => Or.inl hc)) (fr_mo b2 (fun c i hc => Or.inr (Or.inr ⟨by omega, by omega, by omega⟩)))⟩
      obtain ⟨q1, q2, q3, q4⟩ := C2
      have em : m2 = m := (nI_eq (by omega) (by omega)).mp (q2.symm.trans CLm.2.1)
      subst em
      rw [show q + 1 - 1 = q by omega]
      refine ⟨kk, b0, by rw [kl]; exact hm2, fun i hi => ?_⟩
      obtain ⟨y1, y2, y3⟩ := q4 i hi
      refine ⟨?_, ?_, ?_⟩
      · rw [b1 i hi 1 (by omega) (by omega), og _ _ (by omega), y1]
      · rw [b1 i hi 2 (by omega) (by omega), og _ _ (by omega), y2]
      · rw [b1 i hi 3 (by omega) (by omega), og _ _ (by omega), y3]
  unfold D_keep
  rw [if_pos k0, c_plc H, ep, sb, if_neg bt_0]
  rcases hy with ⟨a1, a2, a3⟩ | ⟨a1, a2, a3⟩
  · subst a3
    rw [if_neg (ne_m1 (by omega))]
    refine j38 h (fun q hq => ?_) (by rw [(H s hs).2, a1]) fr_rfl
    by_cases cq : q = s
    · subst cq
      rw [up_at]
      exact ⟨by omega, by rw [(H q hq).2, a1]⟩
    · rw [up_ne _ _ cq]
      exact H q hq
  · subst a3
    rw [if_pos (show jN 1 = (-1 : Int32) from rfl)]
    show Okk (if kd 7 = 20 ∧ inb (nI s) (ln 7) then _ else none) _
    have hin : kd 7 = 20 ∧ inb (nI s) (ln 7) := ⟨k5, by rw [k6]; exact nI_in hs (by omega)⟩
    rw [if_pos hin, bnd_eq]
    show Okk (if kd 7 = 20 ∧ inb (nI s) (ln 7) then (if kd 7 = 20 ∧ inb (nI s) (ln 7) then _ else none) else none) _
    rw [if_pos hin, if_pos hin, bnd_eq, nI_clamp (show s < 2 ^ 31 by omega)]
    show Okk (D_keep_j38 2 46 (nI s) (h.1 7 s) (wr h 7 s (h.1 7 s + (1 : Int32)))) _
    rw [(H s hs).2, ← a1, show nI k + (1 : Int32) = nI (k + 1) from nI_add _ _]
    refine j38 _ (fun q hq => ?_) (by rw [wr_at, a2, ← a1]) (fr_wr ⟨rfl, rfl⟩)
    by_cases cq : q = s
    · subst cq
      rw [up_at, wr_at]
      exact ⟨by omega, by rw [a2, ← a1]⟩
    · rw [up_ne _ _ cq, wr_p _ _ _ _ cq]
      exact H q hq
theorem q_both {X : Tx} {h : Hp} (hX : okX X) (TX : TC X h) {s : Nat} (hs : s < 4) : ∃ f : Nat × Nat, f.1 ≤ 4 ∧ Okk (R_read h (nI s)) (fun h' => CF h' f ∧ (f.1 = 0 → (s = 0 → CH h' 47 (FI X).2.1 ∧ wI (FI X).2.1) ∧ (1 ≤ s → (FL s X).2.1 ≤ lmT s ∧ (∀ i, i < (FL s X).2.1 → wfL s ((FL s X).2.2 i)) ∧ CL h' 53 (FL s X).2.1 (FL s X).2.2)) ∧ Fr pR0 h h') ∧ ∀ h1, MTx X h1 → Okk (M_readText h1 (nI s)) (fun r => r.1 = bI (decide (f.1 = 0)) ∧ MF r.2 f ∧ (f.1 = 0 → (s = 0 → MDI r.2 (FI X).1 (FI X).2 ∧ (FI X).1.2.1 = 0) ∧ (1 ≤ s → MDL s r.2 (FL s X).1 (FL s X).2 ∧ (FL s X).1.2.1 = 0)) ∧ Fr pMr h1 r.2) := by
  by_cases s0 : s = 0
  · subst s0
    have W := FI_w X
    refine ⟨endI X, ?_, ?_, ?_⟩
    · unfold endI
      by_cases d : (FI X).1.2.1 = 0 ∧ ¬ sr (FI X).2.2 (nI (nG (FI X).2.1)) = nI 0
      · rw [if_pos d]; exact Nat.le_refl _
      · rw [if_neg d]
        obtain ⟨r, hr, -⟩ := q_mrI (X := X) (h := (fun c i => if c = 251 then nI X.2 else nI (X.1 i), 0)) hX ⟨rfl, fun i hi => by
          show nI (X.1 i) &&& nI 255 = nI (X.1 i)
          exact (by decide +kernel : ∀ n, n < 256 → nI n &&& nI 255 = nI n) _ (hX.2 i)⟩
        obtain ⟨r2, hr2, g1, -⟩ := q_readI (X := X) (h := h) hX TX
        obtain ⟨h3, hr3, C3, -⟩ := (show Okk (R_read h (nI 0)) (fun h' => (FI X).1.2.1 ≤ 3 ∧ True) from by
          refine q_rbeg hX TX ?_
          intro h1 C a5 a6 a53 a8 ag F1
          refine q_loop hX (stp X (gI X)) DI (fun h S D C I hS => q_rlI hX C I hS) (fun S D h1 h2 _ => stI_m h1 h2) C (D := D0I) ⟨⟨0, by omega, a5⟩, fun _ => ⟨⟨kd47.1, a5, a6, fun t ht => absurd ht (Nat.not_lt_zero _), ag⟩, Nat.zero_le _, a8⟩⟩ (show (0 : Nat) ≠ 1 by omega) ?_
          intro h2 C2 H2 F2
          have hle : (FI X).1.2.1 ≤ 3 := C2.2.1
          unfold R_read_j73 R_read_j99
          unfold H_hasAll H_hasAll_j14
          rw [if_pos (show kd 47 = 1 from kd47.1)]
          have eN : ∃ h3, R_note h2 (4 : Int32) (h2.1 3 1) = some h3 := by
            unfold R_note R_note_j17
            by_cases d : h2.1 46 3 = 0
            · rw [if_pos d, bnd_eq, bnd_eq]; exact ⟨_, rfl⟩
            · rw [if_neg d]; exact ⟨_, rfl⟩
          obtain ⟨h3, eN⟩ := eN
          by_cases d : sr (h2.1 46 8) (h2.1 47 6) = 0
          · rw [if_pos d, if_pos (Or.inr rfl), sb, if_neg (by decide +kernel)]
            exact ok_mk ⟨hle, trivial⟩
          · rw [if_neg d, if_pos (Or.inl rfl), sb, if_pos rfl, eN, sb]
            exact ok_mk ⟨hle, trivial⟩)
        exact Nat.le_succ_of_le C3
    · refine okw (q_readI hX TX) ?_
      rintro h' ⟨g1, g2, g3⟩
      refine ⟨g1, fun e => ⟨fun _ => ?_, fun e => absurd e (by omega)⟩, g3⟩
      have hz : (FI X).1.2.1 = 0 ∧ sr (FI X).2.2 (nI (nG (FI X).2.1)) = nI 0 := by
        unfold endI at e
        by_cases d : (FI X).1.2.1 = 0 ∧ ¬ sr (FI X).2.2 (nI (nG (FI X).2.1)) = nI 0
        · rw [if_pos d] at e
          exact absurd e (by show ¬ 4 = 0; omega)
        · rw [if_neg d] at e
          refine ⟨e, ?_⟩
          by_cases d2 : sr (FI X).2.2 (nI (nG (FI X).2.1)) = nI 0
          · exact d2
          · exact absurd ⟨e, d2⟩ d
      have WJ := W hz.1
      exact ⟨g2 e, wJ_I WJ (sr_lo (by have := WJ.2.2.1; omega) hz.2)⟩
    · intro h1 T1
      refine okw (q_mrI hX T1) ?_
      rintro r ⟨g1, g2, g3, g4⟩
      exact ⟨g1, g2, fun e => ⟨fun _ => ⟨(g3 e).2, (g3 e).1⟩, fun e => absurd e (by omega)⟩, g4⟩
  · have s1 : 1 ≤ s := by omega
    have W := FL_w s1 hs X
    refine ⟨endL s X, ?_, ?_, ?_⟩
    · obtain ⟨h3, hr3, C3, -⟩ := (show Okk (R_read h (nI s)) (fun h' => (FL s X).1.2.1 ≤ 3 ∧ True) from by
        refine q_rbeg hX TX ?_
        intro h1 C a5 a6 a53 a8 ag F1
        refine q_loop hX (stp X (gD s X)) DL (fun h S D C I hS => q_rlD hX C I hS s1 hs) (fun S D h1 h2 _ => stD_m h1 h2) C (D := D0L) ⟨⟨0, by omega, a53⟩, a8, a6, fun _ => ⟨Nat.zero_le _, a53, fun i hi => absurd hi (Nat.not_lt_zero _)⟩⟩ (show (0 : Nat) ≠ 1 by omega) ?_
        intro h2 C2 H2 F2
        have hle : (FL s X).1.2.1 ≤ 3 := C2.2.1
        obtain ⟨-, h8, h6, hc⟩ := H2
        unfold R_read_j73 R_read_j99
        rw [q_hall _ h6, h8, if_pos (show sr (0 : Int32) (nI 4) = nI 0 by decide +kernel), sb, if_neg (show ¬ nI 1 = (0 : Int32) by decide +kernel)]
        exact ok_mk ⟨hle, trivial⟩)
      exact Nat.le_succ_of_le C3
    · refine okw (q_readL hX TX s1 hs) ?_
      rintro h' ⟨g1, g2, g3⟩
      exact ⟨g1, fun e => ⟨fun e => absurd e s0, fun _ => ⟨(W e).1, (W e).2, g2 e⟩⟩, g3⟩
    · intro h1 T1
      refine okw (q_mrL s1 hs hX T1) ?_
      rintro r ⟨g1, g2, g3, g4⟩
      exact ⟨g1, g2, fun e => ⟨fun e => absurd e s0, fun _ => ⟨g3 e, e⟩⟩, g4⟩
/-- where cells of all that is told are, but those that a text changes -/
theorem tx_a {c i : Nat} (a1 : (2 ≤ c ∧ c ≤ 45) ∨ (125 ≤ c ∧ c ≤ 250) ∨ (252 ≤ c ∧ c ≤ 260) ∨ c = 280) (a2 : ¬ ((c = 2 ∧ (i = 4 ∨ i = 5)) ∨ (c = 3 ∧ i = 1) ∨ (253 ≤ c ∧ c ≤ 255 ∧ i = 0))) : (¬ ((c = 251 ∧ 10 ≤ i ∧ i ≤ 22 ∧ i ≠ 11) ∨ c = 261 ∨ c = 262 ∨ (c = 254 ∧ i = 0) ∨ (c = 255 ∧ i = 0))) ∧ (¬ ((c = 251 ∧ (i = 0 ∨ i = 11)) ∨ (253 ≤ c ∧ c ≤ 255 ∧ i = 0))) ∧ ¬ ((c = 2 ∧ (i = 4 ∨ i = 5)) ∨ (c = 3 ∧ i = 1) ∨ (c = 46 ∧ 3 ≤ i ∧ i ≤ 8) ∨ (47 ≤ c ∧ c ≤ 56)) := by
  refine ⟨?_, ?_, ?_⟩ <;> omega
theorem tx_inv {h h5 h6 h8 : Hp} (I : Inv h) {c : Nat → Nat} (C : XC h 0 c) {s k c' : Nat} (hs : s < 4) (hk : k < 2) (hc2 : (c' = c s ∧ k < c s) ∨ (k = c s ∧ c' = c s + 1)) (o : ∀ c i, ¬ ((c = 2 ∧ (i = 4 ∨ i = 5)) ∨ (c = 3 ∧ i = 1) ∨ (c = 46 ∧ 3 ≤ i ∧ i ≤ 8) ∨ (47 ≤ c ∧ c ≤ 56)) → ¬ ((c = 7 ∧ i = s) ∨ (s = 0 ∧ 8 + 6 * k ≤ c ∧ c < 8 + 6 * k + 6) ∨ (1 ≤ s ∧ 20 + 8 * (s - 1) + 4 * k ≤ c ∧ c < 20 + 8 * (s - 1) + 4 * k + 4)) → h5.1 c i = h.1 c i) (e31 : h5.1 3 1 = nI 0) (e24 : h5.1 2 4 = nI 0) (e25 : h5.1 2 5 = jN 1) (e7 : h5.1 7 s = nI c') (F6 : Fr pMr (yT h5) h6) (m4 : h6.1 254 0 = nI 0) (m5 : h6.1 255 0 = jN 1) (F8 : Fr (fun d i => (s = 0 ∧ d = 257 ∧ 33 * k ≤ i ∧ i < 33 * k + 33) ∨ (s = 1 ∧ d = 258 ∧ 121 * k ≤ i ∧ i < 121 * k + 121) ∨ (s = 2 ∧ d = 259 ∧ 31 * k ≤ i ∧ i < 31 * k + 31) ∨ (s = 3 ∧ d = 260 ∧ 8 * k ≤ i ∧ i < 8 * k + 8)) (wr h6 256 s (nI c')) h8) (n0 : s = 0 → X0 h8 0 k) (n1 : s = 1 → X1 h8 0 k) (n2 : s = 2 → X2 h8 0 k) (n3 : s = 3 → X3 h8 0 k) : Inv h8 := by
  have o6 := pmr_o F6
  have oy := yT_o h5
  have ey := (yT_e h5).1
  have o8 : ∀ d i, ¬ ((s = 0 ∧ d = 257 ∧ 33 * k ≤ i ∧ i < 33 * k + 33) ∨ (s = 1 ∧ d = 258 ∧ 121 * k ≤ i ∧ i < 121 * k + 121) ∨ (s = 2 ∧ d = 259 ∧ 31 * k ≤ i ∧ i < 31 * k + 31) ∨ (s = 3 ∧ d = 260 ∧ 8 * k ≤ i ∧ i < 8 * k + 8)) → h8.1 d i = (wr h6 256 s (nI c')).1 d i := F8
  have lo8 : ∀ d i, d < 256 → h8.1 d i = h6.1 d i := fun d i hd => by
    rw [o8 d i (by rintro (e | e | e | e) <;> omega), wr_c _ _ _ _ (by omega)]
  have lo6 : ∀ d i, d < 251 → h8.1 d i = h5.1 d i := fun d i hd => by
    rw [lo8 d i (by omega), o6 d i (by rintro (e | e | e | e | e) <;> omega), oy d i (by rintro (e | e) <;> omega)]
  refine inv_nw I C hs hk hc2 (fun c i a1 a2 a3 a4 => ?_) ?_ ?_ ?_ ?_ ?_ ?_ n0 n1 n2 n3
  · obtain ⟨y1, y2, y3⟩ := tx_a a1 a2
    rw [o8 c i (fun e => a4 (Or.inr e)), wr_i, if_neg (fun e => a4 (Or.inl e)), o6 c i y1, oy c i y2, o c i y3 a3]
  · rw [lo6 3 1 (by omega), e31]
  · rw [lo8 253 0 (by omega), o6 253 0 (by omega), ey]
  · rw [lo6 2 4 (by omega), e24, lo8 254 0 (by omega), m4]
  · rw [lo6 2 5 (by omega), e25, lo8 255 0 (by omega), m5]
  · rw [lo6 7 s (by omega), e7]
  · rw [o8 256 s (by rintro (e | e | e | e) <;> omega), wr_at]
theorem tx_m {X : Tx} {h h5 h6 : Hp} (I : Inv h) {c : Nat → Nat} (C : XC h 0 c) {s k c' : Nat} (hs : s < 4) (hk : k < 2) (hc2 : (c' = c s ∧ k < c s) ∨ (k = c s ∧ c' = c s + 1)) (o : ∀ c i, ¬ ((c = 2 ∧ (i = 4 ∨ i = 5)) ∨ (c = 3 ∧ i = 1) ∨ (c = 46 ∧ 3 ≤ i ∧ i ≤ 8) ∨ (47 ≤ c ∧ c ≤ 56)) → ¬ ((c = 7 ∧ i = s) ∨ (s = 0 ∧ 8 + 6 * k ≤ c ∧ c < 8 + 6 * k + 6) ∨ (1 ≤ s ∧ 20 + 8 * (s - 1) + 4 * k ≤ c ∧ c < 20 + 8 * (s - 1) + 4 * k + 4)) → h5.1 c i = h.1 c i) (e31 : h5.1 3 1 = nI 0) (e24 : h5.1 2 4 = nI 0) (e25 : h5.1 2 5 = jN 1) (e7 : h5.1 7 s = nI c') (F6 : Fr pMr (yT h5) h6) (m4 : h6.1 254 0 = nI 0) (m5 : h6.1 255 0 = jN 1) (cd0 : s = 0 → CH h5 (8 + 6 * k) (FI X).2.1 ∧ wI (FI X).2.1) (cd1 : 1 ≤ s → (FL s X).2.1 ≤ lmT s ∧ (∀ i, i < (FL s X).2.1 → wfL s ((FL s X).2.2 i)) ∧ CL h5 (20 + 8 * (s - 1) + 4 * k) (FL s X).2.1 (FL s X).2.2) (g30 : s = 0 → MDI h6 (FI X).1 (FI X).2 ∧ (FI X).1.2.1 = 0) (g31 : 1 ≤ s → MDL s h6 (FL s X).1 (FL s X).2 ∧ (FL s X).1.2.1 = 0) (v : Int32) (hv : nI (c s) + v = nI c') : Okk (M_text_j118 (nI s) (nI k) (nI s) (nI (c s)) v h6) (fun q => q.1 = nI k ∧ Inv q.2) := by
  have l6 : ln 256 = 16 := lnm.2.2.2.2.1
  have e0 : tA 0 = 2 := rfl
  have oy := yT_o h5
  have o6 := pmr_o F6
  unfold M_text_j118
  rw [if_pos (show inb (nI s) (ln 256) by rw [l6]; exact nI_in (by omega) (by omega)), nI_clamp (show s < 2 ^ 31 by omega), hv, bnd_eq]
  have o7 : ∀ c i, ¬ (c = 256 ∧ i = s) → (wr h6 256 s (nI c')).1 c i = h6.1 c i := fun c i hc => by rw [wr_i, if_neg hc]
  obtain ⟨h7, eh7⟩ : ∃ h7, wr h6 256 s (nI c') = h7 := ⟨_, rfl⟩
  rw [eh7] at o7 ⊢
  have inv : ∀ h8, Fr (fun d i => (s = 0 ∧ d = 257 ∧ 33 * k ≤ i ∧ i < 33 * k + 33) ∨ (s = 1 ∧ d = 258 ∧ 121 * k ≤ i ∧ i < 121 * k + 121) ∨ (s = 2 ∧ d = 259 ∧ 31 * k ≤ i ∧ i < 31 * k + 31) ∨ (s = 3 ∧ d = 260 ∧ 8 * k ≤ i ∧ i < 8 * k + 8)) h7 h8 → (s = 0 → X0 h8 0 k) → (s = 1 → X1 h8 0 k) → (s = 2 → X2 h8 0 k) → (s = 3 → X3 h8 0 k) → Inv h8 := fun h8 F8 n0 n1 n2 n3 => tx_inv I C hs hk hc2 o e31 e24 e25 e7 F6 m4 m5 (by rw [eh7]; exact F8) n0 n1 n2 n3
  clear hc2 hv
  have ok : ∀ c i, c < 251 → h7.1 c i = h5.1 c i := fun c i hc => by
    rw [o7 c i (by omega), o6 c i (by rintro (e | e | e | e | e) <;> omega), oy c i (by rintro (e | e) <;> omega)]
  have o261 : ∀ i, h7.1 261 i = h6.1 261 i := fun i => o7 _ _ (by omega)
  have l257 : kd 257 = 20 ∧ kd 258 = 20 ∧ kd 259 = 20 ∧ kd 260 = 20 ∧ ln 257 = 264 ∧ ln 258 = 968 ∧ ln 259 = 248 ∧ ln 260 = 64 := by decide +kernel
  obtain ⟨z1, z2, z3, z4, z5, z6, z7, z8⟩ := l257
  unfold M_storeAll
  rcases (by omega : s = 0 ∨ s = 1 ∨ s = 2 ∨ s = 3) with rfl | rfl | rfl | rfl
  · rw [if_pos (show nI 0 = (0 : Int32) from rfl)]
    refine okb (P := fun h8 => (∀ i, i < 33 → h8.1 257 (33 * k + i) = h7.1 261 i) ∧ Fr (fun d i => d = 257 ∧ 33 * k ≤ i ∧ i < 33 * k + 33) h7 h8) (okb (q_store (h := h7) (n := 33) (k := k) z1 z5 (by omega) (by omega) (by omega) (by omega)) (fun h8 H => ok_mk H)) ?_
    rintro h8 ⟨b1, b2⟩
    have o8 : ∀ d i, ¬ (d = 257 ∧ 33 * k ≤ i ∧ i < 33 * k + 33) → h8.1 d i = h7.1 d i := b2
    obtain ⟨⟨-, hd⟩, hz⟩ := g30 rfl
    obtain ⟨a1, a2, a3, a4, a5, -⟩ := hd hz
    obtain ⟨ch, hw⟩ := cd0 rfl
    have q := ch
    refine ok_mk ⟨rfl, inv h8 (fr_mo b2 (fun c i hc => Or.inl ⟨rfl, hc⟩)) (fun _ => ⟨(FI X).2.1, hw, ?_, ?_⟩) (fun e => absurd e (by decide)) (fun e => absurd e (by decide)) (fun e => absurd e (by decide))⟩
    · rw [e0, show 2 + 6 + 6 * k = 8 + 6 * k by omega]
      exact chf hw q (fun c i h1 h2 => by rw [o8 _ _ (by omega), ok _ _ (by omega)])
    · rw [show 2 * 0 + k = k by omega]
      have b : ∀ i, i < 33 → h8.1 257 (33 * k + i) = h6.1 261 i := fun i hi => by rw [b1 i hi, o261]
      refine ⟨?_, ?_, fun t ht => ?_, fun g hg => ?_⟩
      · have := b 0 (by omega)
        rw [Nat.add_zero] at this
        rw [this, a2]
      · rw [b 1 (by omega), a3]
      · have := a4 t ht
        have hT5 := hw.1
        rw [show 33 * k + (2 + 3 * t) = 33 * k + (2 + 3 * t) from rfl, b _ (by omega), b _ (by omega), b _ (by omega)]
        exact this
      · rw [b _ (by omega), b _ (by omega)]
        exact a5 g hg
  · rw [if_neg (show ¬ nI 1 = (0 : Int32) by decide +kernel), if_pos (show nI 1 = (1 : Int32) from rfl)]
    refine okb (P := fun h8 => (∀ i, i < 121 → h8.1 258 (121 * k + i) = h7.1 261 i) ∧ Fr (fun d i => d = 258 ∧ 121 * k ≤ i ∧ i < 121 * k + 121) h7 h8) (okb (q_store (h := h7) (n := 121) (k := k) z2 z6 (by omega) (by omega) (by omega) (by omega)) (fun h8 H => ok_mk H)) ?_
    rintro h8 ⟨b1, b2⟩
    have o8 : ∀ d i, ¬ (d = 258 ∧ 121 * k ≤ i ∧ i < 121 * k + 121) → h8.1 d i = h7.1 d i := b2
    obtain ⟨⟨-, hd⟩, hz⟩ := g31 (by omega)
    obtain ⟨a1, a2, a3⟩ := hd hz
    obtain ⟨w1, w2, ch⟩ := cd1 (by omega)
    have q := ch
    refine ok_mk ⟨rfl, inv h8 (fr_mo b2 (fun c i hc => Or.inr (Or.inl ⟨rfl, hc⟩))) (fun e => absurd e (by decide)) (fun _ => ⟨(FL 1 X).2.1, (FL 1 X).2.2, ?_, ?_, fun i hi => w2 i hi⟩) (fun e => absurd e (by decide)) (fun e => absurd e (by decide))⟩
    · rw [e0, show 2 + 18 + 8 * 0 + 4 * k = 20 + 8 * (1 - 1) + 4 * k by omega]
      exact clf q (fun c i h1 h2 => by rw [o8 _ _ (by omega), ok _ _ (by omega)])
    · rw [show 2 * 0 + k = k by omega]
      have b : ∀ i, i < 121 → h8.1 258 (121 * k + i) = h6.1 261 i := fun i hi => by rw [b1 i hi, o261]
      have w1' : (FL 1 X).2.1 ≤ 40 := w1
      refine ⟨by omega, w1', ?_, fun i hi => ?_⟩
      · have := b 0 (by omega)
        rw [Nat.add_zero] at this
        rw [this, a2]
      · have := a3 i hi
        rw [if_neg (by decide)] at this
        rw [b _ (by omega), b _ (by omega), b _ (by omega)]
        exact this
  · rw [if_neg (show ¬ nI 2 = (0 : Int32) by decide +kernel), if_neg (show ¬ nI 2 = (1 : Int32) by decide +kernel), if_pos (show nI 2 = (2 : Int32) from rfl)]
    refine okb (P := fun h8 => (∀ i, i < 31 → h8.1 259 (31 * k + i) = h7.1 261 i) ∧ Fr (fun d i => d = 259 ∧ 31 * k ≤ i ∧ i < 31 * k + 31) h7 h8) (okb (q_store (h := h7) (n := 31) (k := k) z3 z7 (by omega) (by omega) (by omega) (by omega)) (fun h8 H => ok_mk H)) ?_
    rintro h8 ⟨b1, b2⟩
    have o8 : ∀ d i, ¬ (d = 259 ∧ 31 * k ≤ i ∧ i < 31 * k + 31) → h8.1 d i = h7.1 d i := b2
    obtain ⟨⟨-, hd⟩, hz⟩ := g31 (by omega)
    obtain ⟨a1, a2, a3⟩ := hd hz
    obtain ⟨w1, w2, ch⟩ := cd1 (by omega)
    have q := ch
    refine ok_mk ⟨rfl, inv h8 (fr_mo b2 (fun c i hc => Or.inr (Or.inr (Or.inl ⟨rfl, hc⟩)))) (fun e => absurd e (by decide)) (fun e => absurd e (by decide)) (fun _ => ⟨(FL 2 X).2.1, (FL 2 X).2.2, ?_, ?_, fun i hi => w2 i hi⟩) (fun e => absurd e (by decide))⟩
    · rw [e0, show 2 + 18 + 8 * 1 + 4 * k = 20 + 8 * (2 - 1) + 4 * k by omega]
      exact clf q (fun c i h1 h2 => by rw [o8 _ _ (by omega), ok _ _ (by omega)])
    · rw [show 2 * 0 + k = k by omega]
      have b : ∀ i, i < 31 → h8.1 259 (31 * k + i) = h6.1 261 i := fun i hi => by rw [b1 i hi, o261]
      have w1' : (FL 2 X).2.1 ≤ 10 := w1
      refine ⟨by omega, w1', ?_, fun i hi => ?_⟩
      · have := b 0 (by omega)
        rw [Nat.add_zero] at this
        rw [this, a2]
      · have := a3 i hi
        rw [if_neg (by decide)] at this
        rw [b _ (by omega), b _ (by omega), b _ (by omega)]
        exact this
  · rw [if_neg (show ¬ nI 3 = (0 : Int32) by decide +kernel), if_neg (show ¬ nI 3 = (1 : Int32) by decide +kernel), if_neg (show ¬ nI 3 = (2 : Int32) by decide +kernel)]
    refine okb (P := fun h8 => (∀ i, i < 8 → h8.1 260 (8 * k + i) = h7.1 261 i) ∧ Fr (fun d i => d = 260 ∧ 8 * k ≤ i ∧ i < 8 * k + 8) h7 h8) (okb (q_store (h := h7) (n := 8) (k := k) z4 z8 (by omega) (by omega) (by omega) (by omega)) (fun h8 H => ok_mk H)) ?_
    rintro h8 ⟨b1, b2⟩
    have o8 : ∀ d i, ¬ (d = 260 ∧ 8 * k ≤ i ∧ i < 8 * k + 8) → h8.1 d i = h7.1 d i := b2
    obtain ⟨⟨-, hd⟩, hz⟩ := g31 (by omega)
    obtain ⟨a1, a2, a3⟩ := hd hz
    obtain ⟨w1, w2, ch⟩ := cd1 (by omega)
    have q := ch
    refine ok_mk ⟨rfl, inv h8 (fr_mo b2 (fun c i hc => Or.inr (Or.inr (Or.inr ⟨rfl, hc⟩)))) (fun e => absurd e (by decide)) (fun e => absurd e (by decide)) (fun e => absurd e (by decide)) (fun _ => ⟨(FL 3 X).2.1, (FL 3 X).2.2, ?_, ?_, fun i hi => w2 i hi⟩)⟩
    · rw [e0, show 2 + 18 + 8 * 2 + 4 * k = 20 + 8 * (3 - 1) + 4 * k by omega]
      exact clf q (fun c i h1 h2 => by rw [o8 _ _ (by omega), ok _ _ (by omega)])
    · rw [show 2 * 0 + k = k by omega]
      have b : ∀ i, i < 8 → h8.1 260 (8 * k + i) = h6.1 261 i := fun i hi => by rw [b1 i hi, o261]
      have w1' : (FL 3 X).2.1 ≤ 7 := w1
      refine ⟨by omega, w1', ?_, fun i hi => ?_⟩
      · have := b 0 (by omega)
        rw [Nat.add_zero] at this
        rw [this, a2]
      · have := a3 i hi
        rw [if_pos rfl] at this
        rw [b _ (by omega)]
        exact this
theorem t_text {h : Hp} (I : Inv h) (x1 x2 : Int32) : Sm (K_text h x1 x2) (fun h1 => M_text h1 x1 x2) := by
  obtain ⟨⟨len, t1, t2, t3, t4⟩, -, ⟨c, C, -⟩, -⟩ := Rt_x.mp (I.1 0 (by omega))
  have e0 : tA 0 = 2 := rfl
  have t2' : h.1 3 1 = nI len := t2
  have t3' : h.1 253 0 = nI len := t3
  have t4' : ∀ i, i < 600 → h.1 4 i = h.1 252 i &&& nI 255 := fun i hi => by
    have := t4 i hi
    rw [show 600 * 0 + i = i by omega] at this
    exact this
  have hCC : CC h c := fun s hs => ⟨(C s hs).1, (C s hs).2.1⟩
  have hCM : ∀ h1 : Hp, (∀ i, h1.1 256 i = h.1 256 i) → CM h1 c := fun h1 e s hs => ⟨(C s hs).1, by
    have := (C s hs).2.2
    rw [show 4 * 0 + s = s by omega] at this
    rw [e, this]⟩
  have k29 := kd29.1
  -- the text
  have hbyte : ∀ v : Int32, ∃ n, n < 256 ∧ v &&& nI 255 = nI n := fun v => lo_ex (k := 8) (lo_ar v (lo_nI (by omega) (by omega)))
  obtain ⟨X, eX, hX, hXb⟩ : ∃ X : Tx, X.2 = len ∧ okX X ∧ ∀ i, h.1 252 i &&& nI 255 = nI (X.1 i) := by
    refine ⟨(fun i => (h.1 252 i &&& nI 255).toNatClampNeg, len), rfl, ⟨t1, fun i => ?_⟩, fun i => ?_⟩
    · obtain ⟨n, hn, e⟩ := hbyte (h.1 252 i)
      show (h.1 252 i &&& nI 255).toNatClampNeg < 256
      rw [e, nI_clamp (show n < 2 ^ 31 by omega)]
      exact hn
    · obtain ⟨n, hn, e⟩ := hbyte (h.1 252 i)
      show _ = nI (h.1 252 i &&& nI 255).toNatClampNeg
      rw [e, nI_clamp (show n < 2 ^ 31 by omega)]
  have TX : TC X h := ⟨by rw [eX]; exact t2', fun i hi => by rw [t4' i (by omega), hXb]⟩
  have MXt : ∀ h1 : Hp, (∀ i, h1.1 252 i = h.1 252 i) → h1.1 253 0 = h.1 253 0 → MTx X (yT h1) := fun h1 e2 e3 => ⟨by rw [(yT_e h1).2.2.2, e3, t3', eX], fun i hi => by rw [yT_o h1 _ _ (by omega), e2, hXb]⟩
  have le0 : ∀ l, l ≤ 600 → (0 : Int32) ≤ nI l := fun l hl => (nI_leI (a := 0) (by omega) (by omega)).mpr (Nat.zero_le _)
  unfold K_text K_text_j84 K_text_j71 K_text_j84
  rw [c_plc hCC, sb]
  by_cases ep : plc c x1 x2 = true
  case neg =>
    rw [eq_false_of_ne_true ep, if_pos (show bI false = 0 from rfl)]
    unfold D_setFault
    rw [if_pos k29, bnd_eq, bnd_eq, sb, q_cut0, wr_c _ _ _ _ (show 3 ≠ 2 by omega), wr_c _ _ _ _ (show 3 ≠ 2 by omega), t2', if_pos (le0 len t1)]
    refine ok_mk ?_
    dsimp only
    have o1 : ∀ c i, ¬ ((c = 2 ∧ (i = 4 ∨ i = 5)) ∨ (c = 3 ∧ i = 1)) → (wr (wr (wr h 2 4 0) 2 5 (-1)) 3 1 0).1 c i = h.1 c i := fun c i hc => by
      rw [wr_i, if_neg (by omega), wr_i, if_neg (by omega), wr_i, if_neg (by omega)]
    have e4 : (wr (wr (wr h 2 4 0) 2 5 (-1)) 3 1 0).1 2 4 = nI 0 := by rw [wr_c _ _ _ _ (by omega), wr_p _ _ _ _ (by omega), wr_at]; rfl
    have e5 : (wr (wr (wr h 2 4 0) 2 5 (-1)) 3 1 0).1 2 5 = jN 1 := by rw [wr_c _ _ _ _ (by omega), wr_at]; rfl
    have e31 : (wr (wr (wr h 2 4 0) 2 5 (-1)) 3 1 0).1 3 1 = nI 0 := wr_at _ _ _ _
    generalize wr (wr (wr h 2 4 0) 2 5 (-1)) 3 1 0 = h1 at *
    rw [m_text (hCM h1 (fun i => o1 _ _ (by omega))), if_neg ep]
    have oy := yT_o h1
    obtain ⟨y1, y2, y3, -⟩ := yT_e h1
    refine ok_mk ⟨rfl, inv_tx I (fun c i hc hn => by rw [oy _ _ (by omega), o1 _ _ (by omega)]) ?_ y1 ?_ ?_⟩
    · rw [oy _ _ (by omega), e31]
    · rw [oy _ _ (by omega), e4, y2]
    · rw [oy _ _ (by omega), e5, y3]
  rw [ep, if_neg (show ¬ bI true = 0 from bt_0)]
  obtain ⟨s, k, c', hs, hk, hx, hy⟩ := plc_k (fun s hs => (C s hs).1) ep
  have hc2 : (c' = c s ∧ k < c s) ∨ (k = c s ∧ c' = c s + 1) := by
    rcases hy with ⟨a1, a2, -⟩ | ⟨a1, a2, -⟩
    · exact Or.inl ⟨a1, a2⟩
    · exact Or.inr ⟨a1, a2⟩
  have hcs := (C s hs).1
  obtain ⟨f, hf4, PK, PM⟩ := q_both hX TX hs
  rw [← hx] at PK PM
  refine okb PK ?_
  rintro h2 ⟨cf, cd, F2⟩
  have o2 := pr0_o F2
  unfold D_setFault
  rw [if_pos k29, bnd_eq, bnd_eq, sb, wr_c _ _ _ _ (show 46 ≠ 2 by omega), wr_c _ _ _ _ (show 46 ≠ 2 by omega), cf.1, cf.2]
  have o3 : ∀ c i, ¬ (c = 2 ∧ (i = 4 ∨ i = 5)) → (wr (wr h2 2 4 (nI f.1)) 2 5 (if f.1 = 0 then jN 1 else nI f.2)).1 c i = h2.1 c i := fun c i hc => by
    rw [wr_i, if_neg (by omega), wr_i, if_neg (by omega)]
  have e34 : (wr (wr h2 2 4 (nI f.1)) 2 5 (if f.1 = 0 then jN 1 else nI f.2)).1 2 4 = nI f.1 := by rw [wr_p _ _ _ _ (by omega), wr_at]
  have e35 : (wr (wr h2 2 4 (nI f.1)) 2 5 (if f.1 = 0 then jN 1 else nI f.2)).1 2 5 = (if f.1 = 0 then jN 1 else nI f.2) := wr_at _ _ _ _
  generalize wr (wr h2 2 4 (nI f.1)) 2 5 (if f.1 = 0 then jN 1 else nI f.2) = h3 at *
  by_cases f0 : f.1 = 0
  case neg =>
    rw [if_neg (show ¬ nI f.1 = 0 from ne_nI (b := 0) (by omega) (by omega) f0), q_cut0, o3 _ _ (by omega), o2 _ _ (by omega), t2', if_pos (le0 len t1)]
    refine ok_mk ?_
    dsimp only
    have o4 : ∀ c i, ¬ (c = 3 ∧ i = 1) → (wr h3 3 1 0).1 c i = h3.1 c i := fun c i hc => by rw [wr_i, if_neg hc]
    have e41 : (wr h3 3 1 0).1 3 1 = nI 0 := wr_at _ _ _ _
    generalize wr h3 3 1 0 = h4 at *
    have o : ∀ c i, ¬ ((c = 2 ∧ (i = 4 ∨ i = 5)) ∨ (c = 3 ∧ i = 1) ∨ (c = 46 ∧ 3 ≤ i ∧ i ≤ 8) ∨ (47 ≤ c ∧ c ≤ 56)) → h4.1 c i = h.1 c i := fun c i hc => by
      rw [o4 _ _ (by omega), o3 _ _ (by omega), o2 _ _ (by omega)]
    rw [m_text (hCM h4 (fun i => o _ _ (by omega))), if_pos ep]
    have oy := yT_o h4
    obtain ⟨y1, y2, y3, -⟩ := yT_e h4
    unfold M_text_j75
    refine okb (PM (yT h4) (MXt h4 (fun i => o _ _ (by omega)) (o _ _ (by omega)))) ?_
    rintro ⟨r1, h5⟩ ⟨g1, g2, -, F5⟩
    have o5 := pmr_o F5
    dsimp only at g1 g2 o5 ⊢
    rw [decide_eq_false f0] at g1
    rw [g1, if_pos (show bI false = 0 from rfl)]
    refine ok_mk ⟨rfl, inv_tx I (fun c i hc hn => by rw [o5 _ _ (by omega), oy _ _ (by omega), o _ _ (by omega)]) ?_ ?_ ?_ ?_⟩
    · dsimp only
      rw [o5 _ _ (by omega), oy _ _ (by omega), e41]
    · dsimp only
      rw [o5 _ _ (by omega), y1]
    · dsimp only
      rw [o5 _ _ (by omega), oy _ _ (by omega), o4 _ _ (by omega), e34, g2.1]
    · dsimp only
      rw [o5 _ _ (by omega), oy _ _ (by omega), o4 _ _ (by omega), e35, g2.2]
  obtain ⟨cd0, cd1⟩ := cd f0
  rw [if_pos (show nI f.1 = 0 by rw [f0]; rfl)]
  have CL3 : ∀ m d, CL h2 53 m d → CL h3 53 m d := fun m d q => by
    obtain ⟨q1, q2, q3, q4⟩ := q
    exact ⟨q1, by rw [o3 _ _ (by omega)]; exact q2, q3, fun i hi => by rw [o3 _ _ (by omega), o3 _ _ (by omega), o3 _ _ (by omega)]; exact q4 i hi⟩
  have CH3 : ∀ n, CH h2 47 n → CH h3 47 n := fun n q => by
    obtain ⟨q1, q2, q3, q4, q5⟩ := q
    exact ⟨q1, by rw [o3 _ _ (by omega)]; exact q2, by rw [o3 _ _ (by omega)]; exact q3, fun t ht => by rw [o3 _ _ (by omega), o3 _ _ (by omega), o3 _ _ (by omega)]; exact q4 t ht, fun g hg => by rw [o3 _ _ (by omega), o3 _ _ (by omega)]; exact q5 g hg⟩
  refine okb (q_tkeep (c := c) (fun q hq => ⟨(C q hq).1, by rw [o3 _ _ (by omega), o2 _ _ (by omega)]; exact (C q hq).2.1⟩) hs hk hx hy (fun s1 => ⟨_, _, (cd1 s1).1, CL3 _ _ (cd1 s1).2.2⟩)) ?_
  rintro ⟨r4, h4⟩ ⟨e4, p1, p2, p3, F4⟩
  dsimp only at e4 p1 p2 p3 F4 ⊢
  subst e4
  have o4 : ∀ c i, ¬ ((c = 7 ∧ i = s) ∨ (s = 0 ∧ 8 + 6 * k ≤ c ∧ c < 8 + 6 * k + 6) ∨ (1 ≤ s ∧ 20 + 8 * (s - 1) + 4 * k ≤ c ∧ c < 20 + 8 * (s - 1) + 4 * k + 4)) → h4.1 c i = h3.1 c i := F4
  rw [q_cut0, o4 _ _ (by omega), o3 _ _ (by omega), o2 _ _ (by omega), t2', if_pos (le0 len t1)]
  refine ok_mk ?_
  dsimp only
  have o5 : ∀ c i, ¬ (c = 3 ∧ i = 1) → (wr h4 3 1 0).1 c i = h4.1 c i := fun c i hc => by rw [wr_i, if_neg hc]
  have e51 : (wr h4 3 1 0).1 3 1 = nI 0 := wr_at _ _ _ _
  generalize wr h4 3 1 0 = h5 at *
  have o : ∀ c i, ¬ ((c = 2 ∧ (i = 4 ∨ i = 5)) ∨ (c = 3 ∧ i = 1) ∨ (c = 46 ∧ 3 ≤ i ∧ i ≤ 8) ∨ (47 ≤ c ∧ c ≤ 56)) → ¬ ((c = 7 ∧ i = s) ∨ (s = 0 ∧ 8 + 6 * k ≤ c ∧ c < 8 + 6 * k + 6) ∨ (1 ≤ s ∧ 20 + 8 * (s - 1) + 4 * k ≤ c ∧ c < 20 + 8 * (s - 1) + 4 * k + 4)) → h5.1 c i = h.1 c i := fun c i hc hd => by
    rw [o5 _ _ (by omega), o4 _ _ hd, o3 _ _ (by omega), o2 _ _ (by omega)]
  rw [m_text (hCM h5 (fun i => o _ _ (by omega) (by omega))), if_pos ep]
  have oy := yT_o h5
  obtain ⟨y1, y2, y3, -⟩ := yT_e h5
  have l6 : ln 256 = 16 := lnm.2.2.2.2.1
  unfold M_text_j75
  refine okb (PM (yT h5) (MXt h5 (fun i => o _ _ (by omega) (by omega)) (o _ _ (by omega) (by omega)))) ?_
  rintro ⟨r6, h6⟩ ⟨g1, g2, g3, F6⟩
  have o6 := pmr_o F6
  dsimp only at g1 g2 g3 o6 ⊢
  rw [decide_eq_true f0] at g1
  obtain ⟨g30, g31⟩ := g3 f0
  have e6 : h6.1 256 s = nI (c s) := by
    have := (C s hs).2.2
    rw [show 4 * 0 + s = s by omega] at this
    rw [o6 _ _ (by omega), oy _ _ (by omega), o _ _ (by omega) (by omega), this]
  have hin : inb (nI s) (ln 256) := by rw [l6]; exact nI_in (by omega) (by omega)
  have CL5 : ∀ a m d, (20 ≤ a ∧ a < 250) → CL h4 a m d → CL h5 a m d := fun a m d ha q => clf q (fun c i h1 h2 => o5 c i (by omega))
  have fin := tx_m (X := X) (v := nI c' - nI (c s)) I C hs hk hc2 o e51 (by rw [o5 _ _ (by omega), o4 _ _ (by omega), e34, f0]) (by rw [o5 _ _ (by omega), o4 _ _ (by omega), e35, if_pos f0]) (by rw [o5 _ _ (by omega), p1]) F6 (by rw [g2.1, f0]) (by rw [g2.2, if_pos f0]) (fun s0 => ⟨chf (cd0 s0).2 (p2 s0 _ (cd0 s0).2 (CH3 _ (cd0 s0).1)) (fun c i h1 h2 => o5 c i (by omega)), (cd0 s0).2⟩) (fun s1 => ⟨(cd1 s1).1, (cd1 s1).2.1, CL5 _ _ _ (by omega) (p3 s1 _ _ (cd1 s1).1 (CL3 _ _ (cd1 s1).2.2))⟩) g30 g31
  rw [g1, if_neg (show ¬ bI true = 0 from bt_0)]
  unfold M_text_j100
  subst hx
  rcases hy with ⟨a1, a2, a3⟩ | ⟨a1, a2, a3⟩
  · subst a3
    rw [if_neg (ne_m1 (by omega)), if_pos hin, if_neg (ne_m1 (by omega)), nI_clamp (show s < 2 ^ 31 by omega), e6]
    have hz : nI c' - nI (c s) = 0 := by rw [a1, pk_sub (Nat.le_refl _), Nat.sub_self]; rfl
    have := fin (by rw [hz, a1]; exact nI_add _ 0)
    rw [hz] at this
    exact this
  · subst a3
    rw [if_pos (show jN 1 = (-1 : Int32) from rfl), if_pos hin, if_pos hin, if_pos (show jN 1 = (-1 : Int32) from rfl), nI_clamp (show s < 2 ^ 31 by omega), e6, ← a1]
    have hz : nI c' - nI (c s) = (1 : Int32) := by rw [a2, pk_sub (by omega), show c s + 1 - c s = 1 by omega]; rfl
    have := fin (by rw [hz, a2]; exact nI_add _ 1)
    rw [hz, ← a1] at this
    exact this
