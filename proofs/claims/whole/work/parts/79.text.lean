/-! ===== L3: texts asked ===== -/
/-- the code's counts alone -/
def CC (h : Hp) (c : Nat → Nat) : Prop := ∀ s, s < 4 → c s ≤ 2 ∧ h.1 7 s = nI (c s)
theorem kd29 : kd 2 = 9 ∧ kd 5 = 23 ∧ ln 5 = 2 ∧ kd 6 = 24 ∧ ln 6 = 8 ∧ kd 7 = 20 ∧ ln 7 = 4 ∧ (∀ k, k < 2 → el 5 k = 8 + 6 * k ∧ kd (8 + 6 * k) = 1) ∧ ∀ s, s < 3 → ∀ k, k < 2 → el 6 (2 * (s + 1) + k) = 20 + 8 * s + 4 * k ∧ kd (20 + 8 * s + 4 * k) = 2 ∧ ln (20 + 8 * s + 4 * k + 1) = lmT (s + 1) := by decide +kernel
theorem c_cnt {h : Hp} {c : Nat → Nat} (H : CC h c) (x : Int32) : D_countOf h 2 x = some (if iz x 0 4 = true then nI (c x.toNatClampNeg) else nI 0) := by
  obtain ⟨k0, k1, k2, k3, k4, k5, k6, -⟩ := kd29
  unfold D_countOf D_countOf_j19
  rw [if_pos k0, show K_isOf x (0 : Int32) (4 : Int32) = some (bI (iz x 0 4)) from q_isOf x (a := 0) (n := 4) (by omega) (by omega), sb, bI_it0, show 2 + 5 = 7 from rfl]
  by_cases d : iz x 0 4 = true
  · rw [if_pos d, if_pos d]
    obtain ⟨s, hs, hs2, rfl⟩ := iz_0 d
    rw [if_pos ⟨k5, by rw [k6]; exact nI_in hs (by omega)⟩, nI_clamp hs2, (H s hs).2]
  · rw [if_neg d, if_neg d]
    rfl
theorem c_has {h : Hp} {c : Nat → Nat} (H : CC h c) (x y : Int32) : D_has h 2 x y = some (bI (iz x 0 4 && iz y 0 (c x.toNatClampNeg))) := by
  obtain ⟨k0, -⟩ := kd29
  have e0 : (0 : Int32).toInt = 0 := rfl
  unfold D_has D_has_j22 D_has_j23
  have g0 : (if (0 : Int32) = 0 ∨ (0 : Int32) = 1 then some (0 : Int32) else none) = some (nI 0) := if_pos (Or.inl rfl)
  have g1 : (if (1 : Int32) = 0 ∨ (1 : Int32) = 1 then some (1 : Int32) else none) = some (nI 1) := if_pos (Or.inr rfl)
  have no : (iz x 0 4 && iz y 0 (c x.toNatClampNeg)) = false → (if (0 : Int32) = 0 ∨ (0 : Int32) = 1 then some (0 : Int32) else none) = some (bI (iz x 0 4 && iz y 0 (c x.toNatClampNeg))) := fun e => by rw [e, g0]; rfl
  have cle : iz x 0 4 = true → c x.toNatClampNeg ≤ 2 := fun d => by
    obtain ⟨s, hs, hs2, rfl⟩ := iz_0 d
    rw [nI_clamp hs2]
    exact (H s hs).1
  rw [if_pos k0, c_cnt H x, sb]
  by_cases c1 : y < 0
  · rw [if_pos c1]
    refine no ?_
    rw [i_lt, e0] at c1
    have : iz y 0 (c x.toNatClampNeg) = false := eq_false_of_ne_true (fun e => by rw [iz_iff] at e; omega)
    rw [this, Bool.and_false]
  rw [if_neg c1]
  rw [i_lt, e0] at c1
  obtain ⟨k, hk, rfl⟩ := nI_of (x := y) (by rw [i_lt, e0]; exact c1)
  by_cases c2 : 2 ≤ k
  · rw [if_pos (show (2 : Int32) ≤ nI k from (nI_leI (a := 2) (by omega) hk).mpr c2)]
    refine no ?_
    by_cases d : iz x 0 4 = true
    · have := cle d
      rw [iz_nI 0 _ hk, decide_eq_false (by omega), Bool.and_false]
    · rw [eq_false_of_ne_true d, Bool.false_and]
  rw [if_neg (show ¬ (2 : Int32) ≤ nI k from fun e => c2 ((nI_leI (a := 2) (by omega) hk).mp e))]
  by_cases d : iz x 0 4 = true
  · have := cle d
    rw [if_pos d]
    by_cases c3 : c x.toNatClampNeg ≤ k
    · rw [if_pos (show nI (c x.toNatClampNeg) ≤ nI k from (nI_leI (by omega) hk).mpr c3)]
      exact no (by rw [iz_nI 0 _ hk, decide_eq_false (by omega), Bool.and_false])
    · rw [if_neg (show ¬ nI (c x.toNatClampNeg) ≤ nI k from fun e => c3 ((nI_leI (by omega) hk).mp e)), g1, d, iz_nI 0 _ hk, decide_eq_true (by omega)]
      rfl
  · rw [if_neg d, if_pos (show nI 0 ≤ nI k from (nI_leI (by omega) hk).mpr (Nat.zero_le _))]
    exact no (by rw [eq_false_of_ne_true d, Bool.false_and])
/-- whether there is a place -/
def plc (c : Nat → Nat) (x y : Int32) : Bool := iz x 0 4 && (if y = jN 1 then decide (c x.toNatClampNeg < 2) else iz y 0 (c x.toNatClampNeg))
theorem c_plc {h : Hp} {c : Nat → Nat} (H : CC h c) (x y : Int32) : D_hasPlace h 2 x y = some (bI (plc c x y)) := by
  obtain ⟨k0, -⟩ := kd29
  have g0 : (if (0 : Int32) = 0 ∨ (0 : Int32) = 1 then some (0 : Int32) else none) = some (nI 0) := if_pos (Or.inl rfl)
  have g1 : (if (1 : Int32) = 0 ∨ (1 : Int32) = 1 then some (1 : Int32) else none) = some (nI 1) := if_pos (Or.inr rfl)
  unfold D_hasPlace D_hasPlace_j27 D_hasPlace_j28 plc
  rw [if_pos k0, show K_isOf x (0 : Int32) (4 : Int32) = some (bI (iz x 0 4)) from q_isOf x (a := 0) (n := 4) (by omega) (by omega), sb, bI_it0, c_cnt H x, sb, c_has H x y, sb, g0, g1]
  by_cases c1 : y = jN 1
  · rw [if_pos (show y = (-1 : Int32) from c1), if_pos c1]
    by_cases d : iz x 0 4 = true
    · rw [if_pos d, if_pos d, d, Bool.true_and]
      obtain ⟨s, hs, hs2, rfl⟩ := iz_0 d
      have := (H s hs).1
      rw [nI_clamp hs2]
      by_cases c2 : 2 ≤ c s
      · rw [if_pos (show (2 : Int32) ≤ nI (c s) from (nI_leI (a := 2) (by omega) (by omega)).mpr c2), decide_eq_false (by omega)]
        rfl
      · rw [if_neg (show ¬ (2 : Int32) ≤ nI (c s) from fun e => c2 ((nI_leI (a := 2) (by omega) (by omega)).mp e)), decide_eq_true (by omega)]
        rfl
    · rw [if_neg d, eq_false_of_ne_true d, Bool.false_and]
      rfl
  · rw [if_neg (show ¬ y = (-1 : Int32) from c1), if_neg c1]
    cases (iz x 0 4 && iz y 0 (c x.toNatClampNeg))
    · exact if_pos (Or.inl rfl)
    · exact if_pos (Or.inr rfl)
theorem c_inn {h : Hp} {c : Nat → Nat} (H : CC h c) (k : Nat) (hk : k < 2) : D_innAt h 2 (nI k) = some (if k < c 0 then 8 + 6 * k else 0) := by
  obtain ⟨k0, k1, k2, k3, k4, k5, k6, k7, -⟩ := kd29
  unfold D_innAt D_innAt_j19
  have e := c_has H (0 : Int32) (nI k)
  rw [show iz (0 : Int32) 0 4 = true from by decide +kernel, Bool.true_and, cl0, iz_nI 0 _ (by omega)] at e
  rw [if_pos k0, e, sb, bI_it0]
  by_cases d : k < c 0
  · rw [decide_eq_true (show 0 ≤ k ∧ k < 0 + c 0 by omega), if_pos rfl, if_pos d]
    show (if (kd 5 = 23 ∨ kd 5 = 24 ∨ kd 5 = 25 ∨ kd 5 = 26) ∧ inb (nI k) (ln 5) then some (el 5 (nI k).toNatClampNeg) else none) = _
    rw [if_pos ⟨Or.inl k1, by rw [k2]; exact nI_in hk (by omega)⟩, nI_clamp (show k < 2 ^ 31 by omega), (k7 k hk).1]
  · rw [decide_eq_false (show ¬ (0 ≤ k ∧ k < 0 + c 0) by omega), if_neg (by decide), if_neg d]
theorem c_lin {h : Hp} {c : Nat → Nat} (H : CC h c) {s : Nat} (hs : s < 3) (k : Nat) (hk : k < c (s + 1)) : D_linesAt h 2 (nI (s + 1)) (nI k) = some (20 + 8 * s + 4 * k) := by
  obtain ⟨k0, k1, k2, k3, k4, k5, k6, k7, k8⟩ := kd29
  have hc := (H (s + 1) (by omega)).1
  unfold D_linesAt D_linesAt_j27
  have e := c_has H (nI (s + 1)) (nI k)
  rw [iz_nI 0 4 (by omega), decide_eq_true (by omega), Bool.true_and, nI_clamp (show s + 1 < 2 ^ 31 by omega), iz_nI 0 _ (by omega), decide_eq_true (by omega)] at e
  rw [if_pos k0, if_neg (show ¬ nI (s + 1) = (0 : Int32) from ne_nI (b := 0) (by omega) (by omega) (by omega)), e, sb, if_neg bt_0, show ((2 : Int32) * nI (s + 1)) + nI k = nI (2 * (s + 1) + k) by rw [show (2 : Int32) * nI (s + 1) = nI (2 * (s + 1)) from pk_mul 2 _, nI_add]]
  show (if (kd 6 = 23 ∨ kd 6 = 24 ∨ kd 6 = 25 ∨ kd 6 = 26) ∧ inb (nI (2 * (s + 1) + k)) (ln 6) then some (el 6 (nI (2 * (s + 1) + k)).toNatClampNeg) else none) = _
  rw [if_pos ⟨Or.inr (Or.inl k3), by rw [k4]; exact nI_in (by omega) (by omega)⟩, nI_clamp (show 2 * (s + 1) + k < 2 ^ 31 by omega), (k8 s hs k (by omega)).1]
theorem q_lcopy2 {h : Hp} {a a' m : Nat} (hk : kd a = 2) (hk' : kd a' = 2) (dj : a + 4 ≤ a' ∨ a' + 4 ≤ a) (h3 : h.1 a 3 = nI m) (hm : m ≤ ln (a + 1)) (hl : m ≤ ln (a' + 1)) : Okk (L_copyFrom h a' a) (fun h' => h'.1 a' 3 = nI m ∧ (∀ i, i < m → ∀ j, 1 ≤ j → j < 4 → h'.1 (a' + j) i = h.1 (a + j) i) ∧ Fr (fun c _ => a' ≤ c ∧ c < a' + 4) h h') := by
  obtain ⟨k1, k2, k3, l0, l2, l3⟩ := li_kd hk
  unfold L_copyFrom L_clear L_copyFrom_l6
  rw [if_pos hk', if_pos hk', bnd_eq, sb]
  refine lp_for _ m (fun k s => s.1 = nI k ∧ s.2.1 a' 3 = nI k ∧ (∀ i, i < k → ∀ j, 1 ≤ j → j < 4 → s.2.1 (a' + j) i = h.1 (a + j) i) ∧ Fr (fun c _ => a' ≤ c ∧ c < a' + 4) h s.2) _ ?_ ?_ 0 _ (by omega) ⟨rfl, wr_at _ _ _ _, fun i hi => absurd hi (by omega), fr_wr ⟨by omega, by omega⟩⟩
  · rintro k ⟨s1, g⟩ hk2 ⟨e1, e2, e3, e4⟩
    dsimp only at e1 e2 e3 e4
    subst e1
    have o : ∀ c i, ¬ (a' ≤ c ∧ c < a' + 4) → g.1 c i = h.1 c i := e4
    have C : CL g a m (fun i => (h.1 (a + 1) i, h.1 (a + 2) i, h.1 (a + 3) i)) := ⟨hk, by rw [o a 3 (by omega), h3], hm, fun i hi => ⟨o _ _ (by omega), o _ _ (by omega), o _ _ (by omega)⟩⟩
    obtain ⟨g1, g2, g3⟩ := q_lget C hk2
    unfold L_copyFrom_b6
    dsimp only
    rw [if_pos hk, C.2.1, if_neg (show ¬ nI m ≤ nI k from fun c => by rw [i_le, nI_toInt (by omega), nI_toInt (by omega)] at c; omega), g1, sb, g2, sb, g3, sb, q_ladd hk' e2 (by omega), sb, bnd_eq]
    refine ok_mk ⟨nI_add _ _, wr_at _ _ _ _, ?_, ?_⟩
    · intro i hi j h1 h2
      dsimp only
      by_cases c : i = k
      · subst c
        rcases (by omega : j = 1 ∨ j = 2 ∨ j = 3) with rfl | rfl | rfl
        · simp (disch := omega) only [wr_c, wr_at]
        · simp (disch := omega) only [wr_c, wr_at]
        · simp (disch := omega) only [wr_c, wr_at]
      · simp (disch := omega) only [wr_c, wr_p]
        exact e3 i (by omega) j h1 h2
    · exact fr_tr e4 (fr_tr (fr_wr ⟨by omega, by omega⟩) (fr_tr (fr_wr ⟨by omega, by omega⟩) (fr_tr (fr_wr ⟨by omega, by omega⟩) (fr_wr ⟨by omega, by omega⟩))))
  · rintro ⟨s1, g⟩ ⟨e1, e2, e3, e4⟩
    dsimp only at e1 e2 e3 e4
    subst e1
    have o : ∀ c i, ¬ (a' ≤ c ∧ c < a' + 4) → g.1 c i = h.1 c i := e4
    unfold L_copyFrom_b6 L_copyFrom_j39
    dsimp only
    rw [if_pos hk, o a 3 (by omega), h3, if_pos (show nI m ≤ nI m from by rw [i_le]; omega)]
    exact ok_mk ⟨e2, e3, e4⟩
/-- what a text changes: the tape's length, the fault, and, kept, place k of sort s -/
def chT (c i : Nat) : Prop := (c = 2 ∧ (i = 4 ∨ i = 5)) ∨ (c = 3 ∧ i = 1) ∨ (253 ≤ c ∧ c ≤ 255 ∧ i = 0)
def chK (s k c i : Nat) : Prop := (c = 7 ∧ i = s) ∨ (s = 0 ∧ 8 + 6 * k ≤ c ∧ c < 8 + 6 * k + 6) ∨ (1 ≤ s ∧ 20 + 8 * (s - 1) + 4 * k ≤ c ∧ c < 20 + 8 * (s - 1) + 4 * k + 4)
def chM (s k c i : Nat) : Prop := (c = 256 ∧ i = s) ∨ (s = 0 ∧ c = 257 ∧ 33 * k ≤ i ∧ i < 33 * k + 33) ∨ (s = 1 ∧ c = 258 ∧ 121 * k ≤ i ∧ i < 121 * k + 121) ∨ (s = 2 ∧ c = 259 ∧ 31 * k ≤ i ∧ i < 31 * k + 31) ∨ (s = 3 ∧ c = 260 ∧ 8 * k ≤ i ∧ i < 8 * k + 8)
theorem inv_tx {h h' : Hp} (I : Inv h) (o : ∀ c i, ((2 ≤ c ∧ c ≤ 45) ∨ (125 ≤ c ∧ c ≤ 250) ∨ (252 ≤ c ∧ c ≤ 260) ∨ c = 280) → ¬ ((c = 2 ∧ (i = 4 ∨ i = 5)) ∨ (c = 3 ∧ i = 1) ∨ (253 ≤ c ∧ c ≤ 255 ∧ i = 0)) → h'.1 c i = h.1 c i) (e3 : h'.1 3 1 = nI 0) (e253 : h'.1 253 0 = nI 0) (e4 : h'.1 2 4 = h'.1 254 0) (e5 : h'.1 2 5 = h'.1 255 0) : Inv h' := by
  have e0 : tA 0 = 2 := rfl
  refine ⟨?_, ?_⟩
  · intro r hr
    rcases tA_le hr with ⟨rfl, e⟩ | ⟨h1, e⟩
    · obtain ⟨⟨len, t1, t2, t3, t4⟩, -⟩ := Rt_x.mp (I.1 0 hr)
      refine Rt_tp (len := 0) hr (I.1 0 hr) ⟨by omega, e3, e253, ?_⟩ ⟨e4, e5⟩ (fun c i hc => o c i (by omega) (by omega))
      intro i hi
      rw [o _ _ (by omega) (by omega), o 252 _ (by omega) (by omega)]
      exact t4 i hi
    · refine Rt_fr hr (I.1 r hr) (fun c i hc => ?_)
      have hc' : (tA r ≤ c ∧ c < tA r + 42) ∨ (c = 252 ∧ 600 * r ≤ i ∧ i < 600 * r + 600) ∨ (253 ≤ c ∧ c ≤ 255 ∧ i = r) ∨ (c = 256 ∧ 4 * r ≤ i ∧ i < 4 * r + 4) ∨ (c = 257 ∧ 66 * r ≤ i ∧ i < 66 * r + 66) ∨ (c = 258 ∧ 242 * r ≤ i ∧ i < 242 * r + 242) ∨ (c = 259 ∧ 62 * r ≤ i ∧ i < 62 * r + 62) ∨ (c = 260 ∧ 16 * r ≤ i ∧ i < 16 * r + 16) := hc
      exact o c i (by omega) (by omega)
  · intro k hk
    obtain ⟨b, e1, e2, e3⟩ := I.2 k hk
    have ea := tA_le (r := k + 1) (by omega)
    exact ⟨b, by rw [o 45 k (by omega) (by omega), e1], by rw [o 280 k (by omega) (by omega), e2], fun eb => by rw [o (tA (k + 1)) 5 (by omega) (by omega), o 255 (k + 1) (by omega) (by omega), e3 eb]⟩
theorem inv_nw {h h' : Hp} (I : Inv h) {c : Nat → Nat} (C : XC h 0 c) {s k c' : Nat} (hs : s < 4) (hk : k < 2) (hc' : (c' = c s ∧ k < c s) ∨ (k = c s ∧ c' = c s + 1)) (o : ∀ c i, ((2 ≤ c ∧ c ≤ 45) ∨ (125 ≤ c ∧ c ≤ 250) ∨ (252 ≤ c ∧ c ≤ 260) ∨ c = 280) → ¬ ((c = 2 ∧ (i = 4 ∨ i = 5)) ∨ (c = 3 ∧ i = 1) ∨ (253 ≤ c ∧ c ≤ 255 ∧ i = 0)) → ¬ ((c = 7 ∧ i = s) ∨ (s = 0 ∧ 8 + 6 * k ≤ c ∧ c < 8 + 6 * k + 6) ∨ (1 ≤ s ∧ 20 + 8 * (s - 1) + 4 * k ≤ c ∧ c < 20 + 8 * (s - 1) + 4 * k + 4)) → ¬ ((c = 256 ∧ i = s) ∨ (s = 0 ∧ c = 257 ∧ 33 * k ≤ i ∧ i < 33 * k + 33) ∨ (s = 1 ∧ c = 258 ∧ 121 * k ≤ i ∧ i < 121 * k + 121) ∨ (s = 2 ∧ c = 259 ∧ 31 * k ≤ i ∧ i < 31 * k + 31) ∨ (s = 3 ∧ c = 260 ∧ 8 * k ≤ i ∧ i < 8 * k + 8)) → h'.1 c i = h.1 c i) (e3 : h'.1 3 1 = nI 0) (e253 : h'.1 253 0 = nI 0) (e4 : h'.1 2 4 = h'.1 254 0) (e5 : h'.1 2 5 = h'.1 255 0) (e7 : h'.1 7 s = nI c') (e256 : h'.1 256 s = nI c') (n0 : s = 0 → X0 h' 0 k) (n1 : s = 1 → X1 h' 0 k) (n2 : s = 2 → X2 h' 0 k) (n3 : s = 3 → X3 h' 0 k) : Inv h' := by
  have e0 : tA 0 = 2 := rfl
  refine ⟨?_, ?_⟩
  · intro r hr
    rcases tA_le hr with ⟨rfl, e⟩ | ⟨h1, e⟩
    · obtain ⟨⟨len, t1, t2, t3, t4⟩, -, ⟨d, D1, g0, g1, g2, g3⟩, gL⟩ := Rt_x.mp (I.1 0 hr)
      have ed : ∀ s, s < 4 → d s = c s := fun s hs => (nI_eq (by have := (D1 s hs).1; omega) (by have := (C s hs).1; omega)).mp ((D1 s hs).2.1.symm.trans (C s hs).2.1)
      have hcs := (C s hs).1
      refine Rt_x.mpr ⟨⟨0, by omega, e3, e253, ?_⟩, ⟨e4, fun _ => e5⟩, ⟨up c s c', ?_, ?_, ?_, ?_, ?_⟩, ?_⟩
      · intro i hi
        rw [e0, o _ _ (by omega) (by omega) (by omega) (by omega), o 252 _ (by omega) (by omega) (by omega) (by omega)]
        exact t4 i hi
      · intro q hq
        by_cases cq : q = s
        · subst cq
          rw [up_at]
          exact ⟨by omega, e7, by rw [show 4 * 0 + q = q by omega]; exact e256⟩
        · rw [up_ne _ _ cq, e0]
          obtain ⟨a1, a2, a3⟩ := C q hq
          exact ⟨a1, by rw [o _ _ (by omega) (by omega) (by omega) (by omega)]; exact a2, by rw [o 256 _ (by omega) (by omega) (by omega) (by omega)]; exact a3⟩
      · intro q hq
        have hq2 : q < 2 := by
          by_cases cs : 0 = s
          · subst cs; rw [up_at] at hq; omega
          · rw [up_ne _ _ cs] at hq; have := (C 0 (by omega)).1; omega
        by_cases cq : s = 0 ∧ q = k
        · obtain ⟨rfl, rfl⟩ := cq
          exact n0 rfl
        · have hq3 : q < d 0 := by
            rw [ed 0 (by omega)]
            by_cases cs : 0 = s
            · subst cs; rw [up_at] at hq; omega
            · rw [up_ne _ _ cs] at hq; exact hq
          exact X0_fr (g0 q hq3) (fun c i h1 h2 => o c i (by omega) (by omega) (by omega) (by omega)) (fun i hi => o _ _ (by omega) (by omega) (by omega) (by omega))
      · intro q hq
        have hq2 : q < 2 := by
          by_cases cs : 1 = s
          · subst cs; rw [up_at] at hq; omega
          · rw [up_ne _ _ cs] at hq; have := (C 1 (by omega)).1; omega
        by_cases cq : s = 1 ∧ q = k
        · obtain ⟨rfl, rfl⟩ := cq
          exact n1 rfl
        · have hq3 : q < d 1 := by
            rw [ed 1 (by omega)]
            by_cases cs : 1 = s
            · subst cs; rw [up_at] at hq; omega
            · rw [up_ne _ _ cs] at hq; exact hq
          exact X1_fr (g1 q hq3) (fun c i h1 h2 => o c i (by omega) (by omega) (by omega) (by omega)) (fun i hi => o _ _ (by omega) (by omega) (by omega) (by omega))
      · intro q hq
        have hq2 : q < 2 := by
          by_cases cs : 2 = s
          · subst cs; rw [up_at] at hq; omega
          · rw [up_ne _ _ cs] at hq; have := (C 2 (by omega)).1; omega
        by_cases cq : s = 2 ∧ q = k
        · obtain ⟨rfl, rfl⟩ := cq
          exact n2 rfl
        · have hq3 : q < d 2 := by
            rw [ed 2 (by omega)]
            by_cases cs : 2 = s
            · subst cs; rw [up_at] at hq; omega
            · rw [up_ne _ _ cs] at hq; exact hq
          exact X2_fr (g2 q hq3) (fun c i h1 h2 => o c i (by omega) (by omega) (by omega) (by omega)) (fun i hi => o _ _ (by omega) (by omega) (by omega) (by omega))
      · intro q hq
        have hq2 : q < 2 := by
          by_cases cs : 3 = s
          · subst cs; rw [up_at] at hq; omega
          · rw [up_ne _ _ cs] at hq; have := (C 3 (by omega)).1; omega
        by_cases cq : s = 3 ∧ q = k
        · obtain ⟨rfl, rfl⟩ := cq
          exact n3 rfl
        · have hq3 : q < d 3 := by
            rw [ed 3 (by omega)]
            by_cases cs : 3 = s
            · subst cs; rw [up_at] at hq; omega
            · rw [up_ne _ _ cs] at hq; exact hq
          exact X3_fr (g3 q hq3) (fun c i h1 h2 => o c i (by omega) (by omega) (by omega) (by omega)) (fun i hi => o _ _ (by omega) (by omega) (by omega) (by omega))
      · intro q hq k2 hk2
        by_cases cq : q + 1 = s ∧ k2 = k
        · obtain ⟨rfl, rfl⟩ := cq
          rcases (by omega : q = 0 ∨ q = 1 ∨ q = 2) with rfl | rfl | rfl
          · obtain ⟨m, f, ⟨-, a3, am, -⟩, -⟩ := n1 rfl
            exact ⟨m, am, a3⟩
          · obtain ⟨m, f, ⟨-, a3, am, -⟩, -⟩ := n2 rfl
            exact ⟨m, am, a3⟩
          · obtain ⟨m, f, ⟨-, a3, am, -⟩, -⟩ := n3 rfl
            exact ⟨m, am, a3⟩
        · exact XL_fr (gL q hq k2 hk2) (o _ _ (by omega) (by omega) (by omega) (by omega))
    · refine Rt_fr hr (I.1 r hr) (fun c i hc => ?_)
      have hc' : (tA r ≤ c ∧ c < tA r + 42) ∨ (c = 252 ∧ 600 * r ≤ i ∧ i < 600 * r + 600) ∨ (253 ≤ c ∧ c ≤ 255 ∧ i = r) ∨ (c = 256 ∧ 4 * r ≤ i ∧ i < 4 * r + 4) ∨ (c = 257 ∧ 66 * r ≤ i ∧ i < 66 * r + 66) ∨ (c = 258 ∧ 242 * r ≤ i ∧ i < 242 * r + 242) ∨ (c = 259 ∧ 62 * r ≤ i ∧ i < 62 * r + 62) ∨ (c = 260 ∧ 16 * r ≤ i ∧ i < 16 * r + 16) := hc
      exact o c i (by omega) (by omega) (by omega) (by omega)
  · intro q hq
    obtain ⟨b, e1, e2, e3⟩ := I.2 q hq
    have ea := tA_le (r := q + 1) (by omega)
    exact ⟨b, by rw [o 45 q (by omega) (by omega) (by omega) (by omega), e1], by rw [o 280 q (by omega) (by omega) (by omega) (by omega), e2], fun eb => by rw [o (tA (q + 1)) 5 (by omega) (by omega) (by omega) (by omega), o 255 (q + 1) (by omega) (by omega) (by omega) (by omega), e3 eb]⟩
