/-! ===== L3: evenings drawn: night by night ===== -/
def nt (n : Inn) (T : Nat → Nat) (s : St) : Nat → St
  | 0 => s
  | k + 1 => dT n (nt n T s k) k (dW (nS n k) T k (nG n))
def nl (n : Inn) (T : Nat → Nat) : Nat → Nat
  | 0 => 0
  | k + 1 => nl n T k + dL (nS n k) T k (nG n)
theorem dT_S {n : Inn} {s : St} {t : Nat} {who : Int32} (i : Nat) (h0 : bS (sB s t) = nI 0) : bS (sB (dT n s t who) i) = if i = t then who else bS (sB s i) := by
  unfold dT
  by_cases hz : who = nI 0
  · rw [if_pos hz]
    by_cases c : i = t
    · subst c
      rw [if_pos rfl, h0, hz]
    · rw [if_neg c]
  · rw [if_neg hz]
    show bS (up (sB s) t _ i) = _
    by_cases c : i = t
    · subst c
      rw [if_pos rfl, up_at]; rfl
    · rw [if_neg c, up_ne _ _ c]
theorem dis_of {n : Inn} {T : Nat → Nat} {s : St} {k : Nat} (hw : wI n) (h : ∀ t, t < 5 → bS (sB s t) = if t < k then dW (nS n t) T t (nG n) else nI 0) : dW (nS n k) T k (nG n) &&& seatAll s = nI 0 := by
  have hG := hw.2.2.1
  refine b_ext (fun i hi => ?_)
  rw [b_and, show bt (nI 0) i = false from b_0 i]
  by_cases c : bt (dW (nS n k) T k (nG n)) i = true
  · have e1 := dW_T _ _ _ _ (by omega) i c
    have e2 : bt (seatAll s) i = false := by
      refine eq_false_of_ne_true (fun c2 => ?_)
      obtain ⟨j, hj, c3⟩ := (b_oT _ i 5).mp c2
      rw [h j hj] at c3
      by_cases c4 : j < k
      · rw [if_pos c4] at c3
        have := dW_T _ _ _ _ (by omega) i c3
        omega
      · rw [if_neg c4, show bt (nI 0) i = false from b_0 i] at c3
        exact Bool.false_ne_true c3
    rw [e2, Bool.and_false]
  · rw [eq_false_of_ne_true c, Bool.false_and]
theorem wS_T {n : Inn} {s : St} {t : Nat} {who : Int32} (hw : wI n) (W : wS n s) (ht : t < nT n) (h0 : bS (sB s t) = nI 0) (hlo : lo (nG n) who) (hd : who &&& seatAll s = nI 0) (hp : pc who ≤ nS n t) : wS n (dT n s t who) := by
  have hG := hw.2.2.1
  unfold dT
  by_cases hz : who = nI 0
  · rw [if_pos hz]
    exact W
  · rw [if_neg hz]
    exact wS_sp hw W ht hz hlo (okSit_d hw ht h0 hlo hd hp) (lo_mo hlo (by omega))
theorem nt_ok {n : Inn} {T : Nat → Nat} {s : St} (hw : wI n) (W : wS n s) (hz : ∀ t, t < 5 → bS (sB s t) = nI 0) : ∀ k, k ≤ nT n → wS n (nt n T s k) ∧ ∀ t, t < 5 → bS (sB (nt n T s k) t) = if t < k then dW (nS n t) T t (nG n) else nI 0
  | 0, _ => ⟨W, fun t ht => by rw [if_neg (by omega)]; exact hz t ht⟩
  | k + 1, hk => by
    obtain ⟨i1, i2⟩ := nt_ok hw W hz k (by omega)
    have hG := hw.2.2.1
    have hT5 := hw.1
    have h0 : bS (sB (nt n T s k) k) = nI 0 := by rw [i2 k (by omega), if_neg (by omega)]
    refine ⟨wS_T hw i1 (by omega) h0 (dW_lo _ _ _ _ (by omega)) (dis_of hw i2) (dW_pc _ _ _ _ hG).1, ?_⟩
    intro t ht
    show bS (sB (dT n (nt n T s k) k (dW (nS n k) T k (nG n))) t) = _
    rw [dT_S t h0, i2 t ht]
    by_cases c : t = k
    · subst c
      rw [if_pos rfl, if_pos (by omega)]
    · rw [if_neg c]
      by_cases c2 : t < k
      · rw [if_pos c2, if_pos (by omega)]
      · rw [if_neg c2, if_neg (by omega)]
def sq (x : Int32) : Nat → Int32
  | 0 => x
  | k + 1 => sq x k * (1103515245 : Int32) + (12345 : Int32)
def tb (T : Nat) (x : Int32) : Nat := (us x (nI 16)).toNatClampNeg % T
theorem us_16 (x : Int32) : ∃ v, v < 65536 ∧ us x (nI 16) = nI v := by
  have h : lo 16 (us x (nI 16)) := by
    intro i hi
    have := b_us x 1 (by omega) i
    rw [show 24 - 8 * 1 = 16 from rfl] at this
    rw [this, b_big (by omega)]
  exact lo_ex h
theorem tb_rm {T : Nat} (x : Int32) (h1 : 1 ≤ T) (h2 : T ≤ 5) : rm (us x (nI 16)) (nI T) = nI (tb T x) ∧ tb T x < T := by
  obtain ⟨v, hv, e⟩ := us_16 x
  unfold tb
  rw [e, nI_clamp (by omega)]
  exact ⟨pk_rem (by omega) (by omega) (by omega), Nat.mod_lt _ (by omega)⟩
def gT (n : Inn) (x : Int32) (g : Nat) : Nat := tb (nT n) (sq x (g + 1))
/-- after so many nights: the seed, who found no seat, the state -/
def dn (n : Inn) (x : Int32) : Nat → Int32 × Nat × St
  | 0 => (x, 0, s0)
  | k + 1 => (sq (dn n x k).1 (nG n), (dn n x k).2.1 + nl n (gT n (dn n x k).1) (nT n), dNig n (nt n (gT n (dn n x k).1) (dn n x k).2.2 (nT n)))
theorem dn_ok {n : Inn} (hw : wI n) (x : Int32) : ∀ k, wS n (dn n x k).2.2 ∧ ∀ t, t < 5 → bS (sB (dn n x k).2.2 t) = nI 0
  | 0 => ⟨wS_0 n, fun t ht => rfl⟩
  | k + 1 => by
    obtain ⟨i1, i2⟩ := dn_ok hw x k
    obtain ⟨j1, j2⟩ := nt_ok (T := gT n (dn n x k).1) hw i1 i2 (nT n) (Nat.le_refl _)
    exact ⟨wS_nig j1, fun t ht => bEn_S _ _ _⟩
theorem cs_63 {h h' : Hp} {s : St} (C : CS h s) (o : ∀ c i, c ≠ 63 → h'.1 c i = h.1 c i) : CS h' s := by
  obtain ⟨c1, c2, c3, c4, c5, c6⟩ := C
  refine ⟨?_, ?_, ?_, by rw [o _ _ (by omega), c4], by rw [o _ _ (by omega), c5], by rw [o _ _ (by omega), c6]⟩
  · intro t ht
    obtain ⟨d1, d2, d3, d4, d5⟩ := c1 t ht
    refine ⟨by rw [o _ _ (by omega), d1], by rw [o _ _ (by omega), d2], by rw [o _ _ (by omega), d3], by rw [o _ _ (by omega), d4], ?_⟩
    intro i hi
    rw [o _ _ (by omega), o _ _ (by omega), o _ _ (by omega)]
    exact d5 i hi
  · intro g hg
    rw [o _ _ (by omega), o _ _ (by omega), o _ _ (by omega)]
    exact c2 g hg
  · intro i hi
    rw [o _ _ (by omega)]
    exact c3 i hi
def pdr : Nat → Nat → Prop := fun c i => (c = 57 ∧ 6 ≤ i ∧ i ≤ 9) ∨ (59 ≤ c ∧ c ≤ 63) ∨ (70 ≤ c ∧ c < 90)
theorem pst_pdr {h h' : Hp} (F : Fr pst h h') : Fr pdr h h' := fr_mo F (by
  intro c i hc
  have hc' : (c = 57 ∧ 7 ≤ i ∧ i ≤ 9) ∨ (59 ≤ c ∧ c ≤ 62) ∨ (70 ≤ c ∧ c < 90) := hc
  show (c = 57 ∧ 6 ≤ i ∧ i ≤ 9) ∨ (59 ≤ c ∧ c ≤ 63) ∨ (70 ≤ c ∧ c < 90)
  omega)
theorem pdr_63 {h h' : Hp} (o : ∀ c i, c ≠ 63 → h'.1 c i = h.1 c i) : Fr pdr h h' := by
  intro c i hc
  have hc' : ¬ ((c = 57 ∧ 6 ≤ i ∧ i ≤ 9) ∨ (59 ≤ c ∧ c ≤ 63) ∨ (70 ≤ c ∧ c < 90)) := hc
  exact o c i (by omega)
/-- the code's second half of a night -/
theorem q_dnight {h : Hp} {n : Inn} {s : St} {T : Nat → Nat} {x3 x4 : Int32} {u k a1 : Nat} {Q : ((Int32 × Int32 × Int32 × Hp) ⊕ (Int32 × Hp)) → Prop} (X : CX h n) (hw : wI n) (C : CS h s) (W : wS n s) (hz : ∀ t, t < 5 → bS (sB s t) = nI 0) (h63 : ∀ t, t < 5 → h.1 63 t = dS T t (nG n)) (hQ : ∀ g, CX g n → CS g (dNig n (nt n T s (nT n))) → Fr pdr h g → Q (.inl (x4, nI (u + nl n T (nT n)), nI (k + 1), g))) : Okk (S_draw_j99 a1 x3 x4 (nI u) (nI k) h) Q := by
  have hT5 := hw.1
  obtain ⟨l58, l59, l60, l61, l62, l63⟩ := ln_st
  unfold S_draw_j99 S_draw_l102
  refine lp_for _ (nT n) (fun t q => q.1 = nI (u + nl n T t) ∧ q.2.1 = nI t ∧ CS q.2.2 (nt n T s t) ∧ Fr pst h q.2.2) _ ?_ ?_ 0 _ (by omega) ⟨rfl, rfl, C, fr_rfl⟩
  · rintro t ⟨q1, q2, q3⟩ ht ⟨e1, e2, e3, e4⟩
    dsimp only at e1 e2 e3 e4
    subst e1 e2
    have X2 := cx_st X e4
    obtain ⟨a, ha, h6, H, hk, h5, hg⟩ := cx_g X2
    obtain ⟨i1, i2⟩ := nt_ok (T := T) hw W hz t (by omega)
    have o63 : q3.1 63 t = dS T t (nG n) := by
      rw [← h63 t (by omega)]
      exact e4 63 t (by show ¬ ((63 = 57 ∧ 7 ≤ t ∧ t ≤ 9) ∨ (59 ≤ 63 ∧ 63 ≤ 62) ∨ (70 ≤ 63 ∧ 63 < 90)); omega)
    unfold S_draw_b102
    dsimp only
    rw [h6, nI_clamp (by omega), if_pos hk, h5, if_neg (show ¬ nI (nT n) ≤ nI t from fun c => by rw [i_le, nI_toInt (by omega), nI_toInt (by omega)] at c; omega), l63, if_pos (nI_in (by omega) (by omega)), nI_clamp (by omega), o63]
    refine okb (q_seatDrawn X2 hw e3 i1 ht (by rw [i2 t (by omega), if_neg (by omega)]) (dis_of hw i2)) ?_
    rintro ⟨r1, g⟩ ⟨f1, f2, f3⟩
    dsimp only at f1 f2 f3
    subst f1
    dsimp only
    rw [bnd_eq, bnd_eq]
    refine ok_mk ⟨?_, nI_add _ _, f2, fr_tr e4 f3⟩
    show nI (u + nl n T t) + nI _ = nI (u + (nl n T t + _))
    rw [nI_add, Nat.add_assoc]
  · rintro ⟨q1, q2, q3⟩ ⟨e1, e2, e3, e4⟩
    dsimp only at e1 e2 e3 e4
    subst e1 e2
    have X2 := cx_st X e4
    obtain ⟨a, ha, h6, H, hk, h5, hg⟩ := cx_g X2
    obtain ⟨i1, i2⟩ := nt_ok (T := T) hw W hz (nT n) (Nat.le_refl _)
    unfold S_draw_b102 S_draw_j138
    dsimp only
    rw [h6, nI_clamp (by omega), if_pos hk, h5, if_pos (show nI (nT n) ≤ nI (nT n) by rw [i_le]; omega)]
    refine okmr ?_
    refine okb (q_endNight X2 hw e3 i1) ?_
    rintro g ⟨f1, f2⟩
    rw [bnd_eq, show nI k + (1 : Int32) = nI (k + 1) from nI_add _ _]
    exact ok_mk (hQ g (cx_st X2 f2) f1 (pst_pdr (fr_tr e4 f2)))
theorem q_dfirst {h : Hp} {n : Inn} {s : St} {x x3 : Int32} {u k a1 : Nat} {Q : ((Int32 × Int32 × Int32 × Hp) ⊕ (Int32 × Hp)) → Prop} (X : CX h n) (hw : wI n) (hT1 : 1 ≤ nT n) (C : CS h s) (W : wS n s) (hz : ∀ t, t < 5 → bS (sB s t) = nI 0) (h63 : ∀ t, t < 5 → h.1 63 t = nI 0) (hQ : ∀ g, CX g n → CS g (dNig n (nt n (gT n x) s (nT n))) → Fr pdr h g → Q (.inl (sq x (nG n), nI (u + nl n (gT n x) (nT n)), nI (k + 1), g))) : Okk (S_draw_l41 a1 x3 x (nI u) (nI k) 0 h) Q := by
  have hT5 := hw.1
  have hG := hw.2.2.1
  obtain ⟨l58, l59, l60, l61, l62, l63⟩ := ln_st
  unfold S_draw_l41
  refine lp_for _ (nG n) (fun g q => q.1 = sq x g ∧ q.2.1 = nI g ∧ (∀ t, t < 5 → q.2.2.1 63 t = dS (gT n x) t g) ∧ Fr (fun c _ => c = 63) h q.2.2) _ ?_ ?_ 0 _ (by omega) ⟨rfl, rfl, h63, fr_rfl⟩
  · rintro g ⟨q1, q2, q3⟩ hg1 ⟨e1, e2, e3, e4⟩
    dsimp only at e1 e2 e3 e4
    subst e1 e2
    have o : ∀ c i, c ≠ 63 → q3.1 c i = h.1 c i := e4
    have X2 := cx_fr X (fun c i hc => o c i (by omega))
    obtain ⟨a, ha, h6, H, hk, h5, hg⟩ := cx_g X2
    obtain ⟨r1, r2⟩ := tb_rm (T := nT n) (sq x (g + 1)) hT1 hT5
    unfold S_draw_b41
    dsimp only
    rw [h6, nI_clamp (by omega), if_pos hk, hg, h5, if_neg (show ¬ nI (nG n) ≤ nI g from fun c => by rw [i_le, nI_toInt (by omega), nI_toInt (by omega)] at c; omega), bnd_eq, if_pos (show ¬ nI (nT n) = 0 from ne_nI (b := 0) (by omega) (by omega) (by omega)), bnd_eq, show rm (us (sq x g * (1103515245 : Int32) + (12345 : Int32)) (16 : Int32)) (nI (nT n)) = nI (gT n x g) from r1, l63, if_pos (nI_in (show gT n x g < 5 from Nat.lt_of_lt_of_le r2 hT5) (by omega)), if_pos (nI_in (show gT n x g < 5 from Nat.lt_of_lt_of_le r2 hT5) (by omega)), bnd_eq, bnd_eq, nI_clamp (show gT n x g < 2 ^ 31 from Nat.lt_of_lt_of_le r2 (by omega)), show nI g + (1 : Int32) = nI (g + 1) from nI_add _ _]
    refine ok_mk ⟨rfl, rfl, ?_, fr_tr e4 (fr_wr rfl)⟩
    intro t ht
    dsimp only
    rw [wr_i]
    by_cases c : gT n x g = t
    · rw [if_pos ⟨rfl, c.symm⟩, c, e3 t ht]
      show _ = if gT n x g = t then _ else _
      rw [if_pos c]; rfl
    · rw [if_neg (fun e => c e.2.symm), e3 t ht]
      show _ = if gT n x g = t then _ else _
      rw [if_neg c]
  · rintro ⟨q1, q2, q3⟩ ⟨e1, e2, e3, e4⟩
    dsimp only at e1 e2 e3 e4
    subst e1 e2
    have o : ∀ c i, c ≠ 63 → q3.1 c i = h.1 c i := e4
    have X2 := cx_fr X (fun c i hc => o c i (by omega))
    obtain ⟨a, ha, h6, H, hk, h5, hg⟩ := cx_g X2
    unfold S_draw_b41
    dsimp only
    rw [h6, nI_clamp (by omega), if_pos hk, hg, if_pos (show nI (nG n) ≤ nI (nG n) by rw [i_le]; omega)]
    refine okmr (q_dnight X2 hw (cs_63 C o) W hz e3 ?_)
    intro g' a1 a2 a3
    exact hQ g' a1 a2 (fr_tr (pdr_63 o) a3)
theorem q_draw {h : Hp} {n : Inn} {a N : Nat} {x : Int32} (hw : wI n) (hT1 : 1 ≤ nT n) (ha : a < 50) (H : CH h a n) (hN : N ≤ 40) : Okk (S_draw h a x (nI N)) (fun r => r.1 = nI (dn n x N).2.1 ∧ CX r.2 n ∧ CS r.2 (dn n x N).2.2 ∧ Fr pdr h r.2) := by
  have hT5 := hw.1
  obtain ⟨l58, l59, l60, l61, l62, l63⟩ := ln_st
  have k63 : kd 63 = 20 := by decide +kernel
  unfold S_draw
  refine okb (q_begin ha H) ?_
  rintro g0 ⟨X0, C0, F0⟩
  unfold S_draw_l14
  have F0' : Fr pdr h g0 := fr_mo F0 (by
    intro c i hc
    show (c = 57 ∧ 6 ≤ i ∧ i ≤ 9) ∨ (59 ≤ c ∧ c ≤ 63) ∨ (70 ≤ c ∧ c < 90)
    omega)
  refine lp_for _ N (fun k q => q.1 = (dn n x k).1 ∧ q.2.1 = nI (dn n x k).2.1 ∧ q.2.2.1 = nI k ∧ CX q.2.2.2 n ∧ CS q.2.2.2 (dn n x k).2.2 ∧ Fr pdr h q.2.2.2) _ ?_ ?_ 0 _ (by omega) ⟨rfl, rfl, rfl, X0, C0, F0'⟩
  · rintro k ⟨q1, q2, q3, q4⟩ hk1 ⟨e1, e2, e3, X, C, F⟩
    dsimp only at e1 e2 e3 X C F
    subst e1 e2 e3
    obtain ⟨b, hb, h6, Hb, hk, h5, hg⟩ := cx_g X
    obtain ⟨i1, i2⟩ := dn_ok hw x k
    unfold S_draw_b14
    dsimp only
    rw [if_neg (show ¬ nI N ≤ nI k from fun c => by rw [i_le, nI_toInt (by omega), nI_toInt (by omega)] at c; omega), h6, nI_clamp (by omega), if_pos hk, h5, if_neg (show ¬ nI (nT n) ≤ 0 from fun c => by rw [i_le, nI_toInt (by omega)] at c; have : (0 : Int32).toInt = 0 := rfl; omega), q_fill _ _ k63 (by omega), sb]
    have o : ∀ c i, c ≠ 63 → (fil q4 63 0).1 c i = q4.1 c i := fun c i hc => fil_c i hc
    refine q_dfirst (cx_fr X (fun c i hc => o c i (by omega))) hw hT1 (cs_63 C o) i1 i2 (fun t ht => fil_at (by omega)) ?_
    intro g a1 a2 a3
    exact ⟨rfl, rfl, rfl, a1, a2, fr_tr F (fr_tr (pdr_63 o) a3)⟩
  · rintro ⟨q1, q2, q3, q4⟩ ⟨e1, e2, e3, X, C, F⟩
    dsimp only at e1 e2 e3 X C F
    subst e1 e2 e3
    unfold S_draw_b14 S_draw_j148
    dsimp only
    rw [if_pos (show nI N ≤ nI N by rw [i_le]; omega)]
    exact okmr (ok_mk ⟨rfl, X, C, F⟩)
