/-! ===== L3: the spy: the model ===== -/
def rS (y z : Bn) : Prop := bL y = bL z ∧ bU y = bU z ∧ bW y = nI 0 ∧ ∀ i, i < bL z → (bR y i).2.1 = (bR z i).2.1
theorem rS_s {k : Nat} {y z : Bn} (N N' g : Int32) (r : rS y z) : rS (bSt (bKp (bAp (bSt (bTn y) g (bW y)) (g, bW y, N)) k) (nI 0) (nI 0)) (bQt z N' k) := by
  obtain ⟨r1, r2, r3, r4⟩ := r
  refine ⟨?_, ?_, rfl, ?_⟩
  · show bL y + 1 - (bL y + 1 - k) = bL z + 1 - (bL z + 1 - k)
    rw [r1]
  · show (if bU y + 1 < bL y then bU y + 1 else 0) - (bL y + 1 - k) = (if bU z + 1 < bL z then bU z + 1 else 0) - (bL z + 1 - k)
    rw [r1, r2]
  · intro i hi
    have hi' : i < bL z + 1 - (bL z + 1 - k) := hi
    show (up (bR y) (bL y) (g, bW y, N) (i + (bL y + 1 - k))).2.1 = (up (bR z) (bL z) (nI 0, nI 0, N') (i + (bL z + 1 - k))).2.1
    rw [r1]
    by_cases e : i + (bL z + 1 - k) = bL z
    · rw [e, up_at, up_at]
      exact r3
    · rw [up_ne _ _ e, up_ne _ _ e]
      exact r4 _ (by omega)
theorem rS_0 {n : Inn} {s : St} {t : Nat} (h0 : bS (sB s t) = nI 0) (hW : bW (sB s t) = nI 0) : rS (sB s t) (zT n s t 0) := by
  have e : zT n s t 0 = bSt (sB s t) (nI 0) (nI 0) := by
    show bEn (sB s t) (sN s) (kp n t) = _
    unfold bEn
    rw [if_pos h0]
  rw [e]
  exact ⟨rfl, rfl, hW, fun i hi => rfl⟩
theorem q_spied {h : Hp} {n : Inn} {s : St} {N r : Nat} {x : Int32} {Y0 : Nat → Bn} (X : MX h n) (hw : wI n) (W : wS n s) (hN : N ≤ 4) (hr : r < nT n ^ N) (B : ∀ t, t < nT n → MB h t (Y0 t) ∧ rS (Y0 t) (zT n s t 0)) : Okk (M_spied h (nI r) (nI N) x) (fun q => q.1 = x &&& (spw (Zw n s) (nT n) N r N ^^^ jN 1) ∧ Fr pms h q.2) := by
  have hT5 := hw.1
  have hp := pw_le hT5 (show N ≤ 5 by omega)
  have hT1 : N = 0 ∨ 1 ≤ nT n := by
    rcases Nat.eq_zero_or_pos N with c | c
    · exact Or.inl c
    · rcases Nat.eq_zero_or_pos (nT n) with c2 | c2
      · rw [c2, Nat.zero_pow c] at hr
        omega
      · exact Or.inr c2
  have l0 : ln 266 = 5 ∧ ln 267 = 5 ∧ ln 268 = 5 ∧ ln 264 = 80 := by decide +kernel
  unfold M_spied M_spied_l9
  refine lp_for _ (max N 1) (fun k q => 1 ≤ k ∧ q = (nI (nT n ^ (k - 1)), nI k)) _ ?_ ?_ 1 _ (by omega) ⟨by omega, rfl⟩
  · rintro k q hk ⟨hk1, rfl⟩
    unfold M_spied_b9
    dsimp only
    rw [if_neg (show ¬ nI N ≤ nI k from fun c => by rw [i_le, nI_toInt (by omega), nI_toInt (by omega)] at c; omega), (mx_g X).1, bnd_eq, bnd_eq, pk_mul, show nI k + (1 : Int32) = nI (k + 1) from nI_add _ _]
    refine ok_mk ⟨by omega, ?_⟩
    rw [show k + 1 - 1 = (k - 1) + 1 by omega, Nat.pow_succ]
  rintro q ⟨hk1, rfl⟩
  unfold M_spied_b9 M_spied_j30
  dsimp only
  rw [if_pos (show nI N ≤ nI (max N 1) by rw [i_le, nI_toInt (by omega), nI_toInt (by omega)]; omega), show max N 1 - 1 = N - 1 by omega]
  refine okmr ?_
  unfold M_spied_l33
  refine lp_for _ N (fun i q => q.1 = spw (Zw n s) (nT n) N r i ∧ (i < N → q.2.1 = nI (nT n ^ (N - 1 - i))) ∧ q.2.2.1 = nI i ∧ (∃ Y : Nat → Bn, ∀ t, t < nT n → MB q.2.2.2 t (Y t) ∧ rS (Y t) (zT n s t (spv (nT n) N r i t))) ∧ Fr pms h q.2.2.2) _ ?_ ?_ 0 _ (by omega) ⟨rfl, fun _ => by rw [Nat.sub_zero], rfl, ⟨Y0, B⟩, fr_rfl⟩
  · rintro i ⟨q1, q2, q3, q4⟩ hi ⟨e1, e2, e3, ⟨Y, e4⟩, e5⟩
    dsimp only at e1 e2 e3 e4 e5
    have e2' := e2 hi
    subst e1 e2' e3
    have hT : 1 ≤ nT n := by omega
    have X2 := mx_st X e5
    have hz : ¬ nI (nT n) = 0 := ne_nI (b := 0) (by omega) (by omega) (by omega)
    have pw1 : 1 ≤ nT n ^ (N - 1 - i) := Nat.one_le_pow _ _ (by omega)
    have pw2 := pw_le hT5 (show N - 1 - i ≤ 5 by omega)
    have hd : spd (nT n) N r i < nT n := Nat.mod_lt _ (by omega)
    have hrd : r / nT n ^ (N - 1 - i) ≤ r := Nat.div_le_self _ _
    generalize hdd : spd (nT n) N r i = d at *
    obtain ⟨⟨m3, m4, m5, m6, mR⟩, y1, y2, y3, y4⟩ := e4 d hd
    obtain ⟨g1, g2⟩ := gB_zT W (show d < 5 by omega) (spv (nT n) N r i d)
    have hk6 := kp_le hw d
    rw [← y1] at g1
    rw [← y1, ← y2] at g2
    have ed : rm (nI r / nI (nT n ^ (N - 1 - i))) (nI (nT n)) = nI d := by
      rw [pk_div (by omega) (by omega) (by omega), ← hdd]
      exact pk_rem (by omega) (by omega) (by omega)
    unfold M_spied_b33
    dsimp only
    rw [if_neg (show ¬ nI N ≤ nI i from fun c => by rw [i_le, nI_toInt (by omega), nI_toInt (by omega)] at c; omega), if_pos (show ¬ nI (nT n ^ (N - 1 - i)) = 0 from ne_nI (b := 0) (by omega) (by omega) (by omega)), (mx_g X2).1, if_pos hz, bnd_eq, if_pos hz, bnd_eq, ed, l0.1, if_pos (nI_in (show d < 5 by omega) (by omega))]
    have u6 : q4.1 266 (nI d).toNatClampNeg = nI (bL (Y d)) := by rw [nI_clamp (by omega), m3]
    have u7 : q4.1 267 (nI d).toNatClampNeg = nI (bU (Y d)) := by rw [nI_clamp (by omega), m4]
    have e10 : i + 1 < N → nI (nT n ^ (N - 1 - i)) / nI (nT n) = nI (nT n ^ (N - 1 - (i + 1))) := by
      intro hi2
      rw [pk_div (by omega) (by omega) (by omega), show N - 1 - i = (N - 1 - (i + 1)) + 1 by omega, Nat.pow_succ, Nat.mul_div_cancel _ (by omega)]
    -- what follows the words
    have tail : ∀ g w, MB g d (bTn (Y d)) → Fr (pm d) q4 g → w = spw (Zw n s) (nT n) N r (i + 1) → Okk (M_spied_j116 (nI r) (nI N) x w (nI (nT n ^ (N - 1 - i)) / nI (nT n)) (nI i) (nI d) g) (Sum.elim (fun q => q.1 = spw (Zw n s) (nT n) N r (i + 1) ∧ (i + 1 < N → q.2.1 = nI (nT n ^ (N - 1 - (i + 1)))) ∧ q.2.2.1 = nI (i + 1) ∧ (∃ Y : Nat → Bn, ∀ t, t < nT n → MB q.2.2.2 t (Y t) ∧ rS (Y t) (zT n s t (spv (nT n) N r (i + 1) t))) ∧ Fr pms h q.2.2.2) (fun q => q.1 = x &&& (spw (Zw n s) (nT n) N r N ^^^ jN 1) ∧ Fr pms h q.2)) := by
      intro g w Bg Fg hww
      subst hww
      obtain ⟨b3, b4, b5, b6, bR'⟩ := Bg
      have X3 := mx_st X2 (fr_mo Fg pm_pms)
      have F1 : Fr (pm d) g (wr g 268 d 1) := fr_wr (Or.inr ⟨by omega, by omega, rfl⟩)
      have X4 := mx_st X3 (fr_mo F1 pm_pms)
      have B1 : MB (wr g 268 d 1) d (bSt (bTn (Y d)) (nI 1) (bW (Y d))) := by
        refine ⟨?_, ?_, ?_, ?_, ?_⟩
        · rw [wr_c _ _ _ _ (by omega), b3]; rfl
        · rw [wr_c _ _ _ _ (by omega), b4]; rfl
        · rw [wr_at]; rfl
        · rw [wr_c _ _ _ _ (by omega), b6]; rfl
        · intro j hj
          rw [wr_c _ _ _ _ (by omega), wr_c _ _ _ _ (by omega), wr_c _ _ _ _ (by omega)]
          exact bR' j hj
      unfold M_spied_j116
      rw [l0.2.2.1, if_pos (nI_in (show d < 5 by omega) (by omega)), bnd_eq, nI_clamp (by omega)]
      have uT : bU (bTn (Y d)) ≤ 12 := by
        show (if bU (Y d) + 1 < bL (Y d) then bU (Y d) + 1 else 0) ≤ 12
        split <;> omega
      refine okb (q_becomes X4 hw hd B1 (show bL (Y d) ≤ 11 by omega) uT) ?_
      rintro g3 ⟨B3, F3⟩
      rw [bnd_eq]
      have FF3 : Fr (pm d) q4 g3 := fr_tr Fg (fr_tr F1 F3)
      refine ok_mk ⟨rfl, e10, nI_add _ _, ⟨fun t => if t = d then bSt (bKp (bAp (bSt (bTn (Y d)) (nI 1) (bW (Y d))) (nI 1, bW (Y d), (wr g 268 d 1).1 251 38)) (nK n d)) (nI 0) (nI 0) else Y t, ?_⟩, fr_tr e5 (fr_mo FF3 pm_pms)⟩
      intro t ht
      dsimp only
      by_cases c : t = d
      · subst c
        rw [if_pos rfl]
        refine ⟨B3, ?_⟩
        have ev : spv (nT n) N r (i + 1) t = spv (nT n) N r i t + 1 := by
          show spv (nT n) N r i t + (if spd (nT n) N r i = t then 1 else 0) = _
          rw [if_pos hdd]
        rw [ev]
        show rS _ (bQt (zT n s t (spv (nT n) N r i t)) (sN s) (kp n t))
        rw [← kp_at hd]
        exact rS_s _ _ _ ⟨y1, y2, y3, y4⟩
      · rw [if_neg c]
        obtain ⟨Bt, rt⟩ := e4 t ht
        obtain ⟨gt1, gt2⟩ := gB_zT W (show t < 5 by omega) (spv (nT n) N r i t)
        have hkt := kp_le hw t
        refine ⟨mb_fr Bt (by rw [rt.1]; omega) (fun c i hc => pm_fr FF3 (by omega)), ?_⟩
        have ev : spv (nT n) N r (i + 1) t = spv (nT n) N r i t := by
          show spv (nT n) N r i t + (if spd (nT n) N r i = t then 1 else 0) = _
          rw [if_neg (by rw [hdd]; exact fun e => c e.symm)]; rfl
        rw [ev]
        exact rt
    have ew : spw (Zw n s) (nT n) N r (i + 1) = spw (Zw n s) (nT n) N r i ||| bV (zT n s d (spv (nT n) N r i d)) := by
      show spw (Zw n s) (nT n) N r i ||| Zw n s (spd (nT n) N r i) (spv (nT n) N r i (spd (nT n) N r i)) = _
      rw [hdd]; rfl
    by_cases cL : bL (Y d) = 0
    · rw [if_pos (show q4.1 266 (nI d).toNatClampNeg ≤ 0 by rw [u6, cL]; decide +kernel)]
      have hU : bU (Y d) = 0 := by omega
      refine tail q4 _ ⟨m3, ?_, m5, m6, mR⟩ fr_rfl ?_
      · rw [m4]
        show _ = nI (if bU (Y d) + 1 < bL (Y d) then bU (Y d) + 1 else 0)
        rw [if_neg (by omega), hU]
      · rw [ew]
        unfold bV
        rw [if_neg (by omega), or_z]
    · have hU : bU (Y d) < bL (Y d) := by omega
      rw [if_neg (show ¬ q4.1 266 (nI d).toNatClampNeg ≤ 0 from fun c => by rw [u6, i_le, nI_toInt (by omega)] at c; have : (0 : Int32).toInt = 0 := rfl; omega), l0.2.1, if_pos (nI_in (show d < 5 by omega) (by omega))]
      have ei : (16 : Int32) * nI d + q4.1 267 (nI d).toNatClampNeg = nI (16 * d + bU (Y d)) := by rw [u7, show (16 : Int32) * nI d = nI (16 * d) from pk_mul 16 _, nI_add]
      rw [ei, l0.2.2.2, if_pos (nI_in (by omega) (by omega)), bnd_eq, if_pos (nI_in (show d < 5 by omega) (by omega)), if_pos (nI_in (show d < 5 by omega) (by omega)), if_pos (show ¬ q4.1 266 (nI d).toNatClampNeg = 0 by rw [u6]; exact ne_nI (b := 0) (by omega) (by omega) cL), if_pos (nI_in (show d < 5 by omega) (by omega)), bnd_eq, u6, u7, nI_clamp (show 16 * d + bU (Y d) < 2 ^ 31 by omega), (mR _ hU).2.1, show nI (bU (Y d)) + (1 : Int32) = nI (bU (Y d) + 1) from nI_add _ _, show rm (nI (bU (Y d) + 1)) (nI (bL (Y d))) = nI ((bU (Y d) + 1) % bL (Y d)) from pk_rem (by omega) (by omega) (by omega), nI_clamp (show d < 2 ^ 31 by omega)]
      refine tail _ _ ⟨?_, ?_, ?_, ?_, ?_⟩ (fr_wr (Or.inr ⟨by omega, by omega, rfl⟩)) ?_
      · rw [wr_c _ _ _ _ (by omega), m3]; rfl
      · rw [wr_at]
        show _ = nI (if bU (Y d) + 1 < bL (Y d) then bU (Y d) + 1 else 0)
        by_cases c : bU (Y d) + 1 < bL (Y d)
        · rw [if_pos c, Nat.mod_eq_of_lt c]
        · rw [if_neg c, show bU (Y d) + 1 = bL (Y d) by omega, Nat.mod_self]
      · rw [wr_c _ _ _ _ (by omega), m5]; rfl
      · rw [wr_c _ _ _ _ (by omega), m6]; rfl
      · intro j hj
        rw [wr_c _ _ _ _ (by omega), wr_c _ _ _ _ (by omega), wr_c _ _ _ _ (by omega)]
        exact mR j hj
      · rw [ew]
        unfold bV
        rw [if_pos (by rw [← y1, ← y2]; exact hU), y4 _ (by rw [← y1]; exact hU), y2]
  · rintro ⟨q1, q2, q3, q4⟩ ⟨e1, e2, e3, e4, e5⟩
    dsimp only at e1 e2 e3 e4 e5
    subst e1 e3
    unfold M_spied_b33 M_spied_j136
    dsimp only
    rw [if_pos (show nI N ≤ nI N by rw [i_le]; omega)]
    exact okmr (ok_mk ⟨rfl, e5⟩)
def pFS : Nat → Nat → Prop := fun c i => pms c i ∨ (c = 251 ∧ 57 ≤ i ∧ i ≤ 58)
theorem tl_pFS {h h' : Hp} (F : Fr pFS h h') : Tl h h' := tl_fr F (fun c i hc => by
  have hc' : ((c = 251 ∧ 38 ≤ i ∧ i ≤ 40) ∨ (263 ≤ c ∧ c ≤ 273)) ∨ (c = 251 ∧ 57 ≤ i ∧ i ≤ 58) := hc
  omega)
/-- what the model has found -/
def mspy (fd : Nat → Nat → Bool) (T : Nat) (h : Hp) : Prop := (NoF fd T ∧ h.1 251 57 = jN 1) ∨ ∃ N r, FF fd T N r ∧ h.1 251 57 = nI N ∧ h.1 251 58 = nI r
theorem q_findSpy {h : Hp} {n : Inn} {s : St} {x3 x : Int32} (X : MX h n) (hw : wI n) (W : wS n s) (A : Again n s x3 h) (hz : ∀ t, t < 5 → bS (sB s t) = nI 0) : Okk (M_findSpy h x3 x) (fun h' => mspy (spf (Zw n s) (nT n) x) (nT n) h' ∧ Fr pFS h h') := by
  have hT5 := hw.1
  obtain ⟨l, rfl, A'⟩ := A
  unfold M_findSpy M_findSpy_l10
  rw [bnd_eq]
  have F0 : Fr pFS h (wr h 251 57 (-1)) := fr_wr (Or.inr ⟨rfl, by omega, by omega⟩)
  refine lp_for _ 5 (fun N q => q.1 = nI (nT n ^ N) ∧ q.2.1 = nI N ∧ ((q.2.2.1 251 57 = jN 1 ∧ ∀ N', N' < N → ∀ r', r' < nT n ^ N' → spf (Zw n s) (nT n) x N' r' = false) ∨ ∃ N0 r0, FF (spf (Zw n s) (nT n) x) (nT n) N0 r0 ∧ q.2.2.1 251 57 = nI N0 ∧ q.2.2.1 251 58 = nI r0) ∧ Fr pFS h q.2.2) _ ?_ ?_ 0 _ (by omega) ⟨rfl, rfl, Or.inl ⟨wr_at _ _ _ _, fun N' c => absurd c (by omega)⟩, F0⟩
  · rintro N ⟨q1, q2, q3⟩ hN ⟨e1, e2, e3, e4⟩
    dsimp only at e1 e2 e3 e4
    subst e1 e2
    have hp := pw_le hT5 (show N ≤ 5 by omega)
    unfold M_findSpy_b10 M_findSpy_j90
    dsimp only
    rw [if_neg (show ¬ (5 : Int32) ≤ nI N from fun c => by have c2 : nI 5 ≤ nI N := c; rw [i_le, nI_toInt (by omega), nI_toInt (by omega)] at c2; omega)]
    rcases e3 with ⟨m57, none_⟩ | ⟨N0, r0, ff, m57, m58⟩
    case inr =>
      have hN0 := ff.1
      rw [if_neg (show ¬ q3.1 251 57 = (-1 : Int32) by rw [m57]; exact ne_jN (by omega))]
      exact okmr (ok_mk ⟨Or.inr ⟨N0, r0, ff, m57, m58⟩, e4⟩)
    rw [if_pos (show q3.1 251 57 = (-1 : Int32) from m57)]
    unfold M_findSpy_l27
    -- the way out of the inner rows
    have out : ∀ (N1 : Nat) g, Fr pFS h g → ((g.1 251 57 = jN 1 ∧ ∀ N', N' < N + 1 → ∀ r', r' < nT n ^ N' → spf (Zw n s) (nT n) x N' r' = false) ∨ ∃ N0 r0, FF (spf (Zw n s) (nT n) x) (nT n) N0 r0 ∧ g.1 251 57 = nI N0 ∧ g.1 251 58 = nI r0) → Okk (M_findSpy_j77 (nI l) x (nI (nT n ^ N)) (nI N) g) (Sum.elim (fun q => q.1 = nI (nT n ^ (N + 1)) ∧ q.2.1 = nI (N + 1) ∧ ((q.2.2.1 251 57 = jN 1 ∧ ∀ N', N' < N + 1 → ∀ r', r' < nT n ^ N' → spf (Zw n s) (nT n) x N' r' = false) ∨ ∃ N0 r0, FF (spf (Zw n s) (nT n) x) (nT n) N0 r0 ∧ q.2.2.1 251 57 = nI N0 ∧ q.2.2.1 251 58 = nI r0) ∧ Fr pFS h q.2.2) (fun h' => mspy (spf (Zw n s) (nT n) x) (nT n) h' ∧ Fr pFS h h')) := by
      intro _ g hF ha
      have Xg : MX g n := mx_fr X (fun c i hc => hF c i (by
        show ¬ (((c = 251 ∧ 38 ≤ i ∧ i ≤ 40) ∨ (263 ≤ c ∧ c ≤ 273)) ∨ (c = 251 ∧ 57 ≤ i ∧ i ≤ 58))
        omega))
      unfold M_findSpy_j77
      rw [bnd_eq, bnd_eq, (mx_g Xg).1, pk_mul, show nI N + (1 : Int32) = nI (N + 1) from nI_add _ _]
      exact ok_mk ⟨by dsimp only; rw [Nat.pow_succ], rfl, ha, hF⟩
    refine lp_for _ (nT n ^ N) (fun r q => q.1 = nI r ∧ ((q.2.1 251 57 = jN 1 ∧ ∀ r', r' < r → spf (Zw n s) (nT n) x N r' = false) ∨ ∃ r0, FF (spf (Zw n s) (nT n) x) (nT n) N r0 ∧ q.2.1 251 57 = nI N ∧ q.2.1 251 58 = nI r0) ∧ Fr pFS h q.2) _ ?_ ?_ 0 _ (Nat.zero_le _) ⟨rfl, Or.inl ⟨m57, fun r' c => absurd c (by omega)⟩, e4⟩
    · rintro r ⟨p1, p2⟩ hr ⟨a1, a2, a3⟩
      dsimp only at a1 a2 a3
      subst a1
      unfold M_findSpy_b27 M_findSpy_j71
      dsimp only
      rw [if_neg (show ¬ nI (nT n ^ N) ≤ nI r from fun c => by rw [i_le, nI_toInt (by omega), nI_toInt (by omega)] at c; omega)]
      rcases a2 with ⟨n57, no2⟩ | ⟨r0, ff, n57, n58⟩
      case inr =>
        rw [if_neg (show ¬ p2.1 251 57 = (-1 : Int32) by rw [n57]; exact ne_jN (by omega))]
        exact okmr (out 0 p2 a3 (Or.inr ⟨N, r0, ff, n57, n58⟩))
      rw [if_pos (show p2.1 251 57 = (-1 : Int32) from n57)]
      refine okb (A' p2 (fun c i hc => a3 c i (fun c2 => ?_))) ?_
      · have c2' : ((c = 251 ∧ 38 ≤ i ∧ i ≤ 40) ∨ (263 ≤ c ∧ c ≤ 273)) ∨ (c = 251 ∧ 57 ≤ i ∧ i ≤ 58) := c2
        have hc' : ((2 ≤ c ∧ c ≤ 45) ∨ (125 ≤ c ∧ c ≤ 250) ∨ (252 ≤ c ∧ c ≤ 260) ∨ c = 280) ∨ (c = 251 ∧ 23 ≤ i ∧ i ≤ 26) := hc
        omega
      rintro ⟨v, g1⟩ ⟨C1, F1⟩
      dsimp only at C1 F1
      have F1' : Fr pFS p2 g1 := fr_mo F1 (fun c i hc => Or.inl hc)
      have Fg1 := fr_tr a3 F1'
      have X1 : MX g1 n := mx_fr X (fun c i hc => Fg1 c i (by
        show ¬ (((c = 251 ∧ 38 ≤ i ∧ i ≤ 40) ∨ (263 ≤ c ∧ c ≤ 273)) ∨ (c = 251 ∧ 57 ≤ i ∧ i ≤ 58))
        omega))
      dsimp only
      refine okb (q_spied X1 hw W (show N ≤ 4 by omega) hr (fun t ht => ⟨C1.1 t (by omega), rS_0 (hz t (by omega)) ((W.1 t (by omega)).1.2.2.2.2.1 (hz t (by omega)))⟩)) ?_
      rintro ⟨w, g2⟩ ⟨b1, b2⟩
      dsimp only at b1 b2
      subst b1
      have Fg2 : Fr pFS h g2 := fr_tr Fg1 (fr_mo b2 (fun c i hc => Or.inl hc))
      have e57 : g2.1 251 57 = jN 1 := by rw [pms_fr b2 (by omega), pms_fr F1 (by omega), n57]
      dsimp only
      by_cases c : x &&& (spw (Zw n s) (nT n) N r N ^^^ jN 1) = nI 0
      · rw [if_pos (show x &&& (spw (Zw n s) (nT n) N r N ^^^ jN 1) = 0 from c), bnd_eq, bnd_eq, bnd_eq]
        refine ok_mk ⟨nI_add _ _, Or.inr ⟨r, ⟨by omega, hr, decide_eq_true c, no2, none_⟩, ?_, wr_at _ _ _ _⟩, fr_tr Fg2 (fr_tr (fr_wr (Or.inr ⟨rfl, by omega, by omega⟩)) (fr_wr (Or.inr ⟨rfl, by omega, by omega⟩)))⟩
        dsimp only
        rw [wr_p _ _ _ _ (by omega), wr_at]
      · rw [if_neg (show ¬ x &&& (spw (Zw n s) (nT n) N r N ^^^ jN 1) = 0 from c), bnd_eq]
        refine ok_mk ⟨nI_add _ _, Or.inl ⟨e57, ?_⟩, Fg2⟩
        intro r' hr'
        by_cases c2 : r' = r
        · subst c2
          exact decide_eq_false c
        · exact no2 r' (by omega)
    · rintro ⟨p1, p2⟩ ⟨a1, a2, a3⟩
      dsimp only at a1 a2 a3
      subst a1
      unfold M_findSpy_b27
      dsimp only
      rw [if_pos (show nI (nT n ^ N) ≤ nI (nT n ^ N) by rw [i_le]; omega)]
      refine okmr (out 0 p2 a3 ?_)
      rcases a2 with ⟨n57, no2⟩ | ⟨r0, ff, n57, n58⟩
      · refine Or.inl ⟨n57, ?_⟩
        intro N' hN' r' hr'
        by_cases c : N' = N
        · subst c
          exact no2 r' hr'
        · exact none_ N' (by omega) r' hr'
      · exact Or.inr ⟨N, r0, ff, n57, n58⟩
  · rintro ⟨q1, q2, q3⟩ ⟨e1, e2, e3, e4⟩
    dsimp only at e1 e2 e3 e4
    subst e1 e2
    unfold M_findSpy_b10 M_findSpy_j90
    dsimp only
    rw [if_pos (show (5 : Int32) ≤ nI 5 by decide +kernel)]
    refine okmr (ok_mk ⟨?_, e4⟩)
    rcases e3 with ⟨m57, none_⟩ | ⟨N0, r0, ff, m57, m58⟩
    · exact Or.inl ⟨fun N hN r hr => none_ N hN r hr, m57⟩
    · exact Or.inr ⟨N0, r0, ff, m57, m58⟩
