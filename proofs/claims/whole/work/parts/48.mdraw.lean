/-! ===== L3: evenings drawn: the model ===== -/
theorem or_z2 (x : Int32) : x ||| (0 : Int32) = x := Int32.or_zero
/-- the model says for all at t what is theirs -/
theorem q_msp {h : Hp} {n : Inn} {s : St} {t : Nat} {who : Int32} (hw : wI n) (C : MS h (dSit n s t who)) (W : wS n (dSit n s t who)) (ht : t < nT n) : Okk (M_hears (wr h 269 t who) who who) (fun h' => MS h' (dSp n s t who who) ∧ Fr pms h h') := by
  have hT5 := hw.1
  have e1 : sB (dSit n s t who) t = sitB (sB s t) who := up_at _ _ _
  obtain ⟨c3, c4, c5, c6, cR⟩ := C.1 t (by omega)
  rw [e1] at c3 c4 c5 c6 cR
  have F1 : Fr (pm t) h (wr h 269 t who) := fr_wr (Or.inr ⟨by omega, by omega, rfl⟩)
  have B1 : MB (wr h 269 t who) t (bSt (sitB (sB s t) who) who who) := by
    refine ⟨?_, ?_, ?_, ?_, ?_⟩
    · rw [wr_c _ _ _ _ (by omega), c3]; rfl
    · rw [wr_c _ _ _ _ (by omega), c4]; rfl
    · rw [wr_c _ _ _ _ (by omega), c5]; rfl
    · rw [wr_at]; rfl
    · intro i hi
      rw [wr_c _ _ _ _ (by omega), wr_c _ _ _ _ (by omega), wr_c _ _ _ _ (by omega)]
      exact cR i hi
  have C2 := ms_b hw W C F1 B1 (by omega)
  have hG : ∀ g, (wr h 269 t who).1 270 g = h.1 270 g := fun g => wr_c _ _ _ _ (by omega)
  generalize hm : wr h 269 t who = m at *
  refine okw (q_mhears who who) ?_
  rintro h4 ⟨p3, F4⟩
  have o4 : ∀ c i, c ≠ 270 → h4.1 c i = m.1 c i := fun c i hc => F4 c i hc
  obtain ⟨d1, d2, d3, d4, d5, d6⟩ := C2
  have eU : ∀ u, sB (dSp n s t who who) u = up (sB (dSit n s t who)) t (bSt (sitB (sB s t) who) who who) u := by
    intro u
    by_cases c : u = t
    · subst c
      rw [up_at]
      exact up_at _ _ _
    · rw [up_ne _ _ c]
      show up (sB s) t _ u = up (sB s) t _ u
      rw [up_ne _ _ c, up_ne _ _ c]
  refine ⟨⟨?_, ?_, ?_, ?_, ?_, ?_⟩, ?_⟩
  · intro u hu
    rw [eU]
    have z := d1 u hu
    have hlen : bL (up (sB (dSit n s t who)) t (bSt (sitB (sB s t) who) who who) u) ≤ 16 := by
      have Wu := (W.1 u hu).1
      have hk7 := kp_le hw u
      have hlu := Wu.1
      by_cases e : u = t
      · subst e
        rw [e1] at hlu
        rw [up_at]
        show bL (sitB (sB s u) who) ≤ 16
        omega
      · rw [up_ne _ _ e]
        omega
    exact mb_fr z hlen (fun c i hc => o4 c i (by omega))
  · intro k hk8
    obtain ⟨g1, g2, g3⟩ := d2 k hk8
    refine ⟨?_, ?_, ?_⟩
    · show h4.1 270 k = dH who who (sH (dSit n s t who)) k
      rw [p3 k hk8]
      unfold dH
      rw [hG k, (C.2.1 k hk8).1]
    · rw [o4 271 k (by omega), g2]
      rfl
    · rw [o4 273 k (by omega), g3]
      rfl
  · intro i hi
    rw [o4 272 i (by omega), d3 i hi]
    rfl
  · rw [o4 251 38 (by omega), d4]
    rfl
  · rw [o4 251 39 (by omega), d5]
    rfl
  · rw [o4 251 40 (by omega), d6]
    rfl
  · refine fr_tr (fr_mo F1 pm_pms) (fr_mo F4 ?_)
    intro c i hc
    have hc' : c = 270 := hc
    exact Or.inr (by omega)
/-- what a drawn night changes -/
def pmd : Nat → Nat → Prop := fun c i => (c = 251 ∧ ((38 ≤ i ∧ i ≤ 40) ∨ i = 55 ∨ i = 56)) ∨ (263 ≤ c ∧ c ≤ 274)
theorem pms_pmd {h h' : Hp} (F : Fr pms h h') : Fr pmd h h' := fr_mo F (by
  intro c i hc
  have hc' : (c = 251 ∧ 38 ≤ i ∧ i ≤ 40) ∨ (263 ≤ c ∧ c ≤ 273) := hc
  show (c = 251 ∧ ((38 ≤ i ∧ i ≤ 40) ∨ i = 55 ∨ i = 56)) ∨ (263 ≤ c ∧ c ≤ 274)
  omega)
theorem mx_md {h h' : Hp} {n : Inn} (H : MX h n) (F : Fr pmd h h') : MX h' n := mx_fr H (fun c i hc => F c i (by
  show ¬ ((c = 251 ∧ ((38 ≤ i ∧ i ≤ 40) ∨ i = 55 ∨ i = 56)) ∨ (263 ≤ c ∧ c ≤ 274))
  omega))
theorem tl_pmd {h h' : Hp} (F : Fr pmd h h') : Tl h h' := tl_fr F (fun c i hc => by
  have hc' : (c = 251 ∧ ((38 ≤ i ∧ i ≤ 40) ∨ i = 55 ∨ i = 56)) ∨ (263 ≤ c ∧ c ≤ 274) := hc
  omega)
/-- the model's table t -/
theorem q_mtable {h : Hp} {n : Inn} {s : St} {t u : Nat} {T : Nat → Nat} {Q : ((Int32 × Hp) ⊕ Hp) → Prop} (X : MX h n) (hw : wI n) (C : MS h s) (W : wS n s) (ht : t < nT n) (h0 : bS (sB s t) = nI 0) (hd : dW (nS n t) T t (nG n) &&& seatAll s = nI 0) (h274 : ∀ g, g < nG n → h.1 274 g = nI (T g)) (hT : ∀ g, T g < 5) (hu : h.1 251 56 = nI u) (hQ : ∀ g, MS g (dT n s t (dW (nS n t) T t (nG n))) → g.1 251 56 = nI (u + dL (nS n t) T t (nG n)) → Fr (fun c i => pms c i ∨ (c = 251 ∧ i = 56)) h g → Q (.inl (nI (t + 1), g))) : Okk (M_drawNight_l47 (nI t) 0 0 0 h) Q := by
  have hT5 := hw.1
  have hG := hw.2.2.1
  have hS8 := (hw.2.2.2.1 t ht).2.1
  have l274 : ln 274 = 8 := by decide +kernel
  have l269 : ln 269 = 5 := by decide +kernel
  obtain ⟨pW, pL⟩ := dW_pc (nS n t) T t (nG n) hG
  have loW := dW_lo (nS n t) T t (nG n) (by omega)
  unfold M_drawNight_l47
  refine lp_for _ (nG n) (fun k q => q.1 = dW (nS n t) T t k ∧ q.2.1 = nI (pc (dW (nS n t) T t k)) ∧ q.2.2.1 = nI k ∧ q.2.2.2.1 251 56 = nI (u + dL (nS n t) T t k) ∧ Fr (fun c i => c = 251 ∧ i = 56) h q.2.2.2) _ ?_ ?_ 0 _ (by omega) ⟨rfl, (show nI 0 = nI (pc (nI 0)) by decide +kernel), rfl, hu, fr_rfl⟩
  · rintro k ⟨q1, q2, q3, q4⟩ hk1 ⟨e1, e2, e3, e4, e5⟩
    dsimp only at e1 e2 e3 e4 e5
    subst e1 e2 e3
    have o : ∀ c i, ¬ (c = 251 ∧ i = 56) → q4.1 c i = h.1 c i := e5
    have X2 := mx_fr X (fun c i hc => o c i (by omega))
    have pk := pc_le (dW (nS n t) T t k)
    have f1 : bt (dW (nS n t) T t k) k = false := dW_lo (nS n t) T t k (by omega) k (Nat.le_refl k)
    have g1 : pc (dW (nS n t) T t k ||| sh (nI 1) (nI k)) = pc (dW (nS n t) T t k) + 1 := by
      have := cT_bit f1 (by omega) 10 (by omega)
      rw [if_pos (by omega)] at this
      exact this
    unfold M_drawNight_b47 M_drawNight_j81 M_drawNight_j82 M_drawNight_j109 M_drawNight_j110 M_drawNight_j128 M_drawNight_j141
    dsimp only
    rw [(mx_g X2).2, if_neg (show ¬ nI (nG n) ≤ nI k from fun c => by rw [i_le, nI_toInt (by omega), nI_toInt (by omega)] at c; omega), l274, if_pos (nI_in (show k < 8 by omega) (by omega))]
    have ex : q4.1 274 (nI k).toNatClampNeg = nI (T k) := by rw [nI_clamp (by omega), o 274 k (by omega), h274 k hk1]
    have nxt : nI k + (1 : Int32) = nI (k + 1) := nI_add _ _
    by_cases c : T k = t
    · rw [if_pos (show q4.1 274 (nI k).toNatClampNeg = nI t by rw [ex, c])]
      rw [show M_ofTable q4 (nI t) (0 : Int32) = some (nI (nS n t)) from (q_ofT X2 hw ht).1, sb]
      by_cases c2 : pc (dW (nS n t) T t k) < nS n t
      · rw [if_neg (show ¬ nI (nS n t) ≤ nI (pc (dW (nS n t) T t k)) from fun c => by rw [i_le, nI_toInt (by omega), nI_toInt (by omega)] at c; omega), if_pos (nI_in (show k < 8 by omega) (by omega)), if_pos (show q4.1 274 (nI k).toNatClampNeg = nI t by rw [ex, c]), if_neg (show ¬ (1 : Int32) = 0 by decide +kernel), bnd_eq, if_neg (show ¬ (1 : Int32) = 0 by decide +kernel), bnd_eq, if_neg (show ¬ (1 : Int32) = 0 by decide +kernel), bnd_eq, bnd_eq, nxt]
        have eW : dW (nS n t) T t (k + 1) = dW (nS n t) T t k ||| sh (nI 1) (nI k) := if_pos ⟨c, c2⟩
        have eL : dL (nS n t) T t (k + 1) = dL (nS n t) T t k := if_neg (fun h => h.2 c2)
        refine ok_mk ⟨?_, ?_, rfl, ?_, fr_tr e5 (fr_wr ⟨rfl, rfl⟩)⟩
        · rw [eW]; rfl
        · rw [eW, g1]
          exact nI_add _ 1
        · dsimp only
          rw [wr_at, e4, eL]
          exact ad_z _
      · rw [if_pos (show nI (nS n t) ≤ nI (pc (dW (nS n t) T t k)) by rw [i_le, nI_toInt (by omega), nI_toInt (by omega)]; omega), if_pos (nI_in (show k < 8 by omega) (by omega)), if_pos (show q4.1 274 (nI k).toNatClampNeg = nI t by rw [ex, c]), if_pos (show (0 : Int32) = 0 from rfl), bnd_eq, if_pos (show (0 : Int32) = 0 from rfl), bnd_eq, if_pos (show (0 : Int32) = 0 from rfl), bnd_eq, bnd_eq, nxt]
        have eW : dW (nS n t) T t (k + 1) = dW (nS n t) T t k := if_neg (fun h => c2 h.2)
        have eL : dL (nS n t) T t (k + 1) = dL (nS n t) T t k + 1 := if_pos ⟨c, c2⟩
        refine ok_mk ⟨?_, ?_, rfl, ?_, fr_tr e5 (fr_wr ⟨rfl, rfl⟩)⟩
        · rw [eW]
          exact or_z _
        · rw [eW]
          exact ad_z _
        · dsimp only
          rw [wr_at, e4, eL]
          exact nI_add _ 1
    · have cN : ¬ q4.1 274 (nI k).toNatClampNeg = nI t := by rw [ex]; exact ne_nI (by have := hT k; omega) (by omega) c
      rw [if_neg cN, if_pos (nI_in (show k < 8 by omega) (by omega)), if_neg cN, bnd_eq, if_pos (show (0 : Int32) = 0 from rfl), bnd_eq, if_pos (show (0 : Int32) = 0 from rfl), bnd_eq, bnd_eq, nxt]
      have eW : dW (nS n t) T t (k + 1) = dW (nS n t) T t k := if_neg (fun h => c h.1)
      have eL : dL (nS n t) T t (k + 1) = dL (nS n t) T t k := if_neg (fun h => c h.1)
      refine ok_mk ⟨?_, ?_, rfl, ?_, fr_tr e5 (fr_wr ⟨rfl, rfl⟩)⟩
      · rw [eW]
        exact or_z _
      · rw [eW]
        exact ad_z _
      · dsimp only
        rw [wr_at, e4, eL]
        exact ad_z _
  · rintro ⟨q1, q2, q3, q4⟩ ⟨e1, e2, e3, e4, e5⟩
    dsimp only at e1 e2 e3 e4 e5
    subst e1 e2 e3
    have o : ∀ c i, ¬ (c = 251 ∧ i = 56) → q4.1 c i = h.1 c i := e5
    have X2 := mx_fr X (fun c i hc => o c i (by omega))
    have C2 := ms_fr C (fun c i hc => o c i (by omega))
    unfold M_drawNight_b47 M_drawNight_j149 M_drawNight_j172
    dsimp only
    rw [(mx_g X2).2, if_pos (show nI (nG n) ≤ nI (nG n) by rw [i_le]; omega)]
    refine okmr ?_
    have nxt : nI t + (1 : Int32) = nI (t + 1) := nI_add _ _
    have fo : Fr (fun c i => pms c i ∨ (c = 251 ∧ i = 56)) h q4 := fr_mo e5 (fun c i hc => Or.inr hc)
    generalize hwho : dW (nS n t) T t (nG n) = who at *
    by_cases hz : who = nI 0
    · rw [if_pos (show who = 0 from hz), bnd_eq, nxt]
      refine ok_mk (hQ q4 ?_ e4 fo)
      unfold dT
      rw [if_pos hz]
      exact C2
    · have ok := okSit_d hw ht h0 loW hd pW
      have W2 := wS_sit hw W (by omega) hz ok
      rw [if_neg (show ¬ who = 0 from hz)]
      refine okb (q_msits X2 hw C2 W ht (lo_mo loW hG) hz h0) ?_
      rintro g2 ⟨d1, d2⟩
      rw [l269, if_pos (nI_in (show t < 5 by omega) (by omega)), bnd_eq, nI_clamp (by omega)]
      refine okb (q_msp hw d1 W2 ht) ?_
      rintro g3 ⟨f1, f2⟩
      rw [bnd_eq, nxt]
      refine ok_mk (hQ g3 ?_ ?_ (fr_tr fo (fr_mo (fr_tr d2 f2) (fun c i hc => Or.inl hc))))
      · unfold dT
        rw [if_neg hz]
        exact f1
      · rw [pms_fr f2 (by omega), pms_fr d2 (by omega), e4]
theorem q_mnight {h : Hp} {n : Inn} {s : St} {x : Int32} {u : Nat} (X : MX h n) (hw : wI n) (hT1 : 1 ≤ nT n) (C : MS h s) (W : wS n s) (hz : ∀ t, t < 5 → bS (sB s t) = nI 0) (hx : h.1 251 55 = x) (hu : h.1 251 56 = nI u) : Okk (M_drawNight h) (fun g => MS g (dNig n (nt n (gT n x) s (nT n))) ∧ g.1 251 55 = sq x (nG n) ∧ g.1 251 56 = nI (u + nl n (gT n x) (nT n)) ∧ Fr pmd h g) := by
  have hT5 := hw.1
  have hG := hw.2.2.1
  have l274 : ln 274 = 8 := by decide +kernel
  unfold M_drawNight M_drawNight_l2
  refine lp_for _ (nG n) (fun g q => q.1 = nI g ∧ q.2.1 251 55 = sq x g ∧ (∀ i, i < g → q.2.1 274 i = nI (gT n x i)) ∧ Fr (fun c i => c = 274 ∨ (c = 251 ∧ i = 55)) h q.2) _ ?_ ?_ 0 _ (by omega) ⟨rfl, hx, fun i hi => absurd hi (by omega), fr_rfl⟩
  · rintro g ⟨q1, q2⟩ hg1 ⟨e1, e2, e3, e4⟩
    dsimp only at e1 e2 e3 e4
    subst e1
    have o : ∀ c i, ¬ (c = 274 ∨ (c = 251 ∧ i = 55)) → q2.1 c i = h.1 c i := e4
    have X2 := mx_fr X (fun c i hc => o c i (by omega))
    obtain ⟨r1, r2⟩ := tb_rm (T := nT n) (sq x (g + 1)) hT1 hT5
    unfold M_drawNight_b2 M_draw
    dsimp only
    rw [(mx_g X2).2, (mx_g X2).1, if_neg (show ¬ nI (nG n) ≤ nI g from fun c => by rw [i_le, nI_toInt (by omega), nI_toInt (by omega)] at c; omega), bnd_eq, if_pos (show ¬ nI (nT n) = 0 from ne_nI (b := 0) (by omega) (by omega) (by omega)), sb, wr_at, e2, show rm (us (sq x g * (1103515245 : Int32) + (12345 : Int32)) (16 : Int32)) (nI (nT n)) = nI (gT n x g) from r1]
    dsimp only
    rw [l274, if_pos (nI_in (show g < 8 by omega) (by omega)), bnd_eq, bnd_eq, nI_clamp (by omega), show nI g + (1 : Int32) = nI (g + 1) from nI_add _ _]
    refine ok_mk ⟨rfl, ?_, ?_, fr_tr e4 (fr_tr (fr_wr (Or.inr ⟨rfl, rfl⟩)) (fr_wr (Or.inl rfl)))⟩
    · dsimp only
      rw [wr_c _ _ _ _ (by omega), wr_at]; rfl
    · intro i hi
      dsimp only
      rw [wr_i]
      by_cases c : i = g
      · subst c
        rw [if_pos ⟨rfl, rfl⟩]
      · rw [if_neg (fun e => c e.2), wr_c _ _ _ _ (by omega), e3 i (by omega)]
  · rintro ⟨q1, q2⟩ ⟨e1, e2, e3, e4⟩
    dsimp only at e1 e2 e3 e4
    subst e1
    have o : ∀ c i, ¬ (c = 274 ∨ (c = 251 ∧ i = 55)) → q2.1 c i = h.1 c i := e4
    have X2 := mx_fr X (fun c i hc => o c i (by omega))
    have C2 := ms_fr C (fun c i hc => o c i (by omega))
    have Fq : Fr pmd h q2 := fr_mo e4 (by
      intro c i hc
      show (c = 251 ∧ ((38 ≤ i ∧ i ≤ 40) ∨ i = 55 ∨ i = 56)) ∨ (263 ≤ c ∧ c ≤ 274)
      omega)
    unfold M_drawNight_b2 M_drawNight_j30
    dsimp only
    rw [(mx_g X2).2, if_pos (show nI (nG n) ≤ nI (nG n) by rw [i_le]; omega)]
    refine okmr ?_
    unfold M_drawNight_l32
    refine lp_for _ (nT n) (fun t q => q.1 = nI t ∧ MS q.2 (nt n (gT n x) s t) ∧ q.2.1 251 56 = nI (u + nl n (gT n x) t) ∧ Fr (fun c i => pms c i ∨ (c = 251 ∧ i = 56)) q2 q.2) _ ?_ ?_ 0 _ (by omega) ⟨rfl, C2, by rw [o 251 56 (by omega), hu]; rfl, fr_rfl⟩
    · rintro t ⟨p1, p2⟩ ht ⟨a1, a2, a3, a4⟩
      dsimp only at a1 a2 a3 a4
      subst a1
      have o2 : ∀ c i, ¬ (((c = 251 ∧ 38 ≤ i ∧ i ≤ 40) ∨ (263 ≤ c ∧ c ≤ 273)) ∨ (c = 251 ∧ i = 56)) → p2.1 c i = q2.1 c i := a4
      have X3 := mx_fr X2 (fun c i hc => o2 c i (by omega))
      obtain ⟨i1, i2⟩ := nt_ok (T := gT n x) hw W hz t (by omega)
      unfold M_drawNight_b32
      dsimp only
      rw [(mx_g X3).1, if_neg (show ¬ nI (nT n) ≤ nI t from fun c => by rw [i_le, nI_toInt (by omega), nI_toInt (by omega)] at c; omega)]
      refine q_mtable (T := gT n x) X3 hw a2 i1 ht (by rw [i2 t (by omega), if_neg (by omega)]) (dis_of hw i2) (fun g hg => by rw [o2 274 g (by omega), e3 g hg]) (fun g => Nat.lt_of_lt_of_le (tb_rm (T := nT n) (sq x (g + 1)) hT1 hT5).2 hT5) a3 ?_
      intro g f1 f2 f3
      exact ⟨rfl, f1, by show g.1 251 56 = nI (u + (nl n (gT n x) t + _)); rw [f2, Nat.add_assoc], fr_tr a4 f3⟩
    · rintro ⟨p1, p2⟩ ⟨a1, a2, a3, a4⟩
      dsimp only at a1 a2 a3 a4
      subst a1
      have o2 : ∀ c i, ¬ (((c = 251 ∧ 38 ≤ i ∧ i ≤ 40) ∨ (263 ≤ c ∧ c ≤ 273)) ∨ (c = 251 ∧ i = 56)) → p2.1 c i = q2.1 c i := a4
      have X3 := mx_fr X2 (fun c i hc => o2 c i (by omega))
      obtain ⟨i1, i2⟩ := nt_ok (T := gT n x) hw W hz (nT n) (Nat.le_refl _)
      unfold M_drawNight_b32 M_drawNight_j178
      dsimp only
      rw [(mx_g X3).1, if_pos (show nI (nT n) ≤ nI (nT n) by rw [i_le]; omega)]
      refine okmr ?_
      refine okb (q_night X3 hw a2 i1) ?_
      rintro g ⟨f1, f2⟩
      refine ok_mk ⟨f1, ?_, ?_, fr_tr Fq (fr_tr (fr_mo a4 ?_) (pms_pmd f2))⟩
      · rw [pms_fr f2 (by omega), o2 251 55 (by omega), e2]
      · rw [pms_fr f2 (by omega), a3]
      · intro c i hc
        have hc' : ((c = 251 ∧ 38 ≤ i ∧ i ≤ 40) ∨ (263 ≤ c ∧ c ≤ 273)) ∨ (c = 251 ∧ i = 56) := hc
        show (c = 251 ∧ ((38 ≤ i ∧ i ≤ 40) ∨ i = 55 ∨ i = 56)) ∨ (263 ≤ c ∧ c ≤ 274)
        omega
/-- so many nights of the model -/
theorem q_mdraws {h : Hp} {n : Inn} {x x4 : Int32} {N : Nat} {Q : Int32 × Hp → Prop} (X : MX h n) (hw : wI n) (hT1 : 1 ≤ nT n) (hN : N ≤ 40) (hQ : ∀ g, MX g n → MS g (dn n x N).2.2 → g.1 251 56 = nI (dn n x N).2.1 → Fr pmd h g → Okk (M_drawn_j127 x4 g) Q) : Okk (M_drawn_j94 x (nI N) x4 h) Q := by
  unfold M_drawn_j94
  rw [bnd_eq]
  refine okb q_mbegin ?_
  rintro g0 ⟨C0, F0⟩
  rw [bnd_eq]
  have F1 : Fr pmd h (wr g0 251 56 0) := fr_tr (fr_tr (fr_wr (Or.inl ⟨rfl, Or.inr (Or.inl rfl)⟩)) (pms_pmd F0)) (fr_wr (Or.inl ⟨rfl, Or.inr (Or.inr rfl)⟩))
  unfold M_drawn_l111
  refine lp_for _ N (fun k q => q.1 = nI k ∧ MS q.2 (dn n x k).2.2 ∧ q.2.1 251 55 = (dn n x k).1 ∧ q.2.1 251 56 = nI (dn n x k).2.1 ∧ Fr pmd h q.2) _ ?_ ?_ 0 _ (by omega) ⟨rfl, ms_fr C0 (fun c i hc => wr_i _ _ _ _ _ _ ▸ if_neg (by omega)), ?_, wr_at _ _ _ _, F1⟩
  · rintro k ⟨q1, q2⟩ hk1 ⟨e1, e2, e3, e4, e5⟩
    dsimp only at e1 e2 e3 e4 e5
    subst e1
    obtain ⟨i1, i2⟩ := dn_ok hw x k
    unfold M_drawn_b111
    dsimp only
    rw [if_neg (show ¬ nI N ≤ nI k from fun c => by rw [i_le, nI_toInt (by omega), nI_toInt (by omega)] at c; omega)]
    refine okb (q_mnight (mx_md X e5) hw hT1 e2 i1 i2 e3 e4) ?_
    rintro g ⟨f1, f2, f3, f4⟩
    rw [bnd_eq]
    exact ok_mk ⟨nI_add _ _, f1, f2, f3, fr_tr e5 f4⟩
  · rintro ⟨q1, q2⟩ ⟨e1, e2, e3, e4, e5⟩
    dsimp only at e1 e2 e3 e4 e5
    subst e1
    unfold M_drawn_b111
    dsimp only
    rw [if_pos (show nI N ≤ nI N by rw [i_le]; omega)]
    exact okmr (hQ q2 (mx_md X e5) e2 e4 e5)
  · dsimp only
    rw [wr_p _ _ _ _ (by omega), pms_fr F0 (by omega), wr_at]; rfl
