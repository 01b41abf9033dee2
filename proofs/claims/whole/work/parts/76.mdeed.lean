/-! ===== L3: texts: the model's deeds, wishes, hearings ===== -/
def pDn : Nat → Nat → Prop := fun c i => (c = 251 ∧ 10 ≤ i ∧ i ≤ 22 ∧ i ≠ 11 ∧ i ≠ 21) ∨ (c = 262 ∧ i ≠ 0)
theorem pdn_o {h h' : Hp} (F : Fr pDn h h') : ∀ c i, ¬ ((c = 251 ∧ 10 ≤ i ∧ i ≤ 22 ∧ i ≠ 11 ∧ i ≠ 21) ∨ (c = 262 ∧ i ≠ 0)) → h'.1 c i = h.1 c i := F
theorem ptb_n {k : Nat} (hk : k ≠ 0) {h h' : Hp} (F : Fr (pTb k) h h') : Fr pDn h h' := fr_mo F (fun c i hc => by
  have hc' : (c = 251 ∧ 10 ≤ i ∧ i ≤ 22 ∧ i ≠ 11 ∧ i ≠ 21) ∨ (c = 262 ∧ i = k) := hc
  show (c = 251 ∧ 10 ≤ i ∧ i ≤ 22 ∧ i ≠ 11 ∧ i ≠ 21) ∨ (c = 262 ∧ i ≠ 0)
  omega)
theorem pdn_e {h h' : Hp} (F : Fr pDn h h') : Fr pMe h h' := fr_mo F (fun c i hc => by
  have hc' : (c = 251 ∧ 10 ≤ i ∧ i ≤ 22 ∧ i ≠ 11 ∧ i ≠ 21) ∨ (c = 262 ∧ i ≠ 0) := hc
  show (c = 251 ∧ 10 ≤ i ∧ i ≤ 22 ∧ i ≠ 11) ∨ c = 261 ∨ c = 262
  omega)
/-- who sits: behind the first number as many as are told -/
def stF (X : Tx) (n : Nat) (S : PS) (w : Int32) : PS × Int32 := sitT X n (nuS X 0 7 w S) (w ||| sh (nI 1) (nI (nuV X 0 7 S)))
/-- noting a number that was told twice, behind it -/
theorem q_ltr {X : Tx} {h : Hp} {S : PS} (hX : okX X) (M : MP X h (nxt X S)) (h1 : S.2.1 ≠ 1) (hk : tK X S.1 = 2) (hp : S.1 ≤ X.2) (hx : S.2.1 ≠ 0 → S.2.2 ≤ tS X S.1 ∧ (S.2.1 = 3 → S.2.2 < tS X S.1)) (hf : S.2.1 ≤ 3) : Okk (M_later h (2 : Int32) (nI (tS X S.1))) (fun h' => MP X h' (nxt X (nte 2 (tS X S.1) S)) ∧ Fr (fun c i => c = 251 ∧ 17 ≤ i ∧ i ≤ 18) h h') := by
  have hl := hX.1
  have hs := tS_b X hp
  have hE := tE_b X hp
  have hs2 := tS_b X hE.2.1
  have he := hE.2.2.1 (by omega)
  have en : nxt X S = (tE X S.1, S.2) := if_neg h1
  have M0 := M
  rw [en] at M
  obtain ⟨T, K, hp', hf3, h1', h17, hxx⟩ := M
  dsimp only at K hp' hf3 h1' h17 hxx
  unfold M_later M_later_j31 M_later_j41
  rw [h17]
  by_cases c : S.2.1 = 0
  · have e2 : nte 2 (tS X S.1) S = (S.1, 2, tS X S.1) := if_pos c
    have e3 : nxt X (S.1, 2, tS X S.1) = (tE X S.1, 2, tS X S.1) := if_neg (by show ¬ 2 = 1; omega)
    rw [e2, e3, if_pos (show nI S.2.1 = 0 by rw [c]; rfl), bnd_eq, bnd_eq]
    obtain ⟨k1, k2, k3, k4, k5⟩ := K
    have o : ∀ c i, ¬ (c = 251 ∧ 17 ≤ i ∧ i ≤ 18) → (wr (wr h 251 17 (2 : Int32)) 251 18 (nI (tS X S.1))).1 c i = h.1 c i := fun c i hc => by
      rw [wr_i, if_neg (by omega), wr_i, if_neg (by omega)]
    refine ok_mk ⟨⟨mtx_fr T (fun c i hc => o c i (by omega)), ⟨by rw [o _ _ (by omega), k1], by rw [o _ _ (by omega), k2], by rw [o _ _ (by omega), k3], fun e => by rw [o _ _ (by omega), k4 e], fun e => k5 e⟩, hp', by show 2 ≤ 3; omega, by show 2 ≠ 1; omega, ?_, fun _ => ⟨wr_at _ _ _ _, ?_, fun e3 => absurd e3 (by show ¬ 2 = 3; omega)⟩⟩, fr_tr (fr_wr (by omega)) (fr_wr (by omega))⟩
    · rw [wr_p _ _ _ _ (by omega), wr_at]; rfl
    · show tS X S.1 ≤ tS X (tE X S.1)
      omega
  obtain ⟨x1, x2, x3⟩ := hxx c
  obtain ⟨y1, y2⟩ := hx c
  rw [if_neg (show ¬ nI S.2.1 = 0 from ne_nI (b := 0) (by omega) (by omega) c), x1, if_neg (show ¬ nI (tS X S.1) < nI S.2.2 from fun e => by rw [i_lt, nI_toInt (by omega), nI_toInt (by omega)] at e; omega), nte_n c]
  by_cases d : tS X S.1 = S.2.2
  · have hle : S.2.1 ≤ 2 := by
      rcases (by omega : S.2.1 = 2 ∨ S.2.1 = 3) with e | e
      · omega
      · have := y2 e
        omega
    rw [if_pos (show nI (tS X S.1) = nI S.2.2 by rw [d]), if_pos (show nI S.2.1 ≤ (2 : Int32) from (nI_leI (b := 2) (by omega) (by omega)).mpr hle)]
    exact ok_mk ⟨M0, fr_rfl⟩
  · rw [if_neg (ne_nI (by omega) (by omega) d)]
    exact ok_mk ⟨M0, fr_rfl⟩
theorem nuS_w0 {X : Tx} {S : PS} {w : Int32} (h1 : S.2.1 ≠ 1) (h2 : tK X S.1 = 2) (hw : S.2.1 = 0 → tV X S.1 ≤ 7 → bt w (tV X S.1) = false) : nuS X 0 7 w S = nuS X 0 7 0 S := by
  rw [nuS_z h1 h2, nuS_z h1 h2]
  by_cases c : S.2.1 = 0
  · have e : vOk 0 7 w (tV X S.1) = vOk 0 7 0 (tV X S.1) := by
      unfold vOk
      by_cases d : tV X S.1 ≤ 7
      · rw [hw c d, show bt 0 (tV X S.1) = false from b_0 _]
      · rw [decide_eq_false d, Bool.false_and, Bool.false_and]
    rw [e]
  · rw [nte_n c, ite_self, ite_self]
theorem q_sitM {X : Tx} {h : Hp} {S : PS} (hX : okX X) (M : MP X h S) : Okk (M_sitters h) (fun r => Fr (pTb 2) h r.2 ∧ (BO (stF X 600 S (nI 0)).1 r ∨ ((stF X 600 S (nI 0)).1.2.1 ≠ 1 ∧ r.1 = nI 1 ∧ MP X r.2 (stF X 600 S (nI 0)).1 ∧ ((stF X 600 S (nI 0)).1.2.1 = 0 → r.2.1 262 2 = (stF X 600 S (nI 0)).2)))) := by
  have hl := hX.1
  obtain ⟨cc1, cc2⟩ := cl12
  have Mp := M.2.2.1
  have Mn := M.2.2.2.2.1
  unfold M_sitters M_sitters_l2
  refine lp_gh _ (fun n z => ∃ S' w, MP X z.2 S' ∧ Fr (pTb 2) h z.2 ∧ (S'.2.1 = 0 → z.1 = w) ∧ (n < 600 → tK X S'.1 = 2) ∧ n ≤ 600 ∧ X.2 - S'.1 ≤ n ∧ stF X n S' w = stF X 600 S (nI 0)) _ ?_ 600 _ ⟨S, nI 0, M, fr_rfl, fun _ => rfl, fun c => absurd c (by omega), Nat.le_refl _, by omega, rfl⟩
  rintro n ⟨z1, g⟩ ⟨S', w, M', F', hz, h2, hn, hm, ef⟩
  dsimp only at M' F' hz
  have hp' := M'.2.2.1
  have h1' := M'.2.2.2.2.1
  have hf' := M'.2.2.2.1
  have hx' := M'.2.2.2.2.2.2
  have es : g.1 251 12 = nI (tS X S'.1) := M'.2.1.2.1
  unfold M_sitters_b2 M_sitters_j18
  dsimp only
  rw [cc2, es, bnd_eq]
  refine okb (q_take0 hX M' (k := 2) (a := 0) (c := 7) (by omega) (by omega) (by omega)) ?_
  rintro ⟨r1, g1⟩ T1
  rcases to_or T1 h1' with B | ⟨d1, n1, e1, M1, v1, y1⟩
  · have e : r1 = nI 0 := B.2.1
    subst e
    dsimp only
    rw [if_pos (show nI 0 = (0 : Int32) from rfl)]
    refine okmr (ok_mk ⟨fr_tr F' T1.1, Or.inl ?_⟩)
    have d : tK X S'.1 ≠ 2 := fun d => nuS_g h1' d B.1
    have e1 : nuS X 0 7 w S' = nuS X 0 7 0 S' := by rw [nuS_f h1' d, nuS_f h1' d]
    have e2 : (stF X n S' w).1 = nuS X 0 7 0 S' := by
      unfold stF
      rw [e1, sitT_n (fun e => e.1 B.1)]
    rw [← ef, e2]
    exact B
  dsimp only at e1 M1 v1 ⊢
  subst e1
  rw [if_neg ne10, v1]
  have o1 := ptb_o T1.1
  dsimp only at o1
  have hv := tV_lt d1
  have hE := tE_b X hp'
  have he := hE.2.2.1 (by omega)
  have hs := tS_b X hp'
  obtain ⟨n', rfl⟩ : ∃ n', n = n' + 1 := ⟨n - 1, by omega⟩
  -- behind the number: S2 and who sits
  have j74 : ∀ g2 y, MP X g2 (nuS X 0 7 w S') → Fr (pTb 2) g1 g2 → ((nuS X 0 7 w S').2.1 = 0 → z1 ||| y = w ||| sh (nI 1) (nI (nuV X 0 7 S'))) → Okk (M_sitters_j74 z1 y g2) (Sum.elim (fun s' : Int32 × Hp => ∃ m, m < n' + 1 ∧ ∃ S' w, MP X s'.2 S' ∧ Fr (pTb 2) h s'.2 ∧ (S'.2.1 = 0 → s'.1 = w) ∧ (m < 600 → tK X S'.1 = 2) ∧ m ≤ 600 ∧ X.2 - S'.1 ≤ m ∧ stF X m S' w = stF X 600 S (nI 0)) (fun r => Fr (pTb 2) h r.2 ∧ (BO (stF X 600 S (nI 0)).1 r ∨ ((stF X 600 S (nI 0)).1.2.1 ≠ 1 ∧ r.1 = nI 1 ∧ MP X r.2 (stF X 600 S (nI 0)).1 ∧ ((stF X 600 S (nI 0)).1.2.1 = 0 → r.2.1 262 2 = (stF X 600 S (nI 0)).2))))) := by
    intro g2 y M2 F2 hy
    have hk2 := M2.2.1.2.2.1
    have hn2 := M2.2.2.2.2.1
    have hp2 := M2.2.2.1
    have hf2 : Fr (pTb 2) h g2 := fr_tr F' (fr_tr T1.1 F2)
    have hlt : S'.1 < (nuS X 0 7 w S').1 := by
      rw [nuS_z h1' d1]
      have a1 : ∀ S3 : PS, S3.1 = S'.1 → S3.2.1 ≠ 1 → S'.1 < (nxt X S3).1 := fun S3 e1 e2 => by
        unfold nxt
        rw [if_neg e2]
        show S'.1 < tE X S3.1
        rw [e1]
        omega
      by_cases c : vOk 0 7 w (tV X S'.1) = true
      · rw [if_pos c]; exact a1 _ rfl h1'
      · rw [if_neg c]
        refine a1 _ ?_ (fun e => h1' ((nte_1 (by omega)).mp e))
        unfold nte
        by_cases d : S'.2.1 = 0
        · rw [if_pos d]
        · rw [if_neg d]
    have hk4 := tK_le X (nuS X 0 7 w S').1
    unfold M_sitters_j74 M_sitters_j84
    rw [bnd_eq, hk2]
    by_cases d : tK X (nuS X 0 7 w S').1 = 2
    · rw [if_pos (show nI (mK (tK X (nuS X 0 7 w S').1)) = (3 : Int32) by rw [d]; rfl)]
      have hlt2 : (nuS X 0 7 w S').1 < X.2 := by
        have hs3 := tS_b X hp2
        have := (tE_b X hp2).2.2.1 (by omega)
        omega
      obtain ⟨n2, rfl⟩ : ∃ n2, n' = n2 + 1 := ⟨n' - 1, by omega⟩
      refine ok_mk ⟨n2 + 1, by omega, nuS X 0 7 w S', w ||| sh (nI 1) (nI (nuV X 0 7 S')), M2, hf2, hy, fun _ => d, by omega, by omega, ?_⟩
      rw [← ef]
      show stF X (n2 + 1) (nuS X 0 7 w S') _ = sitT X (n2 + 1 + 1) (nuS X 0 7 w S') _
      rw [sitT_s, if_pos ⟨hn2, d⟩]
      rfl
    · rw [if_neg (fun e => d ((mK_3 _ hk4).mp e)), cc2, bnd_eq]
      have e2 : stF X 600 S (nI 0) = (nuS X 0 7 w S', w ||| sh (nI 1) (nI (nuV X 0 7 S'))) := by
        rw [← ef]
        unfold stF
        rw [sitT_n (fun e => d e.2)]
      rw [e2]
      refine okmr (ok_mk ⟨fr_tr hf2 (fr_wr (Or.inr ⟨rfl, rfl⟩)), Or.inr ⟨hn2, rfl, mp_fr M2 (fun c i hc => wr_c _ _ _ _ (by omega)) rfl, fun c => ?_⟩⟩)
      rw [wr_at]
      exact hy c
  by_cases c8 : 8 ≤ tV X S'.1
  · rw [if_pos (show (8 : Int32) ≤ nI (tV X S'.1) from (nI_leI (a := 8) (by omega) (by omega)).mpr c8)]
    unfold M_sitters_j50
    rw [cc2, v1, if_pos (show (8 : Int32) ≤ nI (tV X S'.1) from (nI_leI (a := 8) (by omega) (by omega)).mpr c8)]
    have ew : nuS X 0 7 w S' = nuS X 0 7 0 S' := nuS_w0 h1' d1 (fun _ c => absurd c (by omega))
    refine j74 g1 _ (by rw [ew]; exact M1) fr_rfl (fun c => ?_)
    rw [ew] at c
    have := (y1 c).2
    omega
  have n8 : ¬ (8 : Int32) ≤ nI (tV X S'.1) := fun e => c8 ((nI_leI (a := 8) (by omega) (by omega)).mp e)
  rw [if_neg n8, q_has z1 (show tV X S'.1 < 32 by omega), sb, bI_it0]
  have j50 : ∀ g2, g2.1 262 2 = nI (tV X S'.1) → MP X g2 (nuS X 0 7 w S') → Fr (pTb 2) g1 g2 → Okk (M_sitters_j50 z1 g2) (Sum.elim (fun s' : Int32 × Hp => ∃ m, m < n' + 1 ∧ ∃ S' w, MP X s'.2 S' ∧ Fr (pTb 2) h s'.2 ∧ (S'.2.1 = 0 → s'.1 = w) ∧ (m < 600 → tK X S'.1 = 2) ∧ m ≤ 600 ∧ X.2 - S'.1 ≤ m ∧ stF X m S' w = stF X 600 S (nI 0)) (fun r => Fr (pTb 2) h r.2 ∧ (BO (stF X 600 S (nI 0)).1 r ∨ ((stF X 600 S (nI 0)).1.2.1 ≠ 1 ∧ r.1 = nI 1 ∧ MP X r.2 (stF X 600 S (nI 0)).1 ∧ ((stF X 600 S (nI 0)).1.2.1 = 0 → r.2.1 262 2 = (stF X 600 S (nI 0)).2))))) := by
    intro g2 e2 M2 F2
    unfold M_sitters_j50
    rw [cc2, e2, if_neg n8]
    refine j74 g2 _ M2 F2 (fun c => ?_)
    obtain ⟨c0, -, -, -, c5⟩ := nuS_0 c
    rw [hz c0, c5]
    rfl
  by_cases hb : bt z1 (tV X S'.1) = true
  · rw [if_pos hb]
    by_cases c0 : S'.2.1 = 0
    · have e0 : nuS X 0 7 0 S' = nxt X S' := by
        rw [nuS_z h1' d1]
        have : vOk 0 7 0 (tV X S'.1) = true := by
          unfold vOk
          rw [decide_eq_true (Nat.zero_le _), decide_eq_true (show tV X S'.1 ≤ 7 by omega), show bt 0 (tV X S'.1) = false from b_0 _]
          rfl
        rw [if_pos this]
      have ew : nuS X 0 7 w S' = nxt X (nte 2 (tS X S'.1) S') := by
        rw [nuS_z h1' d1]
        have : vOk 0 7 w (tV X S'.1) = false := by
          unfold vOk
          rw [← hz c0, hb, Bool.not_true, Bool.and_false, Bool.and_false]
        rw [this, if_neg (by decide)]
      rw [e0] at M1
      refine okb (q_ltr hX M1 h1' d1 hp' (fun c => absurd c0 c) hf') ?_
      rintro g2 ⟨M2, F2⟩
      have o2 : ∀ c i, ¬ (c = 251 ∧ 17 ≤ i ∧ i ≤ 18) → g2.1 c i = g1.1 c i := F2
      exact j50 g2 (by rw [o2 _ _ (by omega), v1]) (by rw [ew]; exact M2) (fr_mo F2 (fun c i hc => Or.inl (by omega)))
    · have e0 : nuS X 0 7 0 S' = nxt X S' := by rw [nuS_z h1' d1, nte_n c0, ite_self]
      have ew : nuS X 0 7 w S' = nxt X (nte 2 (tS X S'.1) S') := by rw [nuS_z h1' d1, nte_n c0, ite_self]
      rw [e0] at M1
      obtain ⟨-, x2, x3⟩ := hx' c0
      refine okb (q_ltr hX M1 h1' d1 hp' (fun _ => ⟨x2, fun e => x3 e d1⟩) hf') ?_
      rintro g2 ⟨M2, F2⟩
      have o2 : ∀ c i, ¬ (c = 251 ∧ 17 ≤ i ∧ i ≤ 18) → g2.1 c i = g1.1 c i := F2
      exact j50 g2 (by rw [o2 _ _ (by omega), v1]) (by rw [ew]; exact M2) (fr_mo F2 (fun c i hc => Or.inl (by omega)))
  · rw [if_neg hb]
    have ew : nuS X 0 7 w S' = nuS X 0 7 0 S' := nuS_w0 h1' d1 (fun c0 _ => by rw [← hz c0]; exact eq_false_of_ne_true hb)
    exact j50 g1 v1 (by rw [ew]; exact M1) fr_rfl
/-- the numbers of a deed -/
def NO (X : Tx) (h : Hp) (r : Int32 × Hp) (G : PS × Pst) : Prop := Fr pDn h r.2 ∧ (BO G.1 r ∨ (G.1.2.1 ≠ 1 ∧ r.1 = nI 1 ∧ MP X r.2 G.1 ∧ (G.1.2.1 = 0 → r.2.1 262 1 = G.2.2.1 ∧ r.2.1 262 2 = G.2.2.2)))
theorem no_r {X : Tx} {h : Hp} {r : Int32 × Hp} {G : PS × Pst} (H : NO X h r G) : r.1 = 0 ∨ r.1 = 1 := by
  rcases H.2 with B | B
  · exact Or.inl B.2.1
  · exact Or.inr B.2.1
theorem lnD_10 (X : Tx) (S : PS) : lnD 1 X 0 S = ((stF X 600 (nuS X 0 4 0 S) (nI 0)).1, (nI 0, nI (nuV X 0 4 S), (stF X 600 (nuS X 0 4 0 S) (nI 0)).2)) := by
  have e : nI 0 ||| sh (nI 1) (nI (nuV X 0 7 (nuS X 0 4 0 S))) = sh (nI 1) (nI (nuV X 0 7 (nuS X 0 4 0 S))) := by
    refine b_ext (fun i _ => ?_)
    rw [b_or, show bt (nI 0) i = false from b_0 i, Bool.false_or]
  unfold stF
  rw [e]
  exact (if_pos rfl).trans (if_pos rfl)
theorem lnD_11 (X : Tx) (S : PS) : lnD 1 X 1 S = (nuS X 0 9 0 (nuS X 0 7 0 S), (nI 1, nI (nuV X 0 7 S), nI (nuV X 0 9 (nuS X 0 7 0 S)))) := (if_pos rfl).trans ((if_neg (by decide)).trans (if_pos rfl))
theorem lnD_12 (X : Tx) (S : PS) : lnD 1 X 2 S = (S, (nI 2, jN 1, jN 1)) := (if_pos rfl).trans ((if_neg (by decide)).trans ((if_neg (by decide)).trans (if_pos rfl)))
theorem lnD_13 (X : Tx) (S : PS) : lnD 1 X 3 S = (nuS X 0 4 0 S, (nI 3, nI (nuV X 0 4 S), jN 1)) := (if_pos rfl).trans ((if_neg (by decide)).trans ((if_neg (by decide)).trans ((if_neg (by decide)).trans (if_pos rfl))))
theorem lnD_14 (X : Tx) (S : PS) {k : Nat} (hk : 4 ≤ k) : lnD 1 X k S = (nuS X 0 4 (sh (nI 1) (nI (nuV X 0 4 S))) (nuS X 0 4 0 S), (nI k, nI (nuV X 0 4 S), nI (nuV X 0 4 (nuS X 0 4 0 S)))) := (if_pos rfl).trans ((if_neg (by omega)).trans ((if_neg (by omega)).trans ((if_neg (by omega)).trans (if_neg (by omega)))))
theorem q_deedN {X : Tx} {h : Hp} {S : PS} (hX : okX X) (M : MP X h S) (i1 : h.1 262 1 = jN 1) (i2 : h.1 262 2 = jN 1) {k : Nat} (hk : k < 6) : Okk (M_deedNumbers h (nI k)) (fun r => NO X h r (lnD 1 X k S)) := by
  obtain ⟨cc1, cc2⟩ := cl12
  have hs1 := M.2.2.2.2.1
  have nk : ∀ c, c < 10 → k ≠ c → ¬ nI k = nI c := fun c hc hne => ne_nI (by omega) (by omega) hne
  unfold M_deedNumbers M_deedNumbers_j61 M_deedNumbers_j62 M_deedNumbers_j89 M_deedNumbers_j90 M_deedNumbers_j131
  have g0 : ∀ z : Hp, (if nI 0 = (0 : Int32) ∨ nI 0 = (1 : Int32) then some (nI 0, z) else none) = some (nI 0, z) := fun z => if_pos (Or.inl rfl)
  have g1 : ∀ z : Hp, (if nI 1 = (0 : Int32) ∨ nI 1 = (1 : Int32) then some (nI 1, z) else none) = some (nI 1, z) := fun z => if_pos (Or.inr rfl)
  by_cases d0 : k = 0
  · subst d0
    rw [if_pos (show nI 0 = (0 : Int32) from rfl), lnD_10]
    refine okb (q_take0 hX M (k := 1) (a := 0) (c := 4) (by omega) (by omega) (by omega)) ?_
    rintro ⟨r1, h1⟩ T1
    rcases to_or T1 hs1 with B | ⟨d1, n1, e1, M1, v1, y1⟩
    · have e : r1 = nI 0 := B.2.1
      subst e
      dsimp only
      rw [if_pos (show nI 0 = (0 : Int32) from rfl)]
      show Okk (if nI 0 = (0 : Int32) ∨ nI 0 = (1 : Int32) then some (nI 0, h1) else none) _
      rw [g0]
      refine ok_mk ⟨ptb_n (by omega) T1.1, Or.inl ?_⟩
      have e2 : (stF X 600 (nuS X 0 4 0 S) (nI 0)).1 = nuS X 0 4 0 S := by
        unfold stF
        rw [nuS_1 B.1, sitT_n (fun e => e.1 B.1)]
      show BO (stF X 600 (nuS X 0 4 0 S) (nI 0)).1 _
      rw [e2]
      exact B
    dsimp only at e1 M1 v1 ⊢
    subst e1
    have o1 := ptb_o T1.1
    dsimp only at o1
    rw [if_neg ne10]
    refine okb (q_sitM hX M1) ?_
    rintro ⟨r2, h2⟩ ⟨F2, L⟩
    have o2 := ptb_o F2
    dsimp only at o2
    have F : Fr pDn h h2 := fr_tr (ptb_n (by omega) T1.1) (ptb_n (by omega) F2)
    rcases L with B | ⟨n2, e2, M2, y2⟩
    · have e : r2 = nI 0 := B.2.1
      subst e
      dsimp only
      rw [if_pos (show nI 0 = (0 : Int32) from rfl)]
      show Okk (if nI 0 = (0 : Int32) ∨ nI 0 = (1 : Int32) then some (nI 0, h2) else none) _
      rw [g0]
      exact ok_mk ⟨F, Or.inl B⟩
    · dsimp only at e2 M2 y2
      subst e2
      rw [if_neg ne10]
      show Okk (if nI 1 = (0 : Int32) ∨ nI 1 = (1 : Int32) then some (nI 1, h2) else none) _
      rw [g1]
      refine ok_mk ⟨F, Or.inr ⟨n2, rfl, M2, fun c => ⟨?_, y2 c⟩⟩⟩
      have c1 : (nuS X 0 4 0 S).2.1 = 0 := (nuS_0 (sitT_0 _ _ _ c)).1
      show h2.1 262 1 = nI (nuV X 0 4 S)
      rw [o2 _ _ (by omega), v1, (y1 c1).1]
  rw [if_neg (show ¬ nI k = (0 : Int32) from nk 0 (by omega) d0)]
  by_cases d1 : k = 1
  · subst d1
    rw [if_pos (show nI 1 = (1 : Int32) from rfl), lnD_11]
    refine okb (q_take0 hX M (k := 1) (a := 0) (c := 7) (by omega) (by omega) (by omega)) ?_
    rintro ⟨r1, h1⟩ T1
    rcases to_or T1 hs1 with B | ⟨d1, n1, e1, M1, v1, y1⟩
    · have e : r1 = nI 0 := B.2.1
      subst e
      dsimp only
      rw [if_pos (show nI 0 = (0 : Int32) from rfl)]
      show Okk (if nI 0 = (0 : Int32) ∨ nI 0 = (1 : Int32) then some (nI 0, h1) else none) _
      rw [g0]
      exact ok_mk ⟨ptb_n (by omega) T1.1, Or.inl (bo_1 B)⟩
    dsimp only at e1 M1 v1 ⊢
    subst e1
    have o1 := ptb_o T1.1
    dsimp only at o1
    rw [if_neg ne10]
    refine okb (q_take0 hX M1 (k := 2) (a := 0) (c := 9) (by omega) (by omega) (by omega)) ?_
    rintro ⟨r2, h2⟩ T2
    have o2 := ptb_o T2.1
    dsimp only at o2
    have F : Fr pDn h h2 := fr_tr (ptb_n (by omega) T1.1) (ptb_n (by omega) T2.1)
    rcases to_or T2 n1 with B | ⟨d2, n2, e2, M2, v2, y2⟩
    · have e : r2 = nI 0 := B.2.1
      subst e
      dsimp only
      rw [if_pos (show nI 0 = (0 : Int32) from rfl)]
      show Okk (if nI 0 = (0 : Int32) ∨ nI 0 = (1 : Int32) then some (nI 0, h2) else none) _
      rw [g0]
      exact ok_mk ⟨F, Or.inl B⟩
    dsimp only at e2 M2 v2 ⊢
    subst e2
    rw [if_neg ne10]
    show Okk (if nI 1 = (0 : Int32) ∨ nI 1 = (1 : Int32) then some (nI 1, h2) else none) _
    rw [g1]
    refine ok_mk ⟨F, Or.inr ⟨n2, rfl, M2, fun c => ⟨?_, ?_⟩⟩⟩
    · show h2.1 262 1 = nI (nuV X 0 7 S)
      rw [o2 _ _ (by omega), v1, (y1 (nuS_0 c).1).1]
    · show h2.1 262 2 = nI (nuV X 0 9 (nuS X 0 7 0 S))
      rw [v2, (y2 c).1]
  rw [if_neg (show ¬ nI k = (1 : Int32) from nk 1 (by omega) d1)]
  by_cases d2 : k = 2
  · subst d2
    rw [if_pos (show nI 2 = (2 : Int32) from rfl), lnD_12]
    exact ok_mk ⟨fr_rfl, Or.inr ⟨hs1, rfl, M, fun _ => ⟨i1, i2⟩⟩⟩
  rw [if_neg (show ¬ nI k = (2 : Int32) from nk 2 (by omega) d2)]
  by_cases d3 : k = 3
  · subst d3
    rw [if_pos (show nI 3 = (3 : Int32) from rfl), lnD_13]
    refine okb (q_take0 hX M (k := 1) (a := 0) (c := 4) (by omega) (by omega) (by omega)) ?_
    rintro ⟨r1, h1⟩ T1
    have o1 := ptb_o T1.1
    dsimp only at o1
    rcases to_or T1 hs1 with B | ⟨d1, n1, e1, M1, v1, y1⟩
    · have e : r1 = nI 0 := B.2.1
      subst e
      show Okk (if nI 0 = (0 : Int32) ∨ nI 0 = (1 : Int32) then some (nI 0, h1) else none) _
      rw [g0]
      exact ok_mk ⟨ptb_n (by omega) T1.1, Or.inl B⟩
    dsimp only at e1 M1 v1 ⊢
    subst e1
    show Okk (if nI 1 = (0 : Int32) ∨ nI 1 = (1 : Int32) then some (nI 1, h1) else none) _
    rw [g1]
    refine ok_mk ⟨ptb_n (by omega) T1.1, Or.inr ⟨n1, rfl, M1, fun c => ⟨?_, ?_⟩⟩⟩
    · show h1.1 262 1 = nI (nuV X 0 4 S)
      rw [v1, (y1 c).1]
    · show h1.1 262 2 = jN 1
      rw [o1 _ _ (by omega), i2]
  rw [if_neg (show ¬ nI k = (3 : Int32) from nk 3 (by omega) d3), lnD_14 X S (show 4 ≤ k by omega)]
  have two : Okk (M_deedNumbers_j99 h) (fun r => NO X h r (nuS X 0 4 (sh (nI 1) (nI (nuV X 0 4 S))) (nuS X 0 4 0 S), (nI k, nI (nuV X 0 4 S), nI (nuV X 0 4 (nuS X 0 4 0 S))))) := by
    unfold M_deedNumbers_j99 M_deedNumbers_j129 M_deedNumbers_j130
    rw [cc1]
    refine okb (q_take0 hX M (k := 1) (a := 0) (c := 4) (by omega) (by omega) (by omega)) ?_
    rintro ⟨r1, h1⟩ T1
    rcases to_or T1 hs1 with B | ⟨d1, n1, e1, M1, v1, y1⟩
    · have e : r1 = nI 0 := B.2.1
      subst e
      dsimp only
      rw [if_pos (show nI 0 = (0 : Int32) from rfl)]
      show Okk (if nI 0 = (0 : Int32) ∨ nI 0 = (1 : Int32) then some (nI 0, h1) else none) _
      rw [g0]
      exact ok_mk ⟨ptb_n (by omega) T1.1, Or.inl (bo_1 B)⟩
    dsimp only at e1 M1 v1 ⊢
    subst e1
    have o1 := ptb_o T1.1
    dsimp only at o1
    rw [if_neg ne10]
    have hv := tV_lt d1
    refine okb (q_takeB hX M1 (k := 2) (a := 0) (c := 4) (bar := sh (nI 1) (nI (nuV X 0 4 S))) (x4 := h1.1 262 1) (by omega) (by omega) (by omega) (fun c v hv => ?_)) ?_
    · obtain ⟨a1, a2⟩ := y1 c
      rw [v1, a1]
      exact bar_v (by omega) (by omega)
    rintro ⟨r2, h2⟩ T2
    have o2 := ptb_o T2.1
    dsimp only at o2
    have F : Fr pDn h h2 := fr_tr (ptb_n (by omega) T1.1) (ptb_n (by omega) T2.1)
    rcases to_or T2 n1 with B | ⟨d2, n2, e2, M2, v2, y2⟩
    · have e : r2 = nI 0 := B.2.1
      subst e
      dsimp only
      rw [if_pos (show nI 0 = (0 : Int32) from rfl)]
      show Okk (if nI 0 = (0 : Int32) ∨ nI 0 = (1 : Int32) then some (nI 0, h2) else none) _
      rw [g0]
      exact ok_mk ⟨F, Or.inl B⟩
    dsimp only at e2 M2 v2 ⊢
    subst e2
    rw [if_neg ne10]
    show Okk (if nI 1 = (0 : Int32) ∨ nI 1 = (1 : Int32) then some (nI 1, h2) else none) _
    rw [g1]
    refine ok_mk ⟨F, Or.inr ⟨n2, rfl, M2, fun c => ⟨?_, ?_⟩⟩⟩
    · show h2.1 262 1 = nI (nuV X 0 4 S)
      rw [o2 _ _ (by omega), v1, (y1 (nuS_0 c).1).1]
    · show h2.1 262 2 = nI (nuV X 0 4 (nuS X 0 4 0 S))
      rw [v2, (y2 c).1]
  by_cases d4 : k = 4
  · rw [if_pos (show nI k = (4 : Int32) by rw [d4]; rfl)]
    exact two
  · rw [if_neg (show ¬ nI k = (4 : Int32) from nk 4 (by omega) d4), if_pos (show nI k = (5 : Int32) by rw [show k = 5 by omega]; rfl)]
    exact two
