/-! ===== L3: seatings: harm, pay, the best ===== -/
def nsm (f : Nat → Nat) : Nat → Nat
  | 0 => 0
  | k + 1 => nsm f k + f k
theorem nsm_s (f : Nat → Nat) (k : Nat) : nsm f (k + 1) = nsm f k + f k := rfl
theorem nsm_cg {f g : Nat → Nat} : ∀ k, (∀ i, i < k → f i = g i) → nsm f k = nsm g k
  | 0, _ => rfl
  | k + 1, h => by rw [nsm_s, nsm_s, nsm_cg k (fun i hi => h i (by omega)), h k (by omega)]
theorem nsm_up {f g : Nat → Nat} {u c : Nat} (hu : f u = g u + c) : ∀ k, u < k → (∀ i, i < k → i ≠ u → f i = g i) → nsm f k = nsm g k + c
  | 0, h, _ => absurd h (by omega)
  | k + 1, h, he => by
    rw [nsm_s, nsm_s]
    rcases Nat.lt_or_ge u k with h1 | h1
    · rw [nsm_up hu k h1 (fun i hi hn => he i (by omega) hn), he k (by omega) (by omega)]
      omega
    · obtain rfl : u = k := by omega
      rw [nsm_cg u (fun i hi => he i (by omega) (by omega)), hu]
      omega
theorem nsm_le {f : Nat → Nat} {b : Nat} : ∀ k, (∀ i, i < k → f i ≤ b) → nsm f k ≤ b * k
  | 0, _ => Nat.zero_le _
  | k + 1, h => by
    have h1 := nsm_le k (fun i hi => h i (by omega))
    have h2 := h k (by omega)
    rw [nsm_s, Nat.mul_succ]
    omega
theorem cp_orl (f : Nat → Int32) (x y : Int32) {k : Nat} (hx : bt x k = false) (hk : k < 32) : ∀ m, m ≤ 32 → cp f (x ||| sh (nI 1) (nI k)) y m = cp f x y m + (if k < m then pc (f k &&& y) else 0)
  | 0, _ => by rw [if_neg (by omega)]; rfl
  | m + 1, hm => by
    have ih := cp_orl f x y hx hk m (by omega)
    show cp f (x ||| sh (nI 1) (nI k)) y m + (if bt (x ||| sh (nI 1) (nI k)) m = true then pc (f m &&& y) else 0) = cp f x y m + (if bt x m = true then pc (f m &&& y) else 0) + _
    rw [ih, b_or, b_sh hk m (by omega)]
    by_cases c : m = k
    · subst c
      rw [hx, decide_eq_true rfl, if_neg (by omega), if_pos (show m < m + 1 by omega), if_pos (show (false || true) = true from rfl), if_neg (by decide)]
    · rw [decide_eq_false c, Bool.or_false]
      by_cases c2 : k < m
      · rw [if_pos c2, if_pos (show k < m + 1 by omega)]; omega
      · rw [if_neg c2, if_neg (show ¬ k < m + 1 by omega)]; omega
theorem pc_orr (z y : Int32) {k : Nat} (hy : bt y k = false) (hk : k < 10) : pc (z &&& (y ||| sh (nI 1) (nI k))) = pc (z &&& y) + (if bt z k = true then 1 else 0) := by
  by_cases c : bt z k = true
  · rw [if_pos c]
    have e : z &&& (y ||| sh (nI 1) (nI k)) = (z &&& y) ||| sh (nI 1) (nI k) := by
      refine b_ext (fun i hi => ?_)
      rw [b_and, b_or, b_or, b_and, b_sh (by omega) i hi]
      by_cases c2 : i = k
      · subst c2
        rw [c, decide_eq_true rfl, Bool.or_true, Bool.or_true]; rfl
      · rw [decide_eq_false c2, Bool.or_false, Bool.or_false]
    rw [e]
    unfold pc
    rw [cT_bit (by rw [b_and, hy, Bool.and_false]) (by omega) 10 (by omega), if_pos hk]
  · rw [if_neg c, Nat.add_zero]
    have e : z &&& (y ||| sh (nI 1) (nI k)) = z &&& y := by
      refine b_ext (fun i hi => ?_)
      rw [b_and, b_or, b_and, b_sh (by omega) i hi]
      by_cases c2 : i = k
      · subst c2
        rw [eq_false_of_ne_true c]; rfl
      · rw [decide_eq_false c2, Bool.or_false]
    rw [e]
theorem cp_orr (f : Nat → Int32) (x y : Int32) {k : Nat} (hy : bt y k = false) (hk : k < 10) : ∀ m, cp f x (y ||| sh (nI 1) (nI k)) m = cp f x y m + cT (fun a => bt (f a) k && bt x a) m
  | 0 => rfl
  | m + 1 => by
    have ih := cp_orr f x y hy hk m
    show cp f x (y ||| sh (nI 1) (nI k)) m + (if bt x m = true then pc (f m &&& (y ||| sh (nI 1) (nI k))) else 0) = cp f x y m + (if bt x m = true then pc (f m &&& y) else 0) + _
    rw [ih, cT_s, pc_orr _ y hy hk]
    cases bt x m <;> cases bt (f m) k <;> simp only [Bool.and_true, Bool.and_false, if_true, if_false, Bool.false_eq_true, Bool.true_and, Bool.false_and] <;> omega
theorem cT_sym {n : Inn} (hw : wI n) {k : Nat} (hk : k < 8) (x : Int32) : cT (fun a => bt (nQ n a) k && bt x a) 8 = pc (nQ n k &&& x) := by
  have h1 : pc (nQ n k &&& x) = cT (bt (nQ n k &&& x)) 8 := by
    unfold pc
    refine cT_ext (bt (nQ n k &&& x)) (m := 8) 2 (fun i hi => ?_)
    have h8 : bt (nQ n k) i = false := (hw.2.2.2.2 k hk).1 i (by have := hw.2.2.1; omega)
    rw [b_and, h8, Bool.false_and]
  rw [h1]
  refine cT_cg 8 (fun a ha => ?_)
  rw [b_and, ((hw.2.2.2.2 k hk).2.2.2.2 a ha).1]
def pr (n : Inn) (t : Nat) : Nat := (nP n t).toNatClampNeg
theorem pr_n {n : Inn} (hw : wI n) {t : Nat} (ht : t < nT n) : nP n t = nI (pr n t) ∧ pr n t ≤ 9 := by
  obtain ⟨-, -, -, -, p, hp, e⟩ := hw.2.2.2.1 t ht
  have e1 : pr n t = p := by unfold pr; rw [e, nI_clamp (by omega)]
  rw [e1]
  exact ⟨e, hp⟩
def stH (n : Inn) (s : St) (p : Nat → Nat) (g : Nat) : Nat := pc (nQ n g &&& bG (sB s (p g))) + pc (nQ n g &&& dS p (p g) g)
def stP (n : Inn) (s : St) (p : Nat → Nat) (g : Nat) : Nat := (1 + (if dS p (p g) g = nI 0 then pc (bG (sB s (p g))) else 0)) * pr n (p g)
def roH (n : Inn) (s : St) (p : Nat → Nat) (k t : Nat) : Nat := cp (nQ n) (dS p t k) (bG (sB s t)) 8 + cp (nQ n) (dS p t k) (dS p t k) 8 / 2
def roP (n : Inn) (s : St) (p : Nat → Nat) (k t : Nat) : Nat := if dS p t k = nI 0 then 0 else pr n t * (pc (dS p t k) + pc (bG (sB s t)))
theorem ro_0 (n : Inn) (s : St) (p : Nat → Nat) : ∀ T, nsm (roH n s p 0) T = 0 ∧ nsm (roP n s p 0) T = 0
  | 0 => ⟨rfl, rfl⟩
  | T + 1 => by
    obtain ⟨h1, h2⟩ := ro_0 n s p T
    have hz : ∀ y, cp (nQ n) (nI 0) y 8 = 0 := fun y => (cp_z _ _ _ 8).mpr (fun g _ hb => absurd ((b_0 g).symm.trans hb) (by decide))
    have e1 : roH n s p 0 T = 0 := by
      show cp (nQ n) (nI 0) _ 8 + cp (nQ n) (nI 0) _ 8 / 2 = 0
      rw [hz, hz]
    have e2 : roP n s p 0 T = 0 := if_pos rfl
    exact ⟨by rw [nsm_s, h1, e1], by rw [nsm_s, h2, e2]⟩
theorem harm_eq {n : Inn} (hw : wI n) (s : St) {p : Nat → Nat} : ∀ k, k ≤ 8 → (∀ g, g < k → p g < nT n) → nsm (roH n s p k) (nT n) = nsm (stH n s p) k
  | 0, _, _ => (ro_0 n s p (nT n)).1
  | k + 1, hk, hp => by
    have ih := harm_eq hw s k (by omega) (fun g hg => hp g (by omega))
    rw [nsm_s, ← ih]
    have hX : bt (dS p (p k) k) k = false := by rw [dS_b p _ k (by omega), decide_eq_false (by omega)]
    refine nsm_up (u := p k) ?_ (nT n) (hp k (by omega)) (fun t ht hn => ?_)
    · unfold roH stH
      rw [dS_s, if_pos rfl, cp_orl _ _ _ hX (by omega) 8 (by omega), if_pos (show k < 8 by omega), cp_orl _ _ _ hX (by omega) 8 (by omega), if_pos (show k < 8 by omega), cp_orr _ _ _ hX (by omega) 8, cT_sym hw (by omega), pc_orr _ _ hX (by omega), (hw.2.2.2.2 k (by omega)).2.2.1, if_neg (by decide)]
      omega
    · unfold roH
      rw [dS_s, if_neg (fun e => hn e.symm)]
theorem pay_eq {n : Inn} (hw : wI n) (s : St) {p : Nat → Nat} : ∀ k, k ≤ 8 → (∀ g, g < k → p g < nT n) → nsm (roP n s p k) (nT n) = nsm (stP n s p) k
  | 0, _, _ => (ro_0 n s p (nT n)).2
  | k + 1, hk, hp => by
    have ih := pay_eq hw s k (by omega) (fun g hg => hp g (by omega))
    rw [nsm_s, ← ih]
    refine nsm_up (u := p k) ?_ (nT n) (hp k (by omega)) (fun t ht hn => ?_)
    · have hpc := dS_pc p (p k) (k := k) (by omega)
      rw [if_pos rfl] at hpc
      have hne : ¬ dS p (p k) (k + 1) = nI 0 := fun e => by
        rw [e, show pc (nI 0) = 0 from cT_f _ 10 (fun i _ => b_0 i)] at hpc
        omega
      unfold roP stP
      rw [if_neg hne, hpc]
      by_cases c : dS p (p k) k = nI 0
      · rw [if_pos c, if_pos c, c, show pc (nI 0) = 0 from cT_f _ 10 (fun i _ => b_0 i), Nat.zero_add, Nat.zero_add, Nat.mul_comm]
      · rw [if_neg c, if_neg c, show pc (dS p (p k) k) + 1 + pc (bG (sB s (p k))) = pc (dS p (p k) k) + pc (bG (sB s (p k))) + 1 by omega, Nat.mul_add, Nat.mul_one, Nat.add_zero, Nat.one_mul]
    · unfold roP
      rw [dS_s, if_neg (show ¬ p k = t from fun e => hn e.symm)]
theorem stH_le (n : Inn) (s : St) (p : Nat → Nat) (g : Nat) : stH n s p g ≤ 20 := by
  unfold stH
  have h1 := pc_le (nQ n g &&& bG (sB s (p g)))
  have h2 := pc_le (nQ n g &&& dS p (p g) g)
  omega
theorem stP_le {n : Inn} (hw : wI n) (s : St) {p : Nat → Nat} {g : Nat} (hp : p g < nT n) : stP n s p g ≤ 99 := by
  unfold stP
  have h1 := pc_le (bG (sB s (p g)))
  have h2 := (pr_n hw hp).2
  have h3 : (1 + (if dS p (p g) g = nI 0 then pc (bG (sB s (p g))) else 0)) ≤ 11 := by
    by_cases c : dS p (p g) g = nI 0
    · rw [if_pos c]; omega
    · rw [if_neg c]; omega
  exact Nat.le_trans (Nat.mul_le_mul h3 h2) (by omega)
theorem st_cg {n : Inn} (s : St) (f : Nat → Pst) (m : Nat) {p q : Nat → Nat} {g : Nat} (h : ∀ i, i ≤ g → p i = q i) : stO n s f m p g = stO n s f m q g ∧ stH n s p g = stH n s q g ∧ stP n s p g = stP n s q g := by
  have e1 := h g (by omega)
  have e2 : dS p (p g) g = dS q (q g) g := by rw [e1]; exact dS_cg _ g (fun i hi => h i (by omega))
  refine ⟨?_, ?_, ?_⟩
  · unfold stO
    rw [e2, e1]
  · unfold stH
    rw [e2, e1]
  · unfold stP
    rw [e2, e1]
/-- the seatings by row: how many can be, the best of them, its harm and pay -/
def sS (fi : Nat → Bool) (hm pd : Nat → Nat) : Nat → Nat × Nat × Nat × Nat
  | 0 => (0, 0, 0, 0)
  | r + 1 => if fi r = true then (if (sS fi hm pd r).1 = 0 ∨ hm r < (sS fi hm pd r).2.2.1 ∨ (hm r = (sS fi hm pd r).2.2.1 ∧ pd r < (sS fi hm pd r).2.2.2) then ((sS fi hm pd r).1 + 1, r, hm r, pd r) else ((sS fi hm pd r).1 + 1, (sS fi hm pd r).2)) else sS fi hm pd r
theorem sS_s (fi : Nat → Bool) (hm pd : Nat → Nat) (r : Nat) : sS fi hm pd (r + 1) = if fi r = true then (if (sS fi hm pd r).1 = 0 ∨ hm r < (sS fi hm pd r).2.2.1 ∨ (hm r = (sS fi hm pd r).2.2.1 ∧ pd r < (sS fi hm pd r).2.2.2) then ((sS fi hm pd r).1 + 1, r, hm r, pd r) else ((sS fi hm pd r).1 + 1, (sS fi hm pd r).2)) else sS fi hm pd r := rfl
theorem sS_skip {fi : Nat → Bool} {hm pd : Nat → Nat} {r : Nat} : ∀ e, (∀ i, r ≤ i → i < r + e → fi i = false) → sS fi hm pd (r + e) = sS fi hm pd r
  | 0, _ => rfl
  | e + 1, h => by
    rw [show r + (e + 1) = r + e + 1 by omega, sS_s, h (r + e) (by omega) (by omega), if_neg (by decide)]
    exact sS_skip e (fun i h1 h2 => h i h1 (by omega))
theorem sS_in {fi : Nat → Bool} {hm pd : Nat → Nat} {b c : Nat} (hb : ∀ r, hm r ≤ b) : ∀ r, (∀ i, i < r → pd i ≤ c) → (sS fi hm pd r).1 ≤ r ∧ (sS fi hm pd r).2.1 ≤ r ∧ (0 < (sS fi hm pd r).1 → (sS fi hm pd r).2.1 < r) ∧ (sS fi hm pd r).2.2.1 ≤ b ∧ (sS fi hm pd r).2.2.2 ≤ c
  | 0, _ => ⟨Nat.le_refl _, Nat.le_refl _, fun h => absurd h (Nat.lt_irrefl 0), Nat.zero_le _, Nat.zero_le _⟩
  | r + 1, hc => by
    obtain ⟨h1, h2, h3, h4, h5⟩ := sS_in (fi := fi) hb r (fun i hi => hc i (by omega))
    have hc' := hc r (by omega)
    rw [sS_s]
    by_cases c1 : fi r = true
    · rw [if_pos c1]
      by_cases c2 : (sS fi hm pd r).1 = 0 ∨ hm r < (sS fi hm pd r).2.2.1 ∨ (hm r = (sS fi hm pd r).2.2.1 ∧ pd r < (sS fi hm pd r).2.2.2)
      · rw [if_pos c2]
        exact ⟨by dsimp only; omega, by dsimp only; omega, fun _ => by dsimp only; omega, hb r, hc'⟩
      · rw [if_neg c2]
        refine ⟨by dsimp only; omega, by dsimp only; omega, fun _ => ?_, h4, h5⟩
        dsimp only
        have : 0 < (sS fi hm pd r).1 := by omega
        have := h3 this
        omega
    · rw [if_neg c1]
      exact ⟨by omega, by omega, fun h => by have := h3 h; omega, h4, h5⟩
def sFi (n : Inn) (s : St) (f : Nat → Pst) (m r : Nat) : Bool := alB (hrW n f) m && alB (stO n s f m (spd (nT n) (nG n) r)) (nG n)
def sHm (n : Inn) (s : St) (r : Nat) : Nat := nsm (stH n s (spd (nT n) (nG n) r)) (nG n)
def sPd (n : Inn) (s : St) (r : Nat) : Nat := nsm (stP n s (spd (nT n) (nG n) r)) (nG n)
def seS (n : Inn) (s : St) (f : Nat → Pst) (m : Nat) : Nat → Nat × Nat × Nat × Nat := sS (sFi n s f m) (sHm n s) (sPd n s)
theorem spd_lt {T : Nat} (hT : 1 ≤ T) (N r i : Nat) : spd T N r i < T := Nat.mod_lt _ (by omega)
theorem sHm_le (n : Inn) (s : St) (hG : nG n ≤ 6) (r : Nat) : sHm n s r ≤ 120 := by
  have h1 : sHm n s r ≤ 20 * nG n := nsm_le (nG n) (fun i _ => stH_le n s _ i)
  omega
theorem sPd_le {n : Inn} (hw : wI n) (s : St) (hG : nG n ≤ 6) (h1 : 1 ≤ nT n) (r : Nat) : sPd n s r ≤ 594 := by
  have h1 : sPd n s r ≤ 99 * nG n := nsm_le (nG n) (fun i _ => stP_le hw s (spd_lt h1 _ _ _))
  omega
theorem pw6 {T G : Nat} (hT : T ≤ 5) (hG : G ≤ 6) : T ^ G ≤ 15625 := by
  have a : T ^ G ≤ 5 ^ G := Nat.pow_le_pow_left hT G
  have b : 5 ^ G ≤ 5 ^ 6 := Nat.pow_le_pow_right (by omega) hG
  have c : (5 : Nat) ^ 6 = 15625 := by decide
  omega
