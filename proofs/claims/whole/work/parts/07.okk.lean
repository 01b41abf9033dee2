/-! ===== partial functions, loops; the rules as they are used ===== -/
def Okk {α : Type} (o : Option α) (Q : α → Prop) : Prop := ∃ x, o = some x ∧ Q x
theorem ok_some {α : Type} {x : α} {Q : α → Prop} (h : Okk (some x) Q) : Q x := by
  obtain ⟨y, h1, h2⟩ := h
  cases h1
  exact h2
theorem ok_if {α : Type} {c : Prop} {i : Decidable c} {a : Option α} {Q : α → Prop} (h : Okk (@ite _ c i a none) Q) : c ∧ Okk a Q := by
  by_cases hc : c
  · rw [if_pos hc] at h
    exact ⟨hc, h⟩
  · rw [if_neg hc] at h
    obtain ⟨y, h1, -⟩ := h
    cases h1
theorem ok_pos {α : Type} {c : Prop} {i : Decidable c} {a b : Option α} {Q : α → Prop} (hc : c) (h : Okk (@ite _ c i a b) Q) : Okk a Q := by rwa [if_pos hc] at h
theorem ok_neg {α : Type} {c : Prop} {i : Decidable c} {a b : Option α} {Q : α → Prop} (hc : ¬ c) (h : Okk (@ite _ c i a b) Q) : Okk b Q := by rwa [if_neg hc] at h
def bnd {α β : Type} (x : α) (f : α → β) : β := f x
theorem bnd_eq {α β : Type} (x : α) (f : α → β) : bnd x f = f x := rfl
theorem ok_bnd {α β : Type} {x : α} {f : α → Option β} {Q : β → Prop} (h : Okk (bnd x f) Q) : Okk (f x) Q := h
theorem ok_bind {α β : Type} {o : Option α} {f : α → Option β} {Q : β → Prop} (h : Okk (o.bind f) Q) : Okk o (fun x => Okk (f x) Q) := by
  obtain ⟨y, h1, h2⟩ := h
  cases o with
  | none => cases h1
  | some x => exact ⟨x, rfl, y, h1, h2⟩
theorem ok_inr {S R : Type} {o : Option R} {H : S → Prop} {Q : R → Prop} (h : Okk (o.map Sum.inr) (Sum.elim H Q)) : Okk o Q := by
  obtain ⟨y, h1, h2⟩ := h
  cases o with
  | none => cases h1
  | some x =>
    cases h1
    exact ⟨x, rfl, h2⟩
def lpn {S R : Type} (f : S → Option (S ⊕ R)) : Nat → S → Option R
  | 0, _ => none
  | n + 1, s => (f s).bind (Sum.elim (lpn f n) some)
theorem lpn_mono {S R : Type} (f : S → Option (S ⊕ R)) : ∀ (n k : Nat) (s : S) (r : R), lpn f n s = some r → lpn f (n + k) s = some r
  | 0, k, s, r, h => by cases h
  | n + 1, k, s, r, h => by
    rw [show n + 1 + k = n + k + 1 by omega]
    unfold lpn at h ⊢
    cases hf : f s with
    | none => rw [hf] at h; cases h
    | some x =>
      rw [hf] at h
      cases x with
      | inl s' => exact lpn_mono f n k s' r h
      | inr r' => exact h

noncomputable def lp {S R : Type} (f : S → Option (S ⊕ R)) (s : S) : Option R := @dite _ (∃ r n, lpn f n s = some r) (Classical.propDecidable _) (fun h => some h.choose) (fun _ => none)
theorem lp_iff {S R : Type} {f : S → Option (S ⊕ R)} {s : S} {r : R} : lp f s = some r ↔ ∃ n, lpn f n s = some r := by
  unfold lp
  by_cases h : ∃ r n, lpn f n s = some r
  · rw [dif_pos h]
    obtain ⟨n, hn⟩ := h.choose_spec
    constructor
    · intro e
      cases e
      exact ⟨n, hn⟩
    · rintro ⟨k, hk⟩
      have h1 := lpn_mono f n k s _ hn
      have h2 := lpn_mono f k n s _ hk
      rw [show k + n = n + k by omega] at h2
      rw [h1] at h2
      exact h2
  · rw [dif_neg h]
    constructor
    · intro e
      cases e
    · rintro ⟨n, hn⟩
      exact absurd ⟨r, n, hn⟩ h
theorem lp_eq {S R : Type} (f : S → Option (S ⊕ R)) (s : S) : lp f s = (f s).bind (Sum.elim (lp f) some) := by
  apply Option.ext
  intro r
  rw [lp_iff]
  cases hf : f s with
  | none =>
    constructor
    · rintro ⟨n, hn⟩
      cases n with
      | zero => cases hn
      | succ n =>
        unfold lpn at hn
        rw [hf] at hn
        cases hn
    · intro e
      cases e
  | some x =>
    cases x with
    | inl s' =>
      show (∃ n, lpn f n s = some r) ↔ lp f s' = some r
      rw [lp_iff]
      constructor
      · rintro ⟨n, hn⟩
        cases n with
        | zero => cases hn
        | succ n =>
          unfold lpn at hn
          rw [hf] at hn
          exact ⟨n, hn⟩
      · rintro ⟨n, hn⟩
        refine ⟨n + 1, ?_⟩
        unfold lpn
        rw [hf]
        exact hn
    | inr r' =>
      show (∃ n, lpn f n s = some r) ↔ some r' = some r
      constructor
      · rintro ⟨n, hn⟩
        cases n with
        | zero => cases hn
        | succ n =>
          unfold lpn at hn
          rw [hf] at hn
          exact hn
      · intro e
        refine ⟨1, ?_⟩
        unfold lpn
        rw [hf]
        exact e
theorem lp_wp {S R : Type} {f : S → Option (S ⊕ R)} {H : S → Prop} {Q : R → Prop} (hs : ∀ s, Okk (f s) (Sum.elim H Q) → H s) (s : S) (hO : Okk (lp f s) Q) : H s := by
  obtain ⟨r, h1, h2⟩ := hO
  obtain ⟨n, hn⟩ := lp_iff.mp h1
  clear h1
  induction n generalizing s with
  | zero => cases hn
  | succ n ih =>
    unfold lpn at hn
    apply hs
    cases hf : f s with
    | none => rw [hf] at hn; cases hn
    | some x =>
      rw [hf] at hn
      cases x with
      | inl s' => exact ⟨_, rfl, ih s' hn⟩
      | inr r' =>
        cases hn
        exact ⟨_, rfl, h2⟩
section USE
variable {E : En} {d on : Nat} {z : Mt} {Post : Option Value → Hp → Prop} {G : GT}
theorem rb (hG : Rl E d on z Post G) (f pc pc' : Nat) (ops : List Instr) (cs : List Int32) (qs : List Int64) {lv : Lv} {st : List Value} {h : Hp} (lv1 : Lv) (st1 : List Value) (h1 : Hp) (L : List Prop) (hb : blk on z.2.2.1 z.2.1 cs qs f pc ops pc' = true) (he : exl (eS E) cs qs ops lv st h = some ((lv1, st1, h1), L)) (hL : Al L) (K : G pc' lv1 st1 h1) : G pc lv st h := hG.1.1 f pc ops pc' cs qs lv st h (lv1, st1, h1) L hb he hL K
theorem rbx {α β : Type} {Q : β → Prop} {F : α → Option β} (hG : Rl E d on z Post G) (f pc pc' : Nat) (ops : List Instr) (cs : List Int32) (qs : List Int64) {lv : Lv} {st : List Value} {h : Hp} (e : α) (lv1 : α → Lv) (st1 : α → List Value) (h1 : α → Hp) (L : List Prop) (hb : blk on z.2.2.1 z.2.1 cs qs f pc ops pc' = true) (he : exl (eS E) cs qs ops lv st h = some ((lv1 e, st1 e, h1 e), L)) (hL : Al L) (hO : Okk (bnd e F) Q) (K : ∀ x, Okk (F x) Q → G pc' (lv1 x) (st1 x) (h1 x)) : G pc lv st h := hG.1.1 f pc ops pc' cs qs lv st h (lv1 e, st1 e, h1 e) L hb he hL (K e hO)
theorem rs (hG : Rl E d on z Post G) {pc : Nat} {lv : Lv} {st : List Value} {h : Hp} (lv' : Lv) (ps : List Nat) (hp : ps.map (fun i => lv[i]?) = lv'.map some) (K : G pc lv' st h) : G pc lv st h := hG.1.2.1 pc lv lv' st h (fun q hq => by
  have h1 : some q ∈ lv'.map some := List.mem_map.mpr ⟨q, hq, rfl⟩
  rw [← hp] at h1
  obtain ⟨i, -, hi⟩ := List.mem_map.mp h1
  exact List.mem_of_getElem? hi) K
theorem ri (hG : Rl E d on z Post G) (c : ClassFile.Cond) (off : Int) (tgt pc : Nat) {lv : Lv} {x : Int32} {st : List Value} {h : Hp} (hd : decode z.2.1 pc = .ok (.ifCond c off, 3)) (ht : (pc : Int) + off = (tgt : Int)) (K1 : cnd c x 0 → G tgt lv st h) (K2 : ¬ cnd c x 0 → G (pc + 3) lv st h) : G pc lv (.int x :: st) h := hG.1.2.2.1 c off tgt pc lv x st h hd ht K1 K2
theorem rj (hG : Rl E d on z Post G) (c : ClassFile.Cond) (off : Int) (tgt pc : Nat) {lv : Lv} {x y : Int32} {st : List Value} {h : Hp} (hd : decode z.2.1 pc = .ok (.if_icmp c off, 3)) (ht : (pc : Int) + off = (tgt : Int)) (K1 : cnd c x y → G tgt lv st h) (K2 : ¬ cnd c x y → G (pc + 3) lv st h) : G pc lv (.int y :: .int x :: st) h := hG.1.2.2.2.1 c off tgt pc lv x y st h hd ht K1 K2
/-- 'ne' the other way round -/
theorem riN (hG : Rl E d on z Post G) (off : Int) (tgt pc : Nat) {lv : Lv} {x : Int32} {st : List Value} {h : Hp} (hd : decode z.2.1 pc = .ok (.ifCond .ne off, 3)) (ht : (pc : Int) + off = (tgt : Int)) (K1 : x = 0 → G (pc + 3) lv st h) (K2 : ¬ x = 0 → G tgt lv st h) : G pc lv (.int x :: st) h := hG.1.2.2.1 .ne off tgt pc lv x st h hd ht K2 (fun q => K1 (Decidable.byContradiction q))
theorem rjN (hG : Rl E d on z Post G) (off : Int) (tgt pc : Nat) {lv : Lv} {x y : Int32} {st : List Value} {h : Hp} (hd : decode z.2.1 pc = .ok (.if_icmp .ne off, 3)) (ht : (pc : Int) + off = (tgt : Int)) (K1 : x = y → G (pc + 3) lv st h) (K2 : ¬ x = y → G tgt lv st h) : G pc lv (.int y :: .int x :: st) h := hG.1.2.2.2.1 .ne off tgt pc lv x y st h hd ht K2 (fun q => K1 (Decidable.byContradiction q))
theorem rn (hG : Rl E d on z Post G) (off : Int) (tgt pc : Nat) {lv : Lv} {k : Nat} {st : List Value} {h : Hp} (hd : decode z.2.1 pc = .ok (.ifnull off, 3)) (ht : (pc : Int) + off = (tgt : Int)) (K1 : k = 0 → G tgt lv st h) (K2 : ¬ k = 0 → G (pc + 3) lv st h) : G pc lv (.ref k :: st) h := hG.1.2.2.2.2.1.1 off tgt pc lv k st h hd ht K1 K2
theorem rnn (hG : Rl E d on z Post G) (off : Int) (tgt pc : Nat) {lv : Lv} {k : Nat} {st : List Value} {h : Hp} (hd : decode z.2.1 pc = .ok (.ifnonnull off, 3)) (ht : (pc : Int) + off = (tgt : Int)) (K1 : k = 0 → G (pc + 3) lv st h) (K2 : ¬ k = 0 → G tgt lv st h) : G pc lv (.ref k :: st) h := hG.1.2.2.2.2.1.2 off tgt pc lv k st h hd ht K2 K1
theorem rw9 (hG : Rl E d on z Post G) (dflt lo hi : Int) (offs : Array Int) (len pc : Nat) (ts : List Nat) (dd : Nat) {lv : Lv} {x : Int32} {st : List Value} {h : Hp} (hd : decode z.2.1 pc = .ok (.tableswitch dflt lo hi offs, len)) (hw : swok pc dflt lo hi offs ts dd = true) (K : G (swf lo ts dd x) lv st h) : G pc lv (.int x :: st) h := hG.1.2.2.2.2.2.1 dflt lo hi offs len pc ts dd lv x st h hd hw K
theorem rlk9 (hG : Rl E d on z Post G) (dflt : Int) (ps : Array (Int × Int)) (len pc : Nat) (ts : List (Int × Nat)) (dd : Nat) {lv : Lv} {x : Int32} {st : List Value} {h : Hp} (hd : decode z.2.1 pc = .ok (.lookupswitch dflt ps, len)) (hw : lkok pc dflt ps ts dd = true) (K : G (lkf ts dd x) lv st h) : G pc lv (.int x :: st) h := hG.1.2.2.2.2.2.2 dflt ps len pc ts dd lv x st h hd hw K
theorem sw_c {k : Int} {t : Nat} {r : List Nat} {dd : Nat} {x : Int32} {lv : Lv} {st : List Value} {h : Hp} (kk : Int32) (hk : Int32.ofInt k = kk) (K1 : x = kk → G t lv st h) (K2 : ¬ x = kk → G (swf (k + 1) r dd x) lv st h) : G (swf k (t :: r) dd x) lv st h := by
  subst hk
  unfold swf
  by_cases hx : x = Int32.ofInt k
  · rw [if_pos hx]; exact K1 hx
  · rw [if_neg hx]; exact K2 hx
theorem lk_c {k : Int} {t : Nat} {r : List (Int × Nat)} {dd : Nat} {x : Int32} {lv : Lv} {st : List Value} {h : Hp} (kk : Int32) (hk : Int32.ofInt k = kk) (K1 : x = kk → G t lv st h) (K2 : ¬ x = kk → G (lkf r dd x) lv st h) : G (lkf ((k, t) :: r) dd x) lv st h := by
  subst hk
  unfold lkf
  by_cases hx : x = Int32.ofInt k
  · rw [if_pos hx]; exact K1 hx
  · rw [if_neg hx]; exact K2 hx
theorem rv (hG : Rl E d on z Post G) (y : Mt) (idx n pc k : Nat) (as rest : List Value) {lv : Lv} {st : List Value} {h : Hp} {P : Option Value → Hp → Prop} (hd : decode z.2.1 pc = .ok (.invokevirtual idx, 3)) (hM : MkV y n) (hL : Lk on idx y.1) (hk : Rcv k y.1.cls) (hst : st = as.reverse ++ .ref k :: rest) (hn : as.length = n ∧ sm rest ≤ 8) (hC : Cn E d y (.ref k :: as) h P) (K : ∀ r h', P r h' → G (pc + 3) lv (rtl r rest) h') : G pc lv st h := by
  subst hst
  exact hG.2.1.1 y idx n pc k lv as rest h P hd hM hL hk hn.1 hn.2 hC K
theorem rt (hG : Rl E d on z Post G) (y : Mt) (idx n pc : Nat) (as rest : List Value) {lv : Lv} {st : List Value} {h : Hp} {P : Option Value → Hp → Prop} (hd : decode z.2.1 pc = .ok (.invokestatic idx, 3)) (hM : MkS y n) (hL : Lk on idx y.1) (hst : st = as.reverse ++ rest) (hn : as.length = n ∧ sm rest ≤ 8) (hC : Cn E d y as h P) (K : ∀ r h', P r h' → G (pc + 3) lv (rtl r rest) h') : G pc lv st h := by
  subst hst
  exact hG.2.1.2 y idx n pc lv as rest h P hd hM hL hn.1 hn.2 hC K
/-- what comes back: void, int, ref; with the heap as it was, or another -/
def RV (P : Hp → Prop) : Option Value → Hp → Prop := fun r h => r = none ∧ P h
def RVp (h0 : Hp) (P : Unit → Prop) : Option Value → Hp → Prop := fun r h => r = none ∧ h0 = h ∧ P ()
def RI (P : Int32 × Hp → Prop) : Option Value → Hp → Prop := fun r h => ∃ v, r = some (.int v) ∧ P (v, h)
def RIp (h0 : Hp) (P : Int32 → Prop) : Option Value → Hp → Prop := fun r h => ∃ v, r = some (.int v) ∧ h0 = h ∧ P v
def RR (P : Nat × Hp → Prop) : Option Value → Hp → Prop := fun r h => ∃ v, r = some (.ref v) ∧ P (v, h)
def RRp (h0 : Hp) (P : Nat → Prop) : Option Value → Hp → Prop := fun r h => ∃ v, r = some (.ref v) ∧ h0 = h ∧ P v
theorem eV (hG : Rl E d on z Post G) (pc : Nat) {lv : Lv} {h : Hp} (hd : decode z.2.1 pc = .ok (.return_, 1)) (hz : z.2.2.2 = none) (hp : Post none h) : G pc lv [] h := hG.2.2.1 pc lv h hd hz hp
theorem eI (hG : Rl E d on z Post G) (pc : Nat) {lv : Lv} {v : Int32} {h : Hp} (hd : decode z.2.1 pc = .ok (.ireturn, 1)) (hz : z.2.2.2 = some .int) (hp : Post (some (.int v)) h) : G pc lv [.int v] h := hG.2.2.2.1 pc lv v h hd hz hp
theorem eZ (hG : Rl E d on z Post G) (pc : Nat) {lv : Lv} {v : Int32} {h : Hp} (hd : decode z.2.1 pc = .ok (.ireturn, 1)) (hz : z.2.2.2 = some .boolean) (hv : v = 0 ∨ v = 1) (hp : Post (some (.int v)) h) : G pc lv [.int v] h := hG.2.2.2.2.1 pc lv v h hd hz hv hp
theorem eR (hG : Rl E d on z Post G) (pc : Nat) {lv : Lv} {k : Nat} {n : String} {h : Hp} (hd : decode z.2.1 pc = .ok (.areturn, 1)) (hz : z.2.2.2 = some (.object n)) (hp : Post (some (.ref k)) h) : G pc lv [.ref k] h := hG.2.2.2.2.2 pc lv k n h hd hz hp
end USE
