theorem xlt_b : XLT.all (fun r => decide (r.2.2 = 1) || decide (r.2.2 = 2) || decide (r.2.2 = 3)) = true := by decide +kernel
theorem xlt_q {a b q : Nat} (h : (a, b, q) ∈ XLT) : q = 1 ∨ q = 2 ∨ q = 3 := by
  have := List.all_eq_true.mp xlt_b _ h
  simp only [Bool.or_eq_true, decide_eq_true_eq] at this
  omega
/-! ===== blocks ===== -/
section BLK
variable {p : Program} {l : Launch} {e : Env} {R : Room} {s : State} {m : MethodId} {args : Array Value} {below : List Frame} {meth : Method} {c : Code} {cells slots : Nat} {Q : State → Prop}
variable {cc : ByteArray} {nL on : Nat} {A : Nat → Prop} {D : va_G} {tys : List (ClassId × FieldType)} {cy : Nat → ClassId} {al : Nat → Nat} {sc : Sc}
set_option maxHeartbeats 4000000 in
theorem cv_sound {cs : List Int32} {qs : List Int64} {pc : Nat} {lv lv' : Lv} {st st' : List Value} {h h' : Hp} {P : Option Prop} {i op : Instr} {n : Nat} (C : Cx p R s m args c cc nL on cells slots A D tys cy al sc) (hd : decode cc pc = .ok (i, n)) (hc : cvi on nL cs qs i n op = true) (hex : ex1 sc cs qs op lv st h = some ((lv', st', h'), P)) (hP9 : ∀ x, P = some x → x) (K : GM p l e R s m args below meth c cells slots Q nL A D cy al (pc + n) lv' st' h') : GM p l e R s m args below meth c cells slots Q nL A D cy al pc lv st h := by
  cases i with
  | aconst_null =>
    simp only [cvi, Bool.and_eq_true, decide_eq_true_eq] at hc
    obtain ⟨rfl, rfl⟩ := hc
    exact so_null C hd hex hP9 K
  | iadd =>
    simp only [cvi, Bool.and_eq_true, decide_eq_true_eq] at hc
    obtain ⟨rfl, rfl⟩ := hc
    exact so_iadd C hd hex hP9 K
  | isub =>
    simp only [cvi, Bool.and_eq_true, decide_eq_true_eq] at hc
    obtain ⟨rfl, rfl⟩ := hc
    exact so_isub C hd hex hP9 K
  | imul =>
    simp only [cvi, Bool.and_eq_true, decide_eq_true_eq] at hc
    obtain ⟨rfl, rfl⟩ := hc
    exact so_imul C hd hex hP9 K
  | iand =>
    simp only [cvi, Bool.and_eq_true, decide_eq_true_eq] at hc
    obtain ⟨rfl, rfl⟩ := hc
    exact so_iand C hd hex hP9 K
  | ior =>
    simp only [cvi, Bool.and_eq_true, decide_eq_true_eq] at hc
    obtain ⟨rfl, rfl⟩ := hc
    exact so_ior C hd hex hP9 K
  | ixor =>
    simp only [cvi, Bool.and_eq_true, decide_eq_true_eq] at hc
    obtain ⟨rfl, rfl⟩ := hc
    exact so_ixor C hd hex hP9 K
  | ishl =>
    simp only [cvi, Bool.and_eq_true, decide_eq_true_eq] at hc
    obtain ⟨rfl, rfl⟩ := hc
    exact so_ishl C hd hex hP9 K
  | ishr =>
    simp only [cvi, Bool.and_eq_true, decide_eq_true_eq] at hc
    obtain ⟨rfl, rfl⟩ := hc
    exact so_ishr C hd hex hP9 K
  | iushr =>
    simp only [cvi, Bool.and_eq_true, decide_eq_true_eq] at hc
    obtain ⟨rfl, rfl⟩ := hc
    exact so_iushr C hd hex hP9 K
  | idiv =>
    simp only [cvi, Bool.and_eq_true, decide_eq_true_eq] at hc
    obtain ⟨rfl, rfl⟩ := hc
    exact so_idiv C hd hex hP9 K
  | irem =>
    simp only [cvi, Bool.and_eq_true, decide_eq_true_eq] at hc
    obtain ⟨rfl, rfl⟩ := hc
    exact so_irem C hd hex hP9 K
  | ineg =>
    simp only [cvi, Bool.and_eq_true, decide_eq_true_eq] at hc
    obtain ⟨rfl, rfl⟩ := hc
    exact so_ineg C hd hex hP9 K
  | i2l =>
    simp only [cvi, Bool.and_eq_true, decide_eq_true_eq] at hc
    obtain ⟨rfl, rfl⟩ := hc
    exact so_i2l C hd hex hP9 K
  | i2b =>
    simp only [cvi, Bool.and_eq_true, decide_eq_true_eq] at hc
    obtain ⟨rfl, rfl⟩ := hc
    exact so_i2b C hd hex hP9 K
  | lcmp =>
    simp only [cvi, Bool.and_eq_true, decide_eq_true_eq] at hc
    obtain ⟨rfl, rfl⟩ := hc
    exact so_lcmp C hd hex hP9 K
  | lor =>
    simp only [cvi, Bool.and_eq_true, decide_eq_true_eq] at hc
    obtain ⟨rfl, rfl⟩ := hc
    exact so_lor C hd hex hP9 K
  | lshl =>
    simp only [cvi, Bool.and_eq_true, decide_eq_true_eq] at hc
    obtain ⟨rfl, rfl⟩ := hc
    exact so_lshl C hd hex hP9 K
  | dup =>
    simp only [cvi, Bool.and_eq_true, decide_eq_true_eq] at hc
    obtain ⟨rfl, rfl⟩ := hc
    exact so_dup C hd hex hP9 K
  | dup2 =>
    simp only [cvi, Bool.and_eq_true, decide_eq_true_eq] at hc
    obtain ⟨rfl, rfl⟩ := hc
    exact so_dup2 C hd hex hP9 K
  | pop =>
    simp only [cvi, Bool.and_eq_true, decide_eq_true_eq] at hc
    obtain ⟨rfl, rfl⟩ := hc
    exact so_pop C hd hex hP9 K
  | baload =>
    simp only [cvi, Bool.and_eq_true, decide_eq_true_eq] at hc
    obtain ⟨rfl, rfl⟩ := hc
    exact so_bald C hd hex hP9 K
  | aaload =>
    simp only [cvi, Bool.and_eq_true, decide_eq_true_eq] at hc
    obtain ⟨rfl, rfl⟩ := hc
    exact so_aald C hd hex hP9 K
  | iastore =>
    simp only [cvi, Bool.and_eq_true, decide_eq_true_eq] at hc
    obtain ⟨rfl, rfl⟩ := hc
    exact so_iast C hd hex hP9 K
  | iload k =>
    simp only [cvi, Bool.and_eq_true, decide_eq_true_eq] at hc
    obtain ⟨rfl, rfl⟩ := hc
    exact so_iload C hd hex hP9 K
  | iload_n k =>
    simp only [cvi, Bool.and_eq_true, decide_eq_true_eq] at hc
    obtain ⟨rfl, rfl⟩ := hc
    exact so_iload_n C hd hex hP9 K
  | lload k =>
    simp only [cvi, Bool.and_eq_true, decide_eq_true_eq] at hc
    obtain ⟨rfl, rfl⟩ := hc
    exact so_lload C hd hex hP9 K
  | lload_n k =>
    simp only [cvi, Bool.and_eq_true, decide_eq_true_eq] at hc
    obtain ⟨rfl, rfl⟩ := hc
    exact so_lload_n C hd hex hP9 K
  | aload k =>
    simp only [cvi, Bool.and_eq_true, decide_eq_true_eq] at hc
    obtain ⟨rfl, rfl⟩ := hc
    exact so_aload C hd hex hP9 K
  | aload_n k =>
    simp only [cvi, Bool.and_eq_true, decide_eq_true_eq] at hc
    obtain ⟨rfl, rfl⟩ := hc
    exact so_aload_n C hd hex hP9 K
  | istore k =>
    simp only [cvi, Bool.and_eq_true, decide_eq_true_eq] at hc
    obtain ⟨⟨rfl, rfl⟩, hn⟩ := hc
    exact so_istore hn C hd hex hP9 K
  | istore_n k =>
    simp only [cvi, Bool.and_eq_true, decide_eq_true_eq] at hc
    obtain ⟨⟨rfl, rfl⟩, hn⟩ := hc
    exact so_istore_n hn C hd hex hP9 K
  | lstore k =>
    simp only [cvi, Bool.and_eq_true, decide_eq_true_eq] at hc
    obtain ⟨⟨rfl, rfl⟩, hn⟩ := hc
    exact so_lstore hn C hd hex hP9 K
  | lstore_n k =>
    simp only [cvi, Bool.and_eq_true, decide_eq_true_eq] at hc
    obtain ⟨⟨rfl, rfl⟩, hn⟩ := hc
    exact so_lstore_n hn C hd hex hP9 K
  | astore k =>
    simp only [cvi, Bool.and_eq_true, decide_eq_true_eq] at hc
    obtain ⟨⟨rfl, rfl⟩, hn⟩ := hc
    exact so_astore hn C hd hex hP9 K
  | astore_n k =>
    simp only [cvi, Bool.and_eq_true, decide_eq_true_eq] at hc
    obtain ⟨⟨rfl, rfl⟩, hn⟩ := hc
    exact so_astore_n hn C hd hex hP9 K
  | iconst v =>
    simp only [cvi] at hc
    split at hc
    · simp only [Bool.and_eq_true, decide_eq_true_eq] at hc
      obtain ⟨rfl, hk⟩ := hc
      exact so_iconst hk C hd hex hP9 K
    · cases hc
  | bipush v =>
    simp only [cvi] at hc
    split at hc
    · simp only [Bool.and_eq_true, decide_eq_true_eq] at hc
      obtain ⟨rfl, hk⟩ := hc
      exact so_bipush hk C hd hex hP9 K
    · cases hc
  | sipush v =>
    simp only [cvi] at hc
    split at hc
    · simp only [Bool.and_eq_true, decide_eq_true_eq] at hc
      obtain ⟨rfl, hk⟩ := hc
      exact so_sipush hk C hd hex hP9 K
    · cases hc
  | lconst v =>
    simp only [cvi] at hc
    split at hc
    · simp only [Bool.and_eq_true, decide_eq_true_eq] at hc
      obtain ⟨rfl, hk⟩ := hc
      exact so_lconst hk C hd hex hP9 K
    · cases hc
  | ldc x =>
    simp only [cvi] at hc
    split at hc
    · simp only [Bool.and_eq_true, decide_eq_true_eq, List.any_eq_true] at hc
      obtain ⟨rfl, ⟨r1, r2, r3⟩, hr, ⟨h1, h2⟩, h3⟩ := hc
      dsimp only at h1 h2 h3
      subst h1; subst h2
      exact so_ldc h3 hr C hd hex hP9 K
    · simp only [Bool.and_eq_true, decide_eq_true_eq, List.any_eq_true] at hc
      obtain ⟨rfl, ⟨r1, r2, r3⟩, hr, ⟨h1, h2⟩, h3⟩ := hc
      dsimp only at h1 h2 h3
      subst h1; subst h2; subst h3
      exact so_ldcS hr C hd hex hP9 K
    · cases hc
  | ldc_w x =>
    simp only [cvi] at hc
    split at hc
    · simp only [Bool.and_eq_true, decide_eq_true_eq, List.any_eq_true] at hc
      obtain ⟨rfl, ⟨r1, r2, r3⟩, hr, ⟨h1, h2⟩, h3⟩ := hc
      dsimp only at h1 h2 h3
      subst h1; subst h2
      exact so_ldcw h3 hr C hd hex hP9 K
    · cases hc
  | ldc2_w x =>
    simp only [cvi] at hc
    split at hc
    · simp only [Bool.and_eq_true, decide_eq_true_eq, List.any_eq_true] at hc
      obtain ⟨rfl, ⟨r1, r2, r3⟩, hr, ⟨h1, h2⟩, h3⟩ := hc
      dsimp only at h1 h2 h3
      subst h1; subst h2
      exact so_ldc2 h3 hr C hd hex hP9 K
    · cases hc
  | iinc k v =>
    simp only [cvi] at hc
    split at hc
    · simp only [Bool.and_eq_true, decide_eq_true_eq] at hc
      obtain ⟨⟨rfl, rfl⟩, hk⟩ := hc
      exact so_iinc hk C hd hex hP9 K
    · cases hc
  | getfield x =>
    simp only [cvi] at hc
    split at hc
    · simp only [Bool.and_eq_true, decide_eq_true_eq, List.any_eq_true] at hc
      obtain ⟨rfl, r, hr, ⟨⟨h1, h2⟩, h3⟩, h4⟩ := hc
      exact so_getI hr h1 h2 h3 h4 C hd hex hP9 K
    · simp only [Bool.and_eq_true, decide_eq_true_eq, List.any_eq_true] at hc
      obtain ⟨⟨rfl, r, hr, ⟨⟨h1, h2⟩, h3⟩, h4⟩, ⟨r8, r9⟩, hr2, h5, h6⟩ := hc
      dsimp only at h5 h6
      subst h5; subst h6
      exact so_getR hr h1 h2 h3 h4 hr2 C hd hex hP9 K
    · simp only [Bool.and_eq_true, decide_eq_true_eq, List.any_eq_true] at hc
      obtain ⟨rfl, r, hr, ⟨⟨h1, h2⟩, h3⟩, h4⟩ := hc
      exact so_getM hr h1 h2 h3 h4 C hd hex hP9 K
    · simp only [Bool.and_eq_true, decide_eq_true_eq, List.any_eq_true] at hc
      obtain ⟨rfl, r, hr, ⟨⟨h1, h2⟩, h3⟩, h4⟩ := hc
      exact so_getL hr h1 h2 h3 h4 C hd hex hP9 K
    · cases hc
  | putfield x =>
    simp only [cvi] at hc
    split at hc
    · simp only [Bool.and_eq_true, decide_eq_true_eq, List.any_eq_true] at hc
      obtain ⟨rfl, r, hr, ⟨⟨⟨⟨h1, h2⟩, h3⟩, h4⟩, h5⟩, h6⟩ := hc
      exact so_putI hr h1 h2 h3 h4 h5 h6 C hd hex hP9 K
    · simp only [Bool.and_eq_true, decide_eq_true_eq, List.any_eq_true] at hc
      obtain ⟨rfl, r, hr, ⟨⟨⟨⟨h1, h2⟩, h3⟩, h4⟩, h5⟩, h6⟩ := hc
      exact so_putZ hr h1 h2 h3 h4 h5 h6 C hd hex hP9 K
    · simp only [Bool.and_eq_true, decide_eq_true_eq, List.any_eq_true] at hc
      obtain ⟨rfl, r, hr, ⟨⟨⟨h1, h2⟩, h3⟩, h4⟩, h6⟩ := hc
      exact so_putM hr h1 h2 h3 h4 h6 C hd hex hP9 K
    · simp only [Bool.and_eq_true, decide_eq_true_eq, List.any_eq_true] at hc
      obtain ⟨rfl, r, hr, ⟨⟨⟨h1, h2⟩, h3⟩, h4⟩, h6⟩ := hc
      exact so_putL hr h1 h2 h3 h4 h6 C hd hex hP9 K
    · cases hc
  | iaload =>
    simp only [cvi, Bool.and_eq_true, Bool.or_eq_true, decide_eq_true_eq] at hc
    obtain ⟨rfl, rfl | rfl⟩ := hc
    · exact so_iald C hd hex hP9 K
    · exact so_sld C hd hex hP9 K
  | arraylength =>
    simp only [cvi, Bool.and_eq_true, Bool.or_eq_true, decide_eq_true_eq] at hc
    obtain ⟨rfl, rfl | rfl⟩ := hc
    · exact so_alen C hd hex hP9 K
    · exact so_slen C hd hex hP9 K
  | bastore =>
    simp only [cvi, Bool.and_eq_true, Bool.or_eq_true, decide_eq_true_eq] at hc
    obtain ⟨rfl, rfl | rfl⟩ := hc
    · exact so_bast C hd hex hP9 K
    · exact so_zast C hd hex hP9 K
  | invokestatic x =>
    simp only [cvi] at hc
    split at hc
    · rename_i q
      simp only [Bool.and_eq_true, decide_eq_true_eq, List.any_eq_true] at hc
      obtain ⟨rfl, ⟨r1, r2, r3⟩, hr, ⟨h1, h2⟩, h3⟩ := hc
      dsimp only at h1 h2 h3
      subst h1; subst h2; subst h3
      have hq : r3 = 1 ∨ r3 = 2 ∨ r3 = 3 := xlt_q hr
      rcases hq with rfl | rfl | rfl
      · exact so_mmax hr C hd hex hP9 K
      · exact so_mmin hr C hd hex hP9 K
      · exact so_copy hr C hd hex hP9 K
    · cases hc
  | _ => cases hc
theorem blk_sound {cs : List Int32} {qs : List Int64} (C : Cx p R s m args c cc nL on cells slots A D tys cy al sc) : ∀ (f pc : Nat) (ops : List Instr) (pc' : Nat) (lv : Lv) (st : List Value) (h : Hp) (r : Lv × List Value × Hp) (L : List Prop), blk on nL cc cs qs f pc ops pc' = true → exl sc cs qs ops lv st h = some (r, L) → (∀ x ∈ L, x) → GM p l e R s m args below meth c cells slots Q nL A D cy al pc' r.1 r.2.1 r.2.2 → GM p l e R s m args below meth c cells slots Q nL A D cy al pc lv st h := by
  have hgo : ∀ (pc : Nat) (o : Int) (t : Nat) (lv : Lv) (st : List Value) (h : Hp), decode cc pc = .ok (.goto o, 3) → (pc : Int) + o = (t : Int) → GM p l e R s m args below meth c cells slots Q nL A D cy al t lv st h → GM p l e R s m args below meth c cells slots Q nL A D cy al pc lv st h := by
    intro pc o t lv st h hd ht K ls H locs hl hP hS
    exact lv_goto C.1.1 C.1.2.1 hd ht (K ls H locs hl hP hS)
  intro f
  induction f with
  | zero => intro pc ops pc' lv st h r L hb; cases ops <;> cases hb
  | succ f ih =>
    intro pc ops pc' lv st h r L hb he hL K
    cases ops with
    | nil =>
      simp only [exl, Option.some.injEq, Prod.mk.injEq] at he
      obtain ⟨rfl, rfl⟩ := he
      simp only [blk, Bool.or_eq_true, decide_eq_true_eq] at hb
      rcases hb with rfl | hb
      · exact K
      · split at hb
        · rename_i o n hd
          simp only [Bool.and_eq_true, decide_eq_true_eq] at hb
          obtain ⟨rfl, hb⟩ := hb
          exact hgo pc o pc' lv st h hd hb K
        · cases hb
    | cons op ops =>
      simp only [blk] at hb
      split at hb
      · rename_i o n hd
        simp only [Bool.and_eq_true, decide_eq_true_eq] at hb
        obtain ⟨⟨rfl, h0⟩, hb⟩ := hb
        exact hgo pc o _ lv st h hd (by omega) (ih _ _ _ _ _ _ _ _ hb he hL K)
      · rename_i i n hng hd
        simp only [Bool.and_eq_true] at hb
        obtain ⟨hc, hb⟩ := hb
        simp only [exl] at he
        split at he
        · cases he
        · rename_i r1 p1 he1
          split at he
          · cases he
          · rename_i r2 L2 he2
            simp only [Option.some.injEq, Prod.mk.injEq] at he
            obtain ⟨rfl, rfl⟩ := he
            obtain ⟨lv1, st1, h1⟩ := r1
            refine cv_sound C hd hc he1 (fun x hx => ?_) (ih _ _ _ _ _ _ _ _ hb he2 (fun x hx => ?_) K)
            · subst hx
              exact hL x List.mem_cons_self
            · refine hL x ?_
              cases p1 with
              | none => exact hx
              | some P => exact List.mem_cons_of_mem _ hx
      · cases hb
end BLK
theorem al_all : ∀ {L : List Prop}, Al L → ∀ x ∈ L, x
  | [], _, x, hx => by cases hx
  | [p], h, x, hx => by
    rcases List.mem_cons.mp hx with rfl | hx
    · exact h
    · cases hx
  | p :: q :: r, h, x, hx => by
    rcases List.mem_cons.mp hx with rfl | hx
    · exact h.1
    · exact al_all h.2 x hx

def SLEN : List Nat := [5, 6, 7, 4, 3, 3, 5, 5, 4, 5, 4, 4, 5, 6, 5, 7]
def SBYT : List (List Int32) := [[116, 97, 98, 108, 101], [103, 117, 101, 115, 116, 115], [113, 117, 97, 114, 114, 101, 108], [108, 111, 118, 101], [115, 105, 116], [115, 97, 121], [110, 105, 103, 104, 116], [115, 99, 114, 117, 98], [106, 111, 105, 110], [115, 112, 108, 105, 116], [104, 101, 97, 114], [115, 104, 117, 110], [97, 112, 97, 114, 116], [98, 101, 115, 105, 100, 101], [104, 101, 97, 114, 100], [115, 105, 108, 101, 110, 99, 101]]
/-! ===== a method's contract, and the rules by which it is proved ===== -/
abbrev En : Type := Launch × va_G × List (ClassId × FieldType) × (Nat → ClassId) × (Nat → Nat) × Sc
abbrev Mt : Type := MethodName × ByteArray × Nat × Option FieldType
def eL (E : En) : Launch := E.1
def eD (E : En) : va_G := E.2.1
def eT (E : En) : List (ClassId × FieldType) := E.2.2.1
def eC (E : En) : Nat → ClassId := E.2.2.2.1
def eA (E : En) : Nat → Nat := E.2.2.2.2.1
def eS (E : En) : Sc := E.2.2.2.2.2
def Ow (al : Nat → Nat) : Nat → Prop := fun q => ∃ k, kd k ≠ 99 ∧ q = al k
/-- what stays all the time -/
def Bs (E : En) (U : State) (H : Heap) : Prop :=
  ((∀ w ∈ NWL, va_Nw w U) ∧ va_K (eD E) vwCl (eT E) U ∧ (∀ t, t < 7 → (eT E)[t]? = some (eC E (20 + t), tyA t)) ∧ (∀ i j, kd i ≠ 99 → kd j ≠ 99 → eA E i = eA E j → i = j)) ∧
  ((∀ r ∈ LDS, vk_R (RN r.1) r.2.1 (STX.getD r.2.2 "") (eA E (400 + r.2.2)) U) ∧ va_X (eA E 300) (eS E).2 (eS E).1 U H ∧ eA E 300 < H.size ∧ ¬ Ow (eA E) (eA E 300)) ∧
  (vk_S 16 SLEN SBYT (fun i => eA E (400 + i)) (fun i => eA E (500 + i)) (Ow (eA E)) U H ∧ va_Z "java/lang/String" "COMPACT_STRINGS" "Z" (.int 1) (Ow (eA E)) U H ∧ va_Zq "jdk/internal/util/Preconditions" "SIOOBE_FORMATTER" "Ljava/util/function/BiFunction;" (Ow (eA E)) U H)
theorem Bs.go {E : En} {s U : State} {H : Heap} (h : Bs E s s.heap) (hW : s.WarmedH U.vm) (hH : H.size ≥ s.heap.size) (hk : ∀ q, q < s.heap.size → ¬ Ow (eA E) q → H[q]? = s.heap[q]?) : Bs E U H := by
  obtain ⟨⟨h1, h2, h3, h4⟩, ⟨h5, h6, h7, h8⟩, h9, h10⟩ := h
  have hA := hW.alike
  refine ⟨⟨fun w hw => ?_, h2.moved hA, h3, h4⟩, ⟨fun r hr => (h5 r hr).warm hW, (h6.moved hA).kept (hk _ h7 h8), by omega, h8⟩, (h9.moved hA).kept hk, (h10.1.moved hA).kept hk, (h10.2.moved hA).kept hk⟩
  have hn := (List.mem_filter.mp hw).2
  have h0 := h1 w hw
  cases w <;> first
    | (cases hn; done)
    | exact va_Nw.warmF hW h0
    | exact va_Nw.warmM hW h0
theorem Bs.same {E : En} {s U : State} {H : Heap} (h : Bs E s H) (hv : s.vm = U.vm) : Bs E U H := by
  obtain ⟨⟨h1, h2, h3, h4⟩, ⟨h5, h6, h7, h8⟩, h9, h10⟩ := h
  have hA : s.vm.Alike U.vm := by rw [hv]; exact Vm.Alike.refl _
  refine ⟨⟨fun w hw => ?_, h2.moved hA, h3, h4⟩, ⟨fun r hr => (h5 r hr).same hv.symm, h6.moved hA, h7, h8⟩, h9.moved hA, h10.1.moved hA, h10.2.moved hA⟩
  have hn := (List.mem_filter.mp hw).2
  have h0 := h1 w hw
  cases w <;> first
    | (cases hn; done)
    | exact va_Nw.same rfl hv h0
def Bw (E : En) (h : Hp) (U : State) : Prop := va_P (eD E) vwCl (wsp (eC E) (eA E) h) U.heap ∧ Bs E U U.heap
def QC (E : En) (P : Option Value → Hp → Prop) : Array Value → State → Outcome → State → Prop := fun _ st oc t => (∃ (r : Option Value) (h : Hp), oc = .returned (r.map (vm (eA E))) ∧ P r h ∧ va_P (eD E) vwCl (wsp (eC E) (eA E) h) t.heap) ∧ va_F (Ow (eA E)) st t
def rmd (d : Nat) : Room := { frames := d + 1, cells := 0, slots := 0, locals := 200 + 100 * d }
/-- called with these from this heap, method z returns, and what comes back is P -/
def Cn (E : En) (d : Nat) (z : Mt) (as : List Value) (h : Hp) (P : Option Value → Hp → Prop) : Prop :=
  Met (eL E) z.1 (.code z.1 z.2.1 z.2.2.1 z.2.2.2 :: W0) (rmd d) (va_Pc (as.map (vm (eA E))) (Bw E h)) (QC E P) 0 0 (Ow (eA E))
def cnd (c : ClassFile.Cond) (x y : Int32) : Prop := match c with
  | .eq => x = y
  | .ne => x ≠ y
  | .lt => x < y
  | .ge => y ≤ x
  | .gt => y < x
  | .le => x ≤ y
def MkO (y : Mt) (n : Nat) : Prop := (Cond.code y.1 y.2.1 y.2.2.1 y.2.2.2 ∈ W0 ∧ Cond.initialized y.1.cls ∈ W0) ∧ (y.1.cls ≠ "java/lang/invoke/MethodHandle" ∧ y.1.cls ≠ "java/lang/invoke/VarHandle" ∧ (parseMethodDescriptor y.1.desc).map (fun d => d.parameters.length) = some n) ∧ y.2.2.1 ≤ 80
def MkV (y : Mt) (n : Nat) : Prop := MkO y n ∧ Cond.instanceMethod y.1 ∈ W0 ∧ Cond.selects y.1.cls y.1 y.1 ∈ W0
def MkS (y : Mt) (n : Nat) : Prop := MkO y n ∧ Cond.static y.1 ∈ W0
def Lk (on idx : Nat) (y : MethodName) : Prop := Cond.methodLink (RN on) idx y ∈ W0 ∨ ∃ host, Cond.methodLinkNest (RN on) idx y host ∈ NWL
def Rcv (k : Nat) (C : String) : Prop := (kd k < 13 ∧ C = RN (kd k)) ∨ (400 ≤ k ∧ k < 416 ∧ C = "java/lang/String")
def swf : Int → List Nat → Nat → Int32 → Nat
  | _, [], d, _ => d
  | k, t :: r, d, x => if x = Int32.ofInt k then t else swf (k + 1) r d x
def lkf : List (Int × Nat) → Nat → Int32 → Nat
  | [], d, _ => d
  | (k, t) :: r, d, x => if x = Int32.ofInt k then t else lkf r d x
def rtl (r : Option Value) (rest : List Value) : List Value := match r with
  | none => rest
  | some v => v :: rest
abbrev GT : Type := Nat → Lv → List Value → Hp → Prop
def RlB (sc : Sc) (on : Nat) (z : Mt) (G : GT) : Prop := ∀ (f pc : Nat) (ops : List Instr) (pc' : Nat) (cs : List Int32) (qs : List Int64) (lv : Lv) (st : List Value) (h : Hp) (r : Lv × List Value × Hp) (L : List Prop), blk on z.2.2.1 z.2.1 cs qs f pc ops pc' = true → exl sc cs qs ops lv st h = some (r, L) → Al L → G pc' r.1 r.2.1 r.2.2 → G pc lv st h
def RlS (G : GT) : Prop := ∀ (pc : Nat) (lv lv' : Lv) (st : List Value) (h : Hp), (∀ q ∈ lv', q ∈ lv) → G pc lv' st h → G pc lv st h
def RlI (z : Mt) (G : GT) : Prop := ∀ (c : ClassFile.Cond) (off : Int) (tgt pc : Nat) (lv : Lv) (x : Int32) (st : List Value) (h : Hp), decode z.2.1 pc = .ok (.ifCond c off, 3) → (pc : Int) + off = (tgt : Int) → (cnd c x 0 → G tgt lv st h) → (¬ cnd c x 0 → G (pc + 3) lv st h) → G pc lv (.int x :: st) h
def RlJ (z : Mt) (G : GT) : Prop := ∀ (c : ClassFile.Cond) (off : Int) (tgt pc : Nat) (lv : Lv) (x y : Int32) (st : List Value) (h : Hp), decode z.2.1 pc = .ok (.if_icmp c off, 3) → (pc : Int) + off = (tgt : Int) → (cnd c x y → G tgt lv st h) → (¬ cnd c x y → G (pc + 3) lv st h) → G pc lv (.int y :: .int x :: st) h
def RlN (z : Mt) (G : GT) : Prop := (∀ (off : Int) (tgt pc : Nat) (lv : Lv) (k : Nat) (st : List Value) (h : Hp), decode z.2.1 pc = .ok (.ifnull off, 3) → (pc : Int) + off = (tgt : Int) → (k = 0 → G tgt lv st h) → (¬ k = 0 → G (pc + 3) lv st h) → G pc lv (.ref k :: st) h) ∧
  (∀ (off : Int) (tgt pc : Nat) (lv : Lv) (k : Nat) (st : List Value) (h : Hp), decode z.2.1 pc = .ok (.ifnonnull off, 3) → (pc : Int) + off = (tgt : Int) → (¬ k = 0 → G tgt lv st h) → (k = 0 → G (pc + 3) lv st h) → G pc lv (.ref k :: st) h)
def swok (pc : Nat) (dflt lo hi : Int) (offs : Array Int) (ts : List Nat) (d : Nat) : Bool := decide ((pc : Int) + dflt = (d : Int)) && decide (hi - lo + 1 = (ts.length : Int)) && decide (offs.toList.map (fun o => (pc : Int) + o) = ts.map (fun t : Nat => (t : Int))) && decide (-1000 ≤ lo) && decide (hi ≤ 1000)
def lkok (pc : Nat) (dflt : Int) (ps : Array (Int × Int)) (ts : List (Int × Nat)) (d : Nat) : Bool := decide ((pc : Int) + dflt = (d : Int)) && decide (ps.toList.map (fun q => (q.1, (pc : Int) + q.2)) = ts.map (fun t : Int × Nat => (t.1, (t.2 : Int)))) && (ps.toList.zip (ps.toList.drop 1)).all (fun (a, next) => a.1 < next.1) && ts.all (fun t => decide (-1000 ≤ t.1) && decide (t.1 ≤ 1000))
def RlW (z : Mt) (G : GT) : Prop := (∀ (dflt lo hi : Int) (offs : Array Int) (len pc : Nat) (ts : List Nat) (d : Nat) (lv : Lv) (x : Int32) (st : List Value) (h : Hp), decode z.2.1 pc = .ok (.tableswitch dflt lo hi offs, len) → swok pc dflt lo hi offs ts d = true → G (swf lo ts d x) lv st h → G pc lv (.int x :: st) h) ∧
  (∀ (dflt : Int) (ps : Array (Int × Int)) (len pc : Nat) (ts : List (Int × Nat)) (d : Nat) (lv : Lv) (x : Int32) (st : List Value) (h : Hp), decode z.2.1 pc = .ok (.lookupswitch dflt ps, len) → lkok pc dflt ps ts d = true → G (lkf ts d x) lv st h → G pc lv (.int x :: st) h)
def RlV (E : En) (d on : Nat) (z : Mt) (G : GT) : Prop := ∀ (y : Mt) (idx n pc k : Nat) (lv : Lv) (as rest : List Value) (h : Hp) (P : Option Value → Hp → Prop), decode z.2.1 pc = .ok (.invokevirtual idx, 3) → MkV y n → Lk on idx y.1 → Rcv k y.1.cls → as.length = n → sm rest ≤ 8 → Cn E d y (.ref k :: as) h P → (∀ r h', P r h' → G (pc + 3) lv (rtl r rest) h') → G pc lv (as.reverse ++ .ref k :: rest) h
def RlT (E : En) (d on : Nat) (z : Mt) (G : GT) : Prop := ∀ (y : Mt) (idx n pc : Nat) (lv : Lv) (as rest : List Value) (h : Hp) (P : Option Value → Hp → Prop), decode z.2.1 pc = .ok (.invokestatic idx, 3) → MkS y n → Lk on idx y.1 → as.length = n → sm rest ≤ 8 → Cn E d y as h P → (∀ r h', P r h' → G (pc + 3) lv (rtl r rest) h') → G pc lv (as.reverse ++ rest) h
def RlR (z : Mt) (Post : Option Value → Hp → Prop) (G : GT) : Prop :=
  (∀ (pc : Nat) (lv : Lv) (h : Hp), decode z.2.1 pc = .ok (.return_, 1) → z.2.2.2 = none → Post none h → G pc lv [] h) ∧
  (∀ (pc : Nat) (lv : Lv) (v : Int32) (h : Hp), decode z.2.1 pc = .ok (.ireturn, 1) → z.2.2.2 = some .int → Post (some (.int v)) h → G pc lv [.int v] h) ∧
  (∀ (pc : Nat) (lv : Lv) (v : Int32) (h : Hp), decode z.2.1 pc = .ok (.ireturn, 1) → z.2.2.2 = some .boolean → (v = 0 ∨ v = 1) → Post (some (.int v)) h → G pc lv [.int v] h) ∧
  (∀ (pc : Nat) (lv : Lv) (k : Nat) (n : String) (h : Hp), decode z.2.1 pc = .ok (.areturn, 1) → z.2.2.2 = some (.object n) → Post (some (.ref k)) h → G pc lv [.ref k] h)
def Rl (E : En) (d on : Nat) (z : Mt) (Post : Option Value → Hp → Prop) (G : GT) : Prop := (RlB (eS E) on z G ∧ RlS G ∧ RlI z G ∧ RlJ z G ∧ RlN z G ∧ RlW z G) ∧ (RlV E d on z G ∧ RlT E d on z G) ∧ RlR z Post G

theorem int32_ofInt_inj {x : Int32} {k : Int} (h1 : -1000 ≤ k) (h2 : k ≤ 1000) : x = Int32.ofInt k ↔ x.toInt = k := by
  have hk : (Int32.ofInt k).toInt = k := Int32.toInt_ofInt_of_le (by omega) (by omega)
  constructor
  · rintro rfl
    exact hk
  · intro h
    apply Int32.toInt_inj.mp
    rw [hk, h]
theorem swf_in : ∀ (ts : List Nat) (lo : Int) (d : Nat) (x : Int32), -1000 ≤ lo → lo + (ts.length : Int) ≤ 1001 → lo ≤ x.toInt → x.toInt < lo + ts.length → ts[(x.toInt - lo).toNat]? = some (swf lo ts d x)
  | [], lo, d, x, h1, h2, h3, h4 => by simp at h4; omega
  | t :: r, lo, d, x, h1, h2, h3, h4 => by
    rw [List.length_cons] at h2 h4
    unfold swf
    by_cases hx : x.toInt = lo
    · rw [if_pos ((int32_ofInt_inj h1 (by omega)).mpr hx), hx, Int.sub_self]
      rfl
    · rw [if_neg (fun q => hx ((int32_ofInt_inj h1 (by omega)).mp q))]
      have := swf_in r (lo + 1) d x (by omega) (by omega) (by omega) (by omega)
      rw [← this, show (x.toInt - lo).toNat = (x.toInt - (lo + 1)).toNat + 1 by omega, List.getElem?_cons_succ]
theorem swf_out : ∀ (ts : List Nat) (lo : Int) (d : Nat) (x : Int32), -1000 ≤ lo → lo + (ts.length : Int) ≤ 1001 → (x.toInt < lo ∨ lo + ts.length ≤ x.toInt) → swf lo ts d x = d
  | [], lo, d, x, h1, h2, h3 => rfl
  | t :: r, lo, d, x, h1, h2, h3 => by
    rw [List.length_cons] at h2 h3
    unfold swf
    rw [if_neg (fun q => by have := (int32_ofInt_inj h1 (by omega)).mp q; omega)]
    exact swf_out r (lo + 1) d x (by omega) (by omega) (by omega)
theorem lkf_ok : ∀ (ps : List (Int × Int)) (ts : List (Int × Nat)) (pc d : Nat) (dflt : Int) (x : Int32), (pc : Int) + dflt = (d : Int) → ps.map (fun q => (q.1, (pc : Int) + q.2)) = ts.map (fun t : Int × Nat => (t.1, (t.2 : Int))) → (∀ t ∈ ts, -1000 ≤ t.1 ∧ t.1 ≤ 1000) → (pc : Int) + Op.lookupswitch.offset ps dflt x.toInt = (lkf ts d x : Int)
  | [], [], pc, d, dflt, x, h1, h2, h3 => by rw [Op.lookupswitch.offset_nil]; exact h1
  | [], t :: r, pc, d, dflt, x, h1, h2, h3 => by cases h2
  | q :: r, [], pc, d, dflt, x, h1, h2, h3 => by cases h2
  | (a, o) :: ps, (k, t) :: ts, pc, d, dflt, x, h1, h2, h3 => by
    simp only [List.map_cons, List.cons.injEq, Prod.mk.injEq] at h2
    obtain ⟨⟨rfl, h4⟩, h5⟩ := h2
    have hb := h3 _ List.mem_cons_self
    rw [Op.lookupswitch.offset_cons]
    unfold lkf
    by_cases hx : x.toInt = a
    · rw [if_pos (by first | exact hx | exact hx.symm | simpa using hx | simpa using hx.symm), if_pos ((int32_ofInt_inj hb.1 hb.2).mpr hx)]
      exact h4
    · rw [if_neg (by first | exact hx | exact fun q => hx q.symm | simpa using hx), if_neg (fun q => hx ((int32_ofInt_inj hb.1 hb.2).mp q))]
      exact lkf_ok ps ts pc d dflt x h1 h5 (fun t ht => h3 t (List.mem_cons_of_mem _ ht))

