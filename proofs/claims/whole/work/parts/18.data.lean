/-! ===== L3: inns, tables' rows, states; how the code and the model hold them ===== -/
abbrev Pst : Type := Int32 × Int32 × Int32
abbrev Bn : Type := Nat × (Nat → Pst) × Nat × Int32 × Int32
abbrev Inn : Type := Nat × Nat × (Nat → Nat) × (Nat → Nat) × (Nat → Int32) × (Nat → Int32) × (Nat → Int32)
abbrev St : Type := (Nat → Bn) × (Nat → Int32) × (Nat → Int32) × (Nat → Int32) × (Nat → Int32) × Int32 × Int32 × Int32
def nT (n : Inn) : Nat := n.1
def nG (n : Inn) : Nat := n.2.1
def nS (n : Inn) : Nat → Nat := n.2.2.1
def nK (n : Inn) : Nat → Nat := n.2.2.2.1
def nP (n : Inn) : Nat → Int32 := n.2.2.2.2.1
def nQ (n : Inn) : Nat → Int32 := n.2.2.2.2.2.1
def nL (n : Inn) : Nat → Int32 := n.2.2.2.2.2.2
def bL (x : Bn) : Nat := x.1
def bR (x : Bn) : Nat → Pst := x.2.1
def bU (x : Bn) : Nat := x.2.2.1
def bS (x : Bn) : Int32 := x.2.2.2.1
def bW (x : Bn) : Int32 := x.2.2.2.2
def sB (s : St) : Nat → Bn := s.1
def sH (s : St) : Nat → Int32 := s.2.1
def sP (s : St) : Nat → Int32 := s.2.2.1
def sM (s : St) : Nat → Int32 := s.2.2.2.1
def sD (s : St) : Nat → Int32 := s.2.2.2.2.1
def sN (s : St) : Int32 := s.2.2.2.2.2.1
def sF (s : St) : Int32 := s.2.2.2.2.2.2.1
def sJ (s : St) : Int32 := s.2.2.2.2.2.2.2
def up {α : Type} (f : Nat → α) (k : Nat) (v : α) : Nat → α := fun i => if i = k then v else f i
theorem up_at {α : Type} (f : Nat → α) (k : Nat) (v : α) : up f k v k = v := if_pos rfl
theorem up_ne {α : Type} (f : Nat → α) {k i : Nat} (v : α) (h : i ≠ k) : up f k v i = f i := if_neg h
/-- an inn that can be -/
def wI (n : Inn) : Prop := nT n ≤ 5 ∧ 1 ≤ nG n ∧ nG n ≤ 8 ∧ (∀ t, t < nT n → 1 ≤ nS n t ∧ nS n t ≤ 8 ∧ 1 ≤ nK n t ∧ nK n t ≤ 6 ∧ ∃ p, p ≤ 9 ∧ nP n t = nI p) ∧ ∀ g, g < 8 → lo (nG n) (nQ n g) ∧ lo (nG n) (nL n g) ∧ bt (nQ n g) g = false ∧ bt (nL n g) g = false ∧ ∀ k, k < 8 → bt (nQ n g) k = bt (nQ n k) g ∧ bt (nL n g) k = bt (nL n k) g
/-- a row of pasts that can be, at a table that keeps k, with m guests -/
def wB (m k : Nat) (x : Bn) : Prop := bL x ≤ k ∧ (bU x < bL x ∨ bU x = 0) ∧ lo m (bS x) ∧ lo 10 (bW x) ∧ (bS x = nI 0 → bW x = nI 0) ∧ ∀ i, i < bL x → lo m (bR x i).1 ∧ (bR x i).1 ≠ nI 0 ∧ lo 10 (bR x i).2.1
/-- what a table keeps; none where there is none -/
def kp (n : Inn) (t : Nat) : Nat := if t < nT n then nK n t else 0
def wS (n : Inn) (s : St) : Prop := (∀ t, t < 5 → wB (nG n) (kp n t) (sB s t) ∧ (nT n ≤ t → bS (sB s t) = nI 0)) ∧ ∀ g, g < 8 → lo 10 (sH s g) ∧ lo (nG n) (sM s g) ∧ bt (sM s g) g = false
/-- the code's house -/
def CH (h : Hp) (a : Nat) (n : Inn) : Prop := kd a = 1 ∧ h.1 a 5 = nI (nT n) ∧ h.1 a 6 = nI (nG n) ∧ (∀ t, t < nT n → h.1 (a + 1) t = nI (nS n t) ∧ h.1 (a + 2) t = nI (nK n t) ∧ h.1 (a + 3) t = nP n t) ∧ ∀ g, g < 8 → h.1 (a + 4) g = nQ n g ∧ h.1 (a + 5) g = nL n g
/-- the model's inn, k-th of all rows -/
def MH (h : Hp) (k : Nat) (n : Inn) : Prop := h.1 257 (33 * k) = nI (nT n) ∧ h.1 257 (33 * k + 1) = nI (nG n) ∧ (∀ t, t < nT n → h.1 257 (33 * k + (2 + 3 * t)) = nI (nS n t) ∧ h.1 257 (33 * k + (2 + 3 * t + 1)) = nI (nK n t) ∧ h.1 257 (33 * k + (2 + 3 * t + 2)) = nP n t) ∧ ∀ g, g < 8 → h.1 257 (33 * k + (17 + g)) = nQ n g ∧ h.1 257 (33 * k + (25 + g)) = nL n g
/-- the inn that the model has at hand -/
def MX (h : Hp) (n : Inn) : Prop := ∃ k, k < 2 ∧ h.1 251 23 = nI k ∧ h.1 251 24 = nI (nT n) ∧ h.1 251 25 = nI (nG n) ∧ MH h k n
/-- the code's table at a -/
def CB (h : Hp) (a : Nat) (x : Bn) : Prop := h.1 a 3 = nI (bL x) ∧ h.1 a 4 = nI (bU x) ∧ h.1 a 5 = bS x ∧ h.1 a 6 = bW x ∧ ∀ i, i < bL x → h.1 (a + 1) i = (bR x i).1 ∧ h.1 (a + 2) i = (bR x i).2.1 ∧ h.1 (a + 3) i = (bR x i).2.2
/-- the model's table t -/
def MB (h : Hp) (t : Nat) (x : Bn) : Prop := h.1 266 t = nI (bL x) ∧ h.1 267 t = nI (bU x) ∧ h.1 268 t = bS x ∧ h.1 269 t = bW x ∧ ∀ i, i < bL x → h.1 263 (16 * t + i) = (bR x i).1 ∧ h.1 264 (16 * t + i) = (bR x i).2.1 ∧ h.1 265 (16 * t + i) = (bR x i).2.2
/-- the code's state: all but its house -/
def CS (h : Hp) (s : St) : Prop := (∀ t, t < 5 → CB h (70 + 4 * t) (sB s t)) ∧ (∀ g, g < 8 → h.1 59 g = sH s g ∧ h.1 60 g = sP s g ∧ h.1 61 g = sM s g) ∧ (∀ i, i < 64 → h.1 62 i = sD s i) ∧ h.1 57 7 = sN s ∧ h.1 57 8 = sF s ∧ h.1 57 9 = sJ s
/-- the state's house -/
def CX (h : Hp) (n : Inn) : Prop := ∃ a, a < 50 ∧ h.1 57 6 = nI a ∧ CH h a n
def MS (h : Hp) (s : St) : Prop := (∀ t, t < 5 → MB h t (sB s t)) ∧ (∀ g, g < 8 → h.1 270 g = sH s g ∧ h.1 271 g = sP s g ∧ h.1 273 g = sM s g) ∧ (∀ i, i < 64 → h.1 272 i = sD s i) ∧ h.1 251 38 = sN s ∧ h.1 251 39 = sF s ∧ h.1 251 40 = sJ s
/-! ===== what is done to a table's row ===== -/
def bMk (l : Nat) (r : Nat → Pst) (u : Nat) (s w : Int32) : Bn := (l, r, u, s, w)
def bAp (x : Bn) (p : Pst) : Bn := bMk (bL x + 1) (up (bR x) (bL x) p) (bU x) (bS x) (bW x)
def bFg (x : Bn) (k : Nat) : Bn := bMk (bL x - k) (fun i => bR x (i + k)) (bU x - k) (bS x) (bW x)
def bTn (x : Bn) : Bn := bMk (bL x) (bR x) (if bU x + 1 < bL x then bU x + 1 else 0) (bS x) (bW x)
def bCl : Bn := bMk 0 (fun _ => (nI 0, nI 0, nI 0)) 0 (nI 0) (nI 0)
def bSt (x : Bn) (s w : Int32) : Bn := bMk (bL x) (bR x) (bU x) s w
def bTz (x : Bn) : Bn := bMk (bL x) (bR x) 0 (bS x) (bW x)
/-- no more than k are kept -/
def bKp (x : Bn) (k : Nat) : Bn := bFg x (bL x - k)
def bEn (x : Bn) (night : Int32) (k : Nat) : Bn := if bS x = nI 0 then bSt x (nI 0) (nI 0) else bSt (bKp (bAp x (bS x, bW x, night)) k) (nI 0) (nI 0)
def bQt (x : Bn) (night : Int32) (k : Nat) : Bn := bKp (bAp (bTn x) (nI 0, nI 0, night)) k
/-- the last but one goes -/
def bSc (x : Bn) : Bn := bMk (bL x - 1) (up (bR x) (bL x - 2) (bR x (bL x - 1))) (if (if bU x = bL x - 1 then bL x - 2 else bU x) < bL x - 1 then (if bU x = bL x - 1 then bL x - 2 else bU x) else 0) (bS x) (bW x)
theorem bL_mk (l : Nat) (r : Nat → Pst) (u : Nat) (s w : Int32) : bL (bMk l r u s w) = l ∧ bR (bMk l r u s w) = r ∧ bU (bMk l r u s w) = u ∧ bS (bMk l r u s w) = s ∧ bW (bMk l r u s w) = w := ⟨rfl, rfl, rfl, rfl, rfl⟩
/-- who comes round -/
def bG (x : Bn) : Int32 := if bU x < bL x then (bR x (bU x)).1 else nI 0
def bV (x : Bn) : Int32 := if bU x < bL x then (bR x (bU x)).2.1 else nI 0
/-- all guests of a row -/
def bA (x : Bn) : Int32 := oT (fun k => (bR x k).1) (bL x)
/-- couples of one of some and one of the others -/
def cp (f : Nat → Int32) (some others : Int32) : Nat → Nat
  | 0 => 0
  | k + 1 => cp f some others k + (if bt some k = true then pc (f k &&& others) else 0)
/-- what is added once for each k that is in b -/
def aT (x p : Int32) (b : Nat → Bool) : Nat → Int32
  | 0 => x
  | k + 1 => if b k = true then aT x p b k + p else aT x p b k
