abbrev zS : Type := Nat → Int
def zup (S : zS) (i : Nat) (v : Int) : zS := fun j => if j = i then v else S j
theorem zup_s {S : zS} {i : Nat} {v : Int} : zup S i v i = v := if_pos rfl
theorem zup_n {S : zS} {i j : Nat} {v : Int} (h : ¬ j = i) : zup S i v j = S j := if_neg h
abbrev aB (S : zS) : Nat := (S 0).toNat
abbrev aU (S : zS) : Nat := (S 1).toNat
abbrev aP (S : zS) : Nat := (S 2).toNat
abbrev aR (S : zS) : Nat := (S 3).toNat
def aPar (S : zS) (b : Nat) : Int := S (8 + 5 * b) - 1
def aSeat (S : zS) (p : Nat) : Int := S (54 + 3 * p) - 1
def aBrk (S : zS) (b : Nat) : Bool := decide (S (11 + 5 * b) = 1)
def aAbF (S : zS) : Nat → Nat → Nat → Bool
  | 0, _, _ => false
  | n + 1, c, b => Nat.beq c b || (decide (0 ≤ aPar S c) && aAbF S n (aPar S c).toNat b)
def aAb (S : zS) (c b : Nat) : Bool := aAbF S 9 c b
def aAbI (S : zS) (z : Int) (b : Nat) : Bool := decide (0 ≤ z) && aAb S z.toNat b
def aBear (S : zS) (b : Nat) : Int := S 5 * S (9 + 5 * b) + zsum (fun p => bif aAbI S (aSeat S p) b then S (52 + 3 * p) else 0) ((S 2).toNat)
def zmF (f : Nat → Int32) (c b : Int32) : Int32 := if c = -5 then b else if c = -4 then f 3 else if c = -3 then f 2 else if c = -2 then f 1 else if c = -1 then f 0 else c
def zmH (c x y : Int32) : Bool := if c = -21 then decide (x = 1) && decide (y = 1) else if c = -13 then decide (y < x) else if c = -12 then decide (x = y) else if c = -11 then decide (x < y) else decide (x = 1) || decide (y = 1)
def zmS (f : Nat → Int32) (c : Int32) (st : List Int32) : Option (List Int32) :=
  if -10 < c then some (zmF f c (f 4) :: st) else if c = -20 then (match st with | x :: r => some ((1 - x) :: r) | [] => none) else (match st with | y :: x :: r => some (zB (zmH c x y) :: r) | _ => none)
def zmR (f : Nat → Int32) (code : Nat → Int32) : Nat → Nat → List Int32 → Option (List Int32)
  | 0, _, st => some st
  | n + 1, k, st => (zmS f (code k) st).bind (zmR f code n (k + 1))
def zmE (st : List Int32) : Bool := match st with
  | [] => true
  | _ => decide (st.getLast? = some 1)
def zmC (f : Nat → Int32) (code : Nat → Int32) (k n : Nat) : Option Bool := (zmR f code n k []).map zmE
def zcH (c x y : Int32) : Bool := if c = -10 then !decide (x = 0) && !decide (y = 0) else if c = -9 then !decide (x = 0) || !decide (y = 0) else if c = -8 then decide (y < x) else if c = -7 then decide (x = y) else if c = -6 then decide (x < y) else !decide (x = 0) || !decide (y = 0)
def zcS (f : Nat → Int32) (c : Int32) (st : List Int32) : List Int32 :=
  if c < -5 then (if c = -9 then (match st with | x :: r => (1 - x) :: r | [] => []) else (match st with | y :: x :: r => zB (zcH c x y) :: r | s => s)) else (if st.length < 16 then (if c < 0 then f ((-1) - c).toNatClampNeg else c) :: st else st)
def zcR (f : Nat → Int32) (code : Nat → Int32) : Nat → Nat → List Int32 → List Int32
  | 0, _, st => st
  | n + 1, k, st => zcR f code n (k + 1) (zcS f (code k) st)
def zcE (st : List Int32) : Bool := match st with
  | [] => true
  | x :: _ => !decide (x = 0)
def zcC (f : Nat → Int32) (code : Nat → Int32) (k n : Nat) : Bool := zcE (zcR f code n k [])
def aFct (S : zS) (b : Nat) : Nat → Int32 := fun i => match i with
  | 0 => iI (S 4)
  | 1 => iI (S 5)
  | 2 => iI (S (9 + 5 * b))
  | 3 => iI (S (10 + 5 * b))
  | _ => iI b
def aEnd (S : zS) (k : Nat) : Nat := match k with
  | 0 => 0
  | k + 1 => (S (91 + 4 * k)).toNat
def aCod (S : zS) : Nat → Int32 := fun k => iI (S (120 + k))
def aCnd (S : zS) (b k : Nat) : Bool := (zmC (aFct S b) (aCod S) (aEnd S k) (aEnd S (k + 1) - aEnd S k)) == some true
def aUnd (k a : Int) : Bool := decide (a = 0) || decide (a = k) || decide (a = 2 ∧ k = 3) || decide (a = 4 ∧ k = 5)
def aFst (S : zS) (b : Nat) : Nat → Nat → Option Nat
  | 0, _ => none
  | n + 1, k => bif aUnd (S (7 + 5 * b)) (S (88 + 4 * k)) && aCnd S b k then some k else aFst S b n (k + 1)
def aHlf (S : zS) (b : Nat) (o : Option Nat) : Int := match o with
  | none => S (10 + 5 * b)
  | some k => if S (89 + 4 * k) = 0 then S (10 + 5 * b) + S (90 + 4 * k) else if S (89 + 4 * k) = 1 then (if S (10 + 5 * b) - S (90 + 4 * k) < 0 then 0 else S (10 + 5 * b) - S (90 + 4 * k)) else 0
def aHld (S : zS) (b : Nat) : Int := aHlf S b (aFst S b ((S 1).toNat) 0)
def aKnd (S : zS) (b : Nat) (h : Int) : Int := if S (7 + 5 * b) = 1 then h + 10 * S 4 else if S (7 + 5 * b) = 2 then h / 2 else if S (7 + 5 * b) = 3 then (if h / 2 - S (9 + 5 * b) < 0 then 0 else h / 2 - S (9 + 5 * b)) else if S (7 + 5 * b) = 4 then h + 50 else 2 * (h + 50)
def aHold (S : zS) (b : Nat) : Int := aKnd S b (aHld S b)
def wB (S : zS) : Prop := 0 ≤ S 0 ∧ S 0 ≤ 9 ∧ ∀ b, b < (S 0).toNat → 1 ≤ S (7 + 5 * b) ∧ S (7 + 5 * b) ≤ 5 ∧ 0 ≤ S (8 + 5 * b) ∧ S (8 + 5 * b) ≤ b ∧ 1 ≤ S (9 + 5 * b) ∧ S (9 + 5 * b) ≤ 9 ∧ 1 ≤ S (10 + 5 * b) ∧ S (10 + 5 * b) ≤ 999 ∧ 0 ≤ S (11 + 5 * b) ∧ S (11 + 5 * b) ≤ 1
def wW (S : zS) : Prop := 0 ≤ S 4 ∧ S 4 ≤ 9 ∧ 0 ≤ S 5 ∧ S 5 ≤ 9
def wP (S : zS) : Prop := 0 ≤ S 2 ∧ S 2 ≤ 8 ∧ ∀ p, p < (S 2).toNat → 1 ≤ S (52 + 3 * p) ∧ S (52 + 3 * p) ≤ 200 ∧ 0 ≤ S (53 + 3 * p) ∧ S (53 + 3 * p) ≤ 1 ∧ 0 ≤ S (54 + 3 * p) ∧ S (54 + 3 * p) ≤ S 0
def wR (S : zS) : Prop := 0 ≤ S 3 ∧ S 3 ≤ 6 ∧ ∀ r, r < (S 3).toNat → 0 ≤ S (76 + 2 * r) ∧ S (76 + 2 * r) < S 0 ∧ 0 ≤ S (77 + 2 * r) ∧ S (77 + 2 * r) ≤ 1
def wU (S : zS) : Prop := 0 ≤ S 1 ∧ S 1 ≤ 8 ∧ ∀ k, k < (S 1).toNat → 0 ≤ S (88 + 4 * k) ∧ S (88 + 4 * k) ≤ 5 ∧ 0 ≤ S (89 + 4 * k) ∧ S (89 + 4 * k) ≤ 2 ∧ 0 ≤ S (90 + 4 * k) ∧ S (90 + 4 * k) ≤ 999 ∧ aEnd S k ≤ aEnd S (k + 1) ∧ aEnd S (k + 1) ≤ 200 ∧ 0 ≤ S (91 + 4 * k) ∧ ∀ f, zmC f (aCod S) (aEnd S k) (aEnd S (k + 1) - aEnd S k) ≠ none
def wA (S : zS) : Prop := wB S ∧ wW S ∧ wP S ∧ wR S ∧ wU S ∧ zrn (S 6)
def mS (k : Nat) (S : zS) (σ : zM) : Prop := ∀ i, i < 320 → σ.1 0 k i = iI (S i)
def cE (z : Int) : Int := if z < 0 then -9 else z
def cB (g : Nat) (S : zS) (σ : zM) : Prop := σ.1 g 1 0 = iI (S 0) ∧ ∀ b, b < (S 0).toNat → σ.1 g 2 b = iI (S (7 + 5 * b)) ∧ σ.1 g 3 b = iI (cE (aPar S b)) ∧ σ.1 g 4 b = iI (S (9 + 5 * b)) ∧ σ.1 g 5 b = iI (S (10 + 5 * b)) ∧ ∀ u, u < 9 → bt (σ.1 g 6 b) u = aAb S b u
def cK (g : Nat) (S : zS) (σ : zM) : Prop := ∀ b, b < 9 → bt (σ.1 g 1 6) b = (decide (b < (S 0).toNat) && aBrk S b)
def cW (g : Nat) (S : zS) (σ : zM) : Prop := σ.1 g 1 7 = iI (S 4) ∧ σ.1 g 1 8 = iI (S 5)
def cP (g : Nat) (S : zS) (σ : zM) : Prop := σ.1 g 15 0 = iI (S 2) ∧ ∀ p, p < (S 2).toNat → σ.1 g 16 p = iI (S (52 + 3 * p)) ∧ σ.1 g 17 p = iI (S (53 + 3 * p)) ∧ σ.1 g 18 p = iI (cE (aSeat S p))
def cR (g : Nat) (S : zS) (σ : zM) : Prop := σ.1 g 19 0 = iI (S 3) ∧ ∀ r, r < (S 3).toNat → σ.1 g 20 r = iI (S (76 + 2 * r)) ∧ σ.1 g 21 r = iI (S (77 + 2 * r))
def cD (z : Int) : Int := -16 - z
def cEn (e : Nat → Int32) (k : Nat) : Nat := match k with
  | 0 => 0
  | k + 1 => (e k).toNatClampNeg
def cU (g : Nat) (S : zS) (σ : zM) : Prop := σ.1 g 7 0 = iI (S 1) ∧ ∀ k, k < (S 1).toNat → σ.1 g 8 k = iI (S (88 + 4 * k)) ∧ σ.1 g 9 k = iI (cD (S (89 + 4 * k))) ∧ (S (89 + 4 * k) < 2 → σ.1 g 10 k = iI (S (90 + 4 * k))) ∧ σ.1 g 11 k = iI (cEn (σ.1 g 11) (k + 1) : Nat) ∧ cEn (σ.1 g 11) k ≤ cEn (σ.1 g 11) (k + 1) ∧ cEn (σ.1 g 11) (k + 1) ≤ 200 ∧ ∀ f, zmC f (aCod S) (aEnd S k) (aEnd S (k + 1) - aEnd S k) = some (zcC f (σ.1 g 12) (cEn (σ.1 g 11) k) (cEn (σ.1 g 11) (k + 1) - cEn (σ.1 g 11) k))
def cZ (g : Nat) (S : zS) (σ : zM) : Prop := σ.1 g 0 3 = iI (S 6)
def cA (g : Nat) (S : zS) (σ : zM) : Prop := cB g S σ ∧ cK g S σ ∧ cW g S σ ∧ cP g S σ ∧ cR g S σ ∧ cU g S σ ∧ cZ g S σ
def zFr (W : Nat → Nat → Nat → Prop) (σ τ : zM) : Prop := (∀ g k i, ¬ W g k i → τ.1 g k i = σ.1 g k i) ∧ τ.2 = σ.2
theorem zFr_r {W} (σ : zM) : zFr W σ σ := ⟨fun _ _ _ _ => rfl, rfl⟩
theorem zFr_t {W W1 W2 : Nat → Nat → Nat → Prop} {σ τ υ : zM} (h1 : zFr W1 σ τ) (h2 : zFr W2 τ υ) (a : ∀ g k i, W1 g k i → W g k i) (b : ∀ g k i, W2 g k i → W g k i) : zFr W σ υ := ⟨fun g k i h => (h2.1 g k i (fun q => h (b g k i q))).trans (h1.1 g k i (fun q => h (a g k i q))), h2.2.trans h1.2⟩
theorem zFr_tt {W : Nat → Nat → Nat → Prop} {σ τ υ : zM} (h1 : zFr W σ τ) (h2 : zFr W τ υ) : zFr W σ υ := zFr_t h1 h2 (fun _ _ _ q => q) (fun _ _ _ q => q)
theorem zFr_w {W : Nat → Nat → Nat → Prop} {σ : zM} {g k i : Nat} {v : Int32} (h : W g k i) : zFr W σ (zwI σ g k i v) := ⟨fun g' k' i' q => if_neg fun z => q (by rw [z.1, z.2.1, z.2.2]; exact h), rfl⟩
theorem zFr_i {W W1 : Nat → Nat → Nat → Prop} {σ τ : zM} (h1 : zFr W1 σ τ) (a : ∀ g k i, W1 g k i → W g k i) : zFr W σ τ := ⟨fun g k i h => h1.1 g k i (fun q => h (a g k i q)), h1.2⟩
theorem zFr_f {W : Nat → Nat → Nat → Prop} {σ τ : zM} (h : zFr W σ τ) {g k : Nat} (q : ∀ i, ¬ W g k i) : τ.1 g k = σ.1 g k := funext fun i => h.1 g k i (q i)
