def iI (z : Int) : Int32 := Int32.ofInt z
abbrev zrn (z : Int) : Prop := -2147483648 ≤ z ∧ z ≤ 2147483647
theorem iI_add (a b : Int) : iI a + iI b = iI (a + b) := (Int32.ofInt_add a b).symm
theorem iI_sub (a b : Int) : iI a - iI b = iI (a - b) := (Int32.ofInt_sub a b).symm
theorem iI_mul (a b : Int) : iI a * iI b = iI (a * b) := (Int32.ofInt_mul a b).symm
theorem iI_neg (a : Int) : -iI a = iI (-a) := (Int32.ofInt_neg a).symm
theorem iI_t (x : Int32) : iI x.toInt = x := Int32.ofInt_toInt x
theorem t_rn (x : Int32) : zrn x.toInt := by
  have h1 := x.toInt_lt
  have h2 := x.le_toInt
  omega
theorem t_iI {z : Int} (h : zrn z) : (iI z).toInt = z := Int32.toInt_ofInt_of_le (by omega) (by omega)
theorem iI_lt {a b : Int} (ha : zrn a) (hb : zrn b) : (iI a < iI b) = (a < b) := by rw [zlt32, t_iI ha, t_iI hb]
theorem iI_inj {a b : Int} (ha : zrn a) (hb : zrn b) (h : iI a = iI b) : a = b := by
  have := congrArg Int32.toInt h
  rwa [t_iI ha, t_iI hb] at this
theorem iI_eq {a b : Int} (ha : zrn a) (hb : zrn b) : (iI a = iI b) = (a = b) := propext ⟨iI_inj ha hb, fun h => h ▸ rfl⟩
theorem iI_N {z : Int} (h0 : 0 ≤ z) (h : z ≤ 2147483647) : Int32.toNatClampNeg (iI z) = z.toNat := Int32.toNatClampNeg_ofInt_of_le (by omega) (by omega)
theorem iI_Nn {n : Nat} (h : n ≤ 2147483647) : Int32.toNatClampNeg (iI (n : Int)) = n := by
  rw [iI_N (by omega) (by omega)]
  omega
theorem iI_in {z : Int} {n : Nat} (h0 : 0 ≤ z) (h : z < n) (hn : n ≤ 1000) : zin (iI z) n = true := by
  refine zin_rg ?_
  show _ ≤ (iI z).toInt ∧ (iI z).toInt ≤ _
  rw [t_iI (by omega)]
  omega
theorem iI_ub (z : Int) {x : Int32} (h : x = iI z) (hz : zrn z) : x.toInt = z := by rw [h, t_iI hz]
theorem iI_Nk {z : Int} {n : Nat} (e : z = n) (h : n ≤ 2147483647) : Int32.toNatClampNeg (iI z) = n := by rw [e, iI_Nn h]
theorem iI_ink {z : Int} {k n : Nat} (e : z = k) (h : k < n) (hn : n ≤ 1000) : zin (iI z) n = true := iI_in (by omega) (by omega) hn
theorem zin_N {x : Int32} {n : Nat} (h : zin x n = true) : ∃ k : Nat, k < n ∧ x = iI k := by
  unfold zin at h
  rw [Bool.and_eq_true] at h
  have h1 : (0 : Int32) ≤ x := of_decide_eq_true h.1
  have h2 := Nat.blt_eq.mp h.2
  refine ⟨x.toNatClampNeg, h2, ?_⟩
  rw [Int32.le_iff_toInt_le] at h1
  have z : (0 : Int32).toInt = 0 := by decide
  rw [z] at h1
  have e : x.toNatClampNeg = x.toInt.toNat := rfl
  have e2 : ((x.toNatClampNeg : Nat) : Int) = x.toInt := by omega
  rw [e2, iI_t]
theorem zfn {σ : zM} {g k i : Nat} {v : Int32} {g' k' : Nat} (h : ¬ (g' = g ∧ k' = k)) : (zwI σ g k i v).1 g' k' = σ.1 g' k' := funext fun j => if_neg fun z => h ⟨z.1, z.2.1⟩
theorem zfe {σ : zM} {g k i : Nat} {v : Int32} {g' k' j : Nat} (h : ¬ (g' = g ∧ k' = k ∧ j = i)) : (zwI σ g k i v).1 g' k' j = σ.1 g' k' j := if_neg h
theorem zfs {σ : zM} {g k i : Nat} {v : Int32} : (zwI σ g k i v).1 g k i = v := if_pos ⟨rfl, rfl, rfl⟩
theorem zwpI {X : zR} {P Q : Int32 → Int64 → zM → Prop} (h : zwp X P) (h2 : zwp X Q) : zwp X (fun a b σ => P a b σ ∧ Q a b σ) := by
  obtain ⟨a, b, σ, e, h⟩ := h
  obtain ⟨a2, b2, σ2, e2, h2⟩ := h2
  rw [e] at e2
  cases e2
  exact ⟨a, b, σ, e, h, h2⟩
theorem zwp_b {X : zR} {f : Int32 × Int64 × zM → zR} {P Q : Int32 → Int64 → zM → Prop} (h : zwp X Q) (h2 : ∀ a b σ, Q a b σ → zwp (f (a, b, σ)) P) : zwp (X.bind f) P := zwp_bind (zwp_mono h h2)
theorem zwp_eb {X : zR} {a b σ} {f : Int32 × Int64 × zM → zR} {P : Int32 → Int64 → zM → Prop} (h : X = some (a, b, σ)) (h2 : zwp (f (a, b, σ)) P) : zwp (X.bind f) P := by rw [h]; exact h2
def zB (b : Bool) : Int32 := bif b then 1 else 0
theorem zB_0 {b : Bool} : (zB b = 0) = (b = false) := by cases b <;> decide
theorem zB_1 {b : Bool} : (zB b = 1) = (b = true) := by cases b <;> decide
theorem zB_g {b : Bool} {x : zR} : zgd (zret 3 (zB b)) x = x := by cases b <;> exact zgd_t rfl
theorem zB_d {P : Prop} {hP : Decidable P} {σ : zM} : (if P then zgd (zret 3 1) (some (1, 0, σ)) else zgd (zret 3 0) (some (0, 0, σ))) = (some (zB (decide P), 0, σ) : zR) := by
  by_cases h : P
  · rw [if_pos h, zg31, decide_eq_true h]; rfl
  · rw [if_neg h, zg30, decide_eq_false h]; rfl
theorem zB_n {P : Prop} {hP : Decidable P} {σ : zM} : (if P then zgd (zret 3 0) (some (0, 0, σ)) else zgd (zret 3 1) (some (1, 0, σ))) = (some (zB (!decide P), 0, σ) : zR) := by
  by_cases h : P
  · rw [if_pos h, zg30, decide_eq_true h]; rfl
  · rw [if_neg h, zg31, decide_eq_false h]; rfl
theorem zB_t : (1 : Int32) = zB true := rfl
theorem zB_f : (0 : Int32) = zB false := rfl
theorem zbif {b : Bool} {x y : zR} : (if b = false then x else y) = (if b = true then y else x) := by cases b <;> rfl
def zsum (f : Nat → Int) : Nat → Int
  | 0 => 0
  | n + 1 => zsum f n + f n
theorem zsum_congr {f g : Nat → Int} : ∀ {n : Nat}, (∀ i, i < n → f i = g i) → zsum f n = zsum g n
  | 0, _ => rfl
  | n + 1, h => by
    show zsum f n + f n = zsum g n + g n
    rw [zsum_congr (fun i hi => h i (by omega)), h n (by omega)]
theorem zsum_le {f : Nat → Int} {a b : Int} : ∀ {n : Nat}, (∀ i, i < n → a ≤ f i ∧ f i ≤ b) → n * a ≤ zsum f n ∧ zsum f n ≤ n * b
  | 0, _ => by simp [zsum]
  | n + 1, h => by
    have h1 := zsum_le (n := n) (fun i hi => h i (by omega))
    have h2 := h n (by omega)
    have e1 : ((n + 1 : Nat) : Int) * a = n * a + a := by rw [Int.natCast_add, Int.add_mul]; simp
    have e2 : ((n + 1 : Nat) : Int) * b = n * b + b := by rw [Int.natCast_add, Int.add_mul]; simp
    show _ ≤ zsum f n + f n ∧ zsum f n + f n ≤ _
    rw [e1, e2]
    omega
theorem zloop {n : Nat} {P : Nat → Prop} (h0 : P n) (hs : ∀ i, i < n → P (i + 1) → P i) : ∀ {i : Nat}, i ≤ n → P i := by
  intro i hi
  have key : ∀ m i, i + m = n → P i := by
    intro m
    induction m with
    | zero => intro i e; rw [show i = n by omega]; exact h0
    | succ m ih => intro i e; exact hs i (by omega) (ih (i + 1) (by omega))
  exact key (n - i) i (by omega)
def bt (x : Int32) (i : Nat) : Bool := x.toBitVec.getLsbD i
theorem b_ext {x y : Int32} (h : ∀ i, i < 32 → bt x i = bt y i) : x = y := Int32.toBitVec_inj.mp (BitVec.eq_of_getLsbD_eq (fun i hi => h i hi))
theorem b_or (x y : Int32) (i : Nat) : bt (x ||| y) i = (bt x i || bt y i) := by unfold bt; rw [Int32.toBitVec_or, BitVec.getLsbD_or]
theorem b_and (x y : Int32) (i : Nat) : bt (x &&& y) i = (bt x i && bt y i) := by unfold bt; rw [Int32.toBitVec_and, BitVec.getLsbD_and]
theorem b_xor (x y : Int32) (i : Nat) : bt (x ^^^ y) i = (bt x i ^^ bt y i) := by unfold bt; rw [Int32.toBitVec_xor, BitVec.getLsbD_xor]
theorem b_big {x : Int32} {i : Nat} (h : 32 ≤ i) : bt x i = false := BitVec.getLsbD_of_ge _ _ h
theorem b_255 (i : Nat) : bt 255 i = decide (i < 8) := by
  rcases Nat.lt_or_ge i 32 with h | h
  · exact (by decide +kernel : ∀ i, i < 32 → bt 255 i = decide (i < 8)) i h
  · rw [b_big h, decide_eq_false (by omega)]
theorem b_65535 (i : Nat) : bt 65535 i = decide (i < 16) := by
  rcases Nat.lt_or_ge i 32 with h | h
  · exact (by decide +kernel : ∀ i, i < 32 → bt 65535 i = decide (i < 16)) i h
  · rw [b_big h, decide_eq_false (by omega)]
theorem b_m1 : ∀ i, i < 32 → bt (-1) i = true := by decide +kernel
theorem b_0 (i : Nat) : bt 0 i = false := BitVec.getLsbD_zero
theorem s_l : ∀ n, n < 32 → ((nI n &&& 31).toBitVec.smod 32).toNat = n := by decide +kernel
theorem s_u : ∀ n, n < 32 → (((nI n).toUInt32 &&& Int32.toUInt32 31).toBitVec % 32).toNat = n := by decide +kernel
theorem b_shl (n : Nat) (hn : n < 32) (x : Int32) {i : Nat} (hi : i < 32) : bt (x <<< (nI n &&& 31)) i = (decide (n ≤ i) && bt x (i - n)) := by
  unfold bt
  rw [Int32.toBitVec_shiftLeft]
  show (x.toBitVec <<< ((nI n &&& 31).toBitVec.smod 32).toNat).getLsbD i = _
  rw [s_l n hn, BitVec.getLsbD_shiftLeft]
  rcases Nat.lt_or_ge i n with h | h
  · simp [h, Nat.not_le.mpr h]
  · simp [hi, h, Nat.not_lt.mpr h]
theorem b_ushr (n : Nat) (hn : n < 32) (x : Int32) (i : Nat) : bt ((x.toUInt32 >>> ((nI n).toUInt32 &&& Int32.toUInt32 31)).toInt32) i = bt x (n + i) := by
  show (x.toUInt32 >>> ((nI n).toUInt32 &&& Int32.toUInt32 31)).toBitVec.getLsbD i = x.toUInt32.toBitVec.getLsbD (n + i)
  rw [UInt32.toBitVec_shiftRight]
  show (x.toUInt32.toBitVec >>> (((nI n).toUInt32 &&& Int32.toUInt32 31).toBitVec % 32).toNat).getLsbD i = _
  rw [s_u n hn, BitVec.getLsbD_ushiftRight]
theorem b_sshr (n : Nat) (hn : n < 32) (x : Int32) {i : Nat} (hi : i < 32) : bt (x >>> (nI n &&& 31)) i = if n + i < 32 then bt x (n + i) else bt x 31 := by
  unfold bt
  rw [Int32.toBitVec_shiftRight]
  show (x.toBitVec.sshiftRight ((nI n &&& 31).toBitVec.smod 32).toNat).getLsbD i = _
  rw [s_l n hn, BitVec.getLsbD_sshiftRight, BitVec.msb_eq_getLsbD_last]
  simp [hi]
theorem b_shl8 (x : Int32) {i : Nat} (hi : i < 32) : bt (x <<< ((8 : Int32) &&& 31)) i = (decide (8 ≤ i) && bt x (i - 8)) := b_shl 8 (by omega) x hi
theorem b_shl16 (x : Int32) {i : Nat} (hi : i < 32) : bt (x <<< ((16 : Int32) &&& 31)) i = (decide (16 ≤ i) && bt x (i - 16)) := b_shl 16 (by omega) x hi
theorem b_shl24 (x : Int32) {i : Nat} (hi : i < 32) : bt (x <<< ((24 : Int32) &&& 31)) i = (decide (24 ≤ i) && bt x (i - 24)) := b_shl 24 (by omega) x hi
theorem b_sshr8 (x : Int32) {i : Nat} (hi : i < 32) : bt (x >>> ((8 : Int32) &&& 31)) i = if 8 + i < 32 then bt x (8 + i) else bt x 31 := b_sshr 8 (by omega) x hi
theorem zlit0 : (0 : Int32) = iI 0 := rfl
theorem zlit1 : (1 : Int32) = iI 1 := rfl
theorem zlit2 : (2 : Int32) = iI 2 := rfl
theorem zlit3 : (3 : Int32) = iI 3 := rfl
theorem zlit4 : (4 : Int32) = iI 4 := rfl
theorem zlit5 : (5 : Int32) = iI 5 := rfl
theorem zlit6 : (6 : Int32) = iI 6 := rfl
theorem zlit7 : (7 : Int32) = iI 7 := rfl
theorem zlit8 : (8 : Int32) = iI 8 := rfl
theorem zlit9 : (9 : Int32) = iI 9 := rfl
theorem zlit10 : (10 : Int32) = iI 10 := rfl
theorem zlit11 : (11 : Int32) = iI 11 := rfl
theorem zlit12 : (12 : Int32) = iI 12 := rfl
theorem zlit13 : (13 : Int32) = iI 13 := rfl
theorem zlit14 : (14 : Int32) = iI 14 := rfl
theorem zlit15 : (15 : Int32) = iI 15 := rfl
theorem zlit16 : (16 : Int32) = iI 16 := rfl
theorem zlit17 : (17 : Int32) = iI 17 := rfl
theorem zlit18 : (18 : Int32) = iI 18 := rfl
theorem zlit19 : (19 : Int32) = iI 19 := rfl
theorem zlit20 : (20 : Int32) = iI 20 := rfl
theorem zlit21 : (21 : Int32) = iI 21 := rfl
theorem zlit22 : (22 : Int32) = iI 22 := rfl
theorem zlit23 : (23 : Int32) = iI 23 := rfl
theorem zlit24 : (24 : Int32) = iI 24 := rfl
theorem zlit25 : (25 : Int32) = iI 25 := rfl
theorem zlit26 : (26 : Int32) = iI 26 := rfl
theorem zlit27 : (27 : Int32) = iI 27 := rfl
theorem zlit28 : (28 : Int32) = iI 28 := rfl
theorem zlit29 : (29 : Int32) = iI 29 := rfl
theorem zlit30 : (30 : Int32) = iI 30 := rfl
theorem zlit31 : (31 : Int32) = iI 31 := rfl
theorem zlit32 : (32 : Int32) = iI 32 := rfl
theorem zlit39 : (39 : Int32) = iI 39 := rfl
theorem zlit40 : (40 : Int32) = iI 40 := rfl
theorem zlit41 : (41 : Int32) = iI 41 := rfl
theorem zlit48 : (48 : Int32) = iI 48 := rfl
theorem zlit50 : (50 : Int32) = iI 50 := rfl
theorem zlit52 : (52 : Int32) = iI 52 := rfl
theorem zlit54 : (54 : Int32) = iI 54 := rfl
theorem zlit57 : (57 : Int32) = iI 57 := rfl
theorem zlit59 : (59 : Int32) = iI 59 := rfl
theorem zlit60 : (60 : Int32) = iI 60 := rfl
theorem zlit61 : (61 : Int32) = iI 61 := rfl
theorem zlit76 : (76 : Int32) = iI 76 := rfl
theorem zlit77 : (77 : Int32) = iI 77 := rfl
theorem zlit87 : (87 : Int32) = iI 87 := rfl
theorem zlit88 : (88 : Int32) = iI 88 := rfl
theorem zlit89 : (89 : Int32) = iI 89 := rfl
theorem zlit90 : (90 : Int32) = iI 90 := rfl
theorem zlit91 : (91 : Int32) = iI 91 := rfl
theorem zlit92 : (92 : Int32) = iI 92 := rfl
theorem zlit96 : (96 : Int32) = iI 96 := rfl
theorem zlit97 : (97 : Int32) = iI 97 := rfl
theorem zlit99 : (99 : Int32) = iI 99 := rfl
theorem zlit100 : (100 : Int32) = iI 100 := rfl
theorem zlit112 : (112 : Int32) = iI 112 := rfl
theorem zlit120 : (120 : Int32) = iI 120 := rfl
theorem zlit122 : (122 : Int32) = iI 122 := rfl
theorem zlit160 : (160 : Int32) = iI 160 := rfl
theorem zlit200 : (200 : Int32) = iI 200 := rfl
theorem zlit201 : (201 : Int32) = iI 201 := rfl
theorem zlit255 : (255 : Int32) = iI 255 := rfl
theorem zlit320 : (320 : Int32) = iI 320 := rfl
theorem zlit999 : (999 : Int32) = iI 999 := rfl
theorem zlit9999 : (9999 : Int32) = iI 9999 := rfl
theorem zlit12345 : (12345 : Int32) = iI 12345 := rfl
theorem zlit1103515245 : (1103515245 : Int32) = iI 1103515245 := rfl
abbrev zS : Type := Nat → Int
def zup (S : zS) (i : Nat) (v : Int) : zS := fun j => if j = i then v else S j
theorem zup_s {S : zS} {i : Nat} {v : Int} : zup S i v i = v := if_pos rfl
theorem zup_n {S : zS} {i j : Nat} {v : Int} (h : ¬ j = i) : zup S i v j = S j := if_neg h
abbrev aB (S : zS) : Nat := (S 0).toNat
abbrev aU (S : zS) : Nat := (S 1).toNat
abbrev aP (S : zS) : Nat := (S 2).toNat
abbrev aR (S : zS) : Nat := (S 3).toNat
def aPar (S : zS) (b : Nat) : Int := S (8 + 5 * b) - 1
def aSeat (S : zS) (p : Nat) : Int := S (54 + 3 * p) - 1
def aBrk (S : zS) (b : Nat) : Bool := decide (S (11 + 5 * b) = 1)
def aAbF (S : zS) : Nat → Nat → Nat → Bool
  | 0, _, _ => false
  | n + 1, c, b => Nat.beq c b || (decide (0 ≤ aPar S c) && aAbF S n (aPar S c).toNat b)
def aAb (S : zS) (c b : Nat) : Bool := aAbF S 9 c b
def aAbI (S : zS) (z : Int) (b : Nat) : Bool := decide (0 ≤ z) && aAb S z.toNat b
def aBear (S : zS) (b : Nat) : Int := S 5 * S (9 + 5 * b) + zsum (fun p => bif aAbI S (aSeat S p) b then S (52 + 3 * p) else 0) ((S 2).toNat)
def zmF (f : Nat → Int32) (c b : Int32) : Int32 := if c = -5 then b else if c = -4 then f 3 else if c = -3 then f 2 else if c = -2 then f 1 else if c = -1 then f 0 else c
def zmH (c x y : Int32) : Bool := if c = -21 then decide (x = 1) && decide (y = 1) else if c = -13 then decide (y < x) else if c = -12 then decide (x = y) else if c = -11 then decide (x < y) else decide (x = 1) || decide (y = 1)
def zmS (f : Nat → Int32) (c : Int32) (st : List Int32) : Option (List Int32) :=
  if -10 < c then some (zmF f c (f 4) :: st) else if c = -20 then (match st with | x :: r => some ((1 - x) :: r) | [] => none) else (match st with | y :: x :: r => some (zB (zmH c x y) :: r) | _ => none)
def zmR (f : Nat → Int32) (code : Nat → Int32) : Nat → Nat → List Int32 → Option (List Int32)
  | 0, _, st => some st
  | n + 1, k, st => (zmS f (code k) st).bind (zmR f code n (k + 1))
def zmE (st : List Int32) : Bool := match st with
  | [] => true
  | _ => decide (st.getLast? = some 1)
def zmC (f : Nat → Int32) (code : Nat → Int32) (k n : Nat) : Option Bool := (zmR f code n k []).map zmE
def zcH (c x y : Int32) : Bool := if c = -10 then !decide (x = 0) && !decide (y = 0) else if c = -9 then !decide (x = 0) || !decide (y = 0) else if c = -8 then decide (y < x) else if c = -7 then decide (x = y) else if c = -6 then decide (x < y) else !decide (x = 0) || !decide (y = 0)
def zcS (f : Nat → Int32) (c : Int32) (st : List Int32) : List Int32 :=
  if c < -5 then (if c = -9 then (match st with | x :: r => (1 - x) :: r | [] => []) else (match st with | y :: x :: r => zB (zcH c x y) :: r | s => s)) else (if st.length < 16 then (if c < 0 then f ((-1) - c).toNatClampNeg else c) :: st else st)
def zcR (f : Nat → Int32) (code : Nat → Int32) : Nat → Nat → List Int32 → List Int32
  | 0, _, st => st
  | n + 1, k, st => zcR f code n (k + 1) (zcS f (code k) st)
def zcE (st : List Int32) : Bool := match st with
  | [] => true
  | x :: _ => !decide (x = 0)
def zcC (f : Nat → Int32) (code : Nat → Int32) (k n : Nat) : Bool := zcE (zcR f code n k [])
def aFct (S : zS) (b : Nat) : Nat → Int32 := fun i => match i with
  | 0 => iI (S 4)
  | 1 => iI (S 5)
  | 2 => iI (S (9 + 5 * b))
  | 3 => iI (S (10 + 5 * b))
  | _ => iI b
def aEnd (S : zS) (k : Nat) : Nat := match k with
  | 0 => 0
  | k + 1 => (S (91 + 4 * k)).toNat
def aCod (S : zS) : Nat → Int32 := fun k => iI (S (120 + k))
def aCnd (S : zS) (b k : Nat) : Bool := (zmC (aFct S b) (aCod S) (aEnd S k) (aEnd S (k + 1) - aEnd S k)) == some true
def aUnd (k a : Int) : Bool := decide (a = 0) || decide (a = k) || decide (a = 2 ∧ k = 3) || decide (a = 4 ∧ k = 5)
def aFst (S : zS) (b : Nat) : Nat → Nat → Option Nat
  | 0, _ => none
  | n + 1, k => bif aUnd (S (7 + 5 * b)) (S (88 + 4 * k)) && aCnd S b k then some k else aFst S b n (k + 1)
def aHlf (S : zS) (b : Nat) (o : Option Nat) : Int := match o with
  | none => S (10 + 5 * b)
  | some k => if S (89 + 4 * k) = 0 then S (10 + 5 * b) + S (90 + 4 * k) else if S (89 + 4 * k) = 1 then (if S (10 + 5 * b) - S (90 + 4 * k) < 0 then 0 else S (10 + 5 * b) - S (90 + 4 * k)) else 0
def aHld (S : zS) (b : Nat) : Int := aHlf S b (aFst S b ((S 1).toNat) 0)
def aKnd (S : zS) (b : Nat) (h : Int) : Int := if S (7 + 5 * b) = 1 then h + 10 * S 4 else if S (7 + 5 * b) = 2 then h / 2 else if S (7 + 5 * b) = 3 then (if h / 2 - S (9 + 5 * b) < 0 then 0 else h / 2 - S (9 + 5 * b)) else if S (7 + 5 * b) = 4 then h + 50 else 2 * (h + 50)
def aHold (S : zS) (b : Nat) : Int := aKnd S b (aHld S b)
def wB (S : zS) : Prop := 0 ≤ S 0 ∧ S 0 ≤ 9 ∧ ∀ b, b < (S 0).toNat → 1 ≤ S (7 + 5 * b) ∧ S (7 + 5 * b) ≤ 5 ∧ 0 ≤ S (8 + 5 * b) ∧ S (8 + 5 * b) ≤ b ∧ 1 ≤ S (9 + 5 * b) ∧ S (9 + 5 * b) ≤ 9 ∧ 1 ≤ S (10 + 5 * b) ∧ S (10 + 5 * b) ≤ 999 ∧ 0 ≤ S (11 + 5 * b) ∧ S (11 + 5 * b) ≤ 1
def wW (S : zS) : Prop := 0 ≤ S 4 ∧ S 4 ≤ 9 ∧ 0 ≤ S 5 ∧ S 5 ≤ 9
def wP (S : zS) : Prop := 0 ≤ S 2 ∧ S 2 ≤ 8 ∧ ∀ p, p < (S 2).toNat → 1 ≤ S (52 + 3 * p) ∧ S (52 + 3 * p) ≤ 200 ∧ 0 ≤ S (53 + 3 * p) ∧ S (53 + 3 * p) ≤ 1 ∧ 0 ≤ S (54 + 3 * p) ∧ S (54 + 3 * p) ≤ S 0
def wR (S : zS) : Prop := 0 ≤ S 3 ∧ S 3 ≤ 6 ∧ ∀ r, r < (S 3).toNat → 0 ≤ S (76 + 2 * r) ∧ S (76 + 2 * r) < S 0 ∧ 0 ≤ S (77 + 2 * r) ∧ S (77 + 2 * r) ≤ 1
def wU (S : zS) : Prop := 0 ≤ S 1 ∧ S 1 ≤ 8 ∧ ∀ k, k < (S 1).toNat → 0 ≤ S (88 + 4 * k) ∧ S (88 + 4 * k) ≤ 5 ∧ 0 ≤ S (89 + 4 * k) ∧ S (89 + 4 * k) ≤ 2 ∧ 0 ≤ S (90 + 4 * k) ∧ S (90 + 4 * k) ≤ 999 ∧ aEnd S k ≤ aEnd S (k + 1) ∧ aEnd S (k + 1) ≤ 200 ∧ 0 ≤ S (91 + 4 * k) ∧ ∀ f, zmC f (aCod S) (aEnd S k) (aEnd S (k + 1) - aEnd S k) ≠ none
def wA (S : zS) : Prop := wB S ∧ wW S ∧ wP S ∧ wR S ∧ wU S ∧ zrn (S 6)
def mS (k : Nat) (S : zS) (σ : zM) : Prop := ∀ i, i < 320 → σ.1 0 k i = iI (S i)
def cE (z : Int) : Int := if z < 0 then -9 else z
def cB (g : Nat) (S : zS) (σ : zM) : Prop := σ.1 g 1 0 = iI (S 0) ∧ ∀ b, b < (S 0).toNat → σ.1 g 2 b = iI (S (7 + 5 * b)) ∧ σ.1 g 3 b = iI (cE (aPar S b)) ∧ σ.1 g 4 b = iI (S (9 + 5 * b)) ∧ σ.1 g 5 b = iI (S (10 + 5 * b)) ∧ ∀ u, u < 9 → bt (σ.1 g 6 b) u = aAb S b u
def cK (g : Nat) (S : zS) (σ : zM) : Prop := ∀ b, b < 9 → bt (σ.1 g 1 6) b = (decide (b < (S 0).toNat) && aBrk S b)
def cW (g : Nat) (S : zS) (σ : zM) : Prop := σ.1 g 1 7 = iI (S 4) ∧ σ.1 g 1 8 = iI (S 5)
def cP (g : Nat) (S : zS) (σ : zM) : Prop := σ.1 g 15 0 = iI (S 2) ∧ ∀ p, p < (S 2).toNat → σ.1 g 16 p = iI (S (52 + 3 * p)) ∧ σ.1 g 17 p = iI (S (53 + 3 * p)) ∧ σ.1 g 18 p = iI (cE (aSeat S p))
def cR (g : Nat) (S : zS) (σ : zM) : Prop := σ.1 g 19 0 = iI (S 3) ∧ ∀ r, r < (S 3).toNat → σ.1 g 20 r = iI (S (76 + 2 * r)) ∧ σ.1 g 21 r = iI (S (77 + 2 * r))
def cD (z : Int) : Int := -16 - z
def cEn (e : Nat → Int32) (k : Nat) : Nat := match k with
  | 0 => 0
  | k + 1 => (e k).toNatClampNeg
def cU (g : Nat) (S : zS) (σ : zM) : Prop := σ.1 g 7 0 = iI (S 1) ∧ ∀ k, k < (S 1).toNat → σ.1 g 8 k = iI (S (88 + 4 * k)) ∧ σ.1 g 9 k = iI (cD (S (89 + 4 * k))) ∧ (S (89 + 4 * k) < 2 → σ.1 g 10 k = iI (S (90 + 4 * k))) ∧ σ.1 g 11 k = iI (cEn (σ.1 g 11) (k + 1) : Nat) ∧ cEn (σ.1 g 11) k ≤ cEn (σ.1 g 11) (k + 1) ∧ cEn (σ.1 g 11) (k + 1) ≤ 200 ∧ ∀ f, zmC f (aCod S) (aEnd S k) (aEnd S (k + 1) - aEnd S k) = some (zcC f (σ.1 g 12) (cEn (σ.1 g 11) k) (cEn (σ.1 g 11) (k + 1) - cEn (σ.1 g 11) k))
def cZ (g : Nat) (S : zS) (σ : zM) : Prop := σ.1 g 0 3 = iI (S 6)
def cA (g : Nat) (S : zS) (σ : zM) : Prop := cB g S σ ∧ cK g S σ ∧ cW g S σ ∧ cP g S σ ∧ cR g S σ ∧ cU g S σ ∧ cZ g S σ
def zFr (W : Nat → Nat → Nat → Prop) (σ τ : zM) : Prop := (∀ g k i, ¬ W g k i → τ.1 g k i = σ.1 g k i) ∧ τ.2 = σ.2
theorem zFr_r {W} (σ : zM) : zFr W σ σ := ⟨fun _ _ _ _ => rfl, rfl⟩
theorem zFr_t {W W1 W2 : Nat → Nat → Nat → Prop} {σ τ υ : zM} (h1 : zFr W1 σ τ) (h2 : zFr W2 τ υ) (a : ∀ g k i, W1 g k i → W g k i) (b : ∀ g k i, W2 g k i → W g k i) : zFr W σ υ := ⟨fun g k i h => (h2.1 g k i (fun q => h (b g k i q))).trans (h1.1 g k i (fun q => h (a g k i q))), h2.2.trans h1.2⟩
theorem zFr_tt {W : Nat → Nat → Nat → Prop} {σ τ υ : zM} (h1 : zFr W σ τ) (h2 : zFr W τ υ) : zFr W σ υ := zFr_t h1 h2 (fun _ _ _ q => q) (fun _ _ _ q => q)
theorem zFr_w {W : Nat → Nat → Nat → Prop} {σ : zM} {g k i : Nat} {v : Int32} (h : W g k i) : zFr W σ (zwI σ g k i v) := ⟨fun g' k' i' q => if_neg fun z => q (by rw [z.1, z.2.1, z.2.2]; exact h), rfl⟩
theorem zFr_i {W W1 : Nat → Nat → Nat → Prop} {σ τ : zM} (h1 : zFr W1 σ τ) (a : ∀ g k i, W1 g k i → W g k i) : zFr W σ τ := ⟨fun g k i h => h1.1 g k i (fun q => h (a g k i q)), h1.2⟩
theorem zFr_f {W : Nat → Nat → Nat → Prop} {σ τ : zM} (h : zFr W σ τ) {g k : Nat} (q : ∀ i, ¬ W g k i) : τ.1 g k = σ.1 g k := funext fun i => h.1 g k i (q i)
theorem zBi {b : Bool} {x y : zR} : (if zB b = 0 then x else y) = (bif b then y else x) := by cases b <;> rfl
theorem zBj {b : Bool} {x y : zR} : (if zB b = 1 then x else y) = (bif b then x else y) := by cases b <;> rfl
theorem nI_iI (n : Nat) : nI n = iI n := (Int32.ofInt_eq_ofNat).symm
theorem zint {z : Int} (h : 0 ≤ z) : ∃ n : Nat, z = n := ⟨z.toNat, by omega⟩
theorem zrg_B {p : Int32} {l h : Int} {σ : zM} : (some (if zrg l p h then (1 : Int32) else 0, 0, σ) : zR) = some (zB (decide (l ≤ p.toInt ∧ p.toInt ≤ h)), 0, σ) := by
  by_cases q : l ≤ p.toInt ∧ p.toInt ≤ h
  · rw [if_pos q, decide_eq_true q]; rfl
  · rw [if_neg q, decide_eq_false q]; rfl
theorem zdec {P Q : Prop} {hP : Decidable P} {hQ : Decidable Q} (h : P ↔ Q) : decide P = decide Q := decide_eq_decide.mpr h
theorem zbit {x : Int32} {u : Nat} (hu : u < 32) : (((x >>> (iI u &&& 31)) &&& 1) = 0) = (bt x u = false) := by
  rw [← nI_iI]
  have b1 : ∀ i, i < 32 → bt 1 i = decide (i = 0) := by decide +kernel
  refine propext ⟨fun h => ?_, fun h => ?_⟩
  · have := congrArg (fun y => bt y 0) h
    simp only [b_and, b_sshr u hu x (show 0 < 32 by decide), b1 0 (by decide), b_0] at this
    simpa [hu] using this
  · refine b_ext fun i hi => ?_
    rw [b_and, b_sshr u hu x hi, b1 i hi, b_0]
    by_cases q : i = 0
    · subst q; simp [hu, h]
    · simp [q]
theorem zc145 {d : Nat} {x : Int32} {u : Nat} {σ : zM} (hu : u < 32) : zev (d + 1) 145 [.inl x, .inl (iI u)] σ = some (zB (bt x u), 0, σ) := by
  rw [ez_145]
  show (if ((x >>> (iI u &&& 31)) &&& 1) = 0 then _ else _) = _
  simp only [zbit hu]
  cases bt x u
  · exact zgd_t rfl
  · exact zgd_t rfl
theorem zc141 {d : Nat} {z l h : Int} {σ : zM} (hz : zrn z) (hl : zrn l) (hh : zrn h) : zev (d + 1) 141 [.inl (iI z), .inl (iI l), .inl (iI h)] σ = some (zB (decide (l ≤ z ∧ z ≤ h)), 0, σ) := by
  rw [F141, zrg_B, t_iI hz, t_iI hl, t_iI hh]
theorem zc13 {d g : Nat} {S : zS} {σ : zM} {z : Int} (h : σ.1 g 1 0 = iI (S 0)) (w : 0 ≤ S 0 ∧ S 0 ≤ 9) (hz : zrn z) : zev (d + 1) 13 [.inr (.inr (g, 1)), .inl (iI z)] σ = some (zB (decide (0 ≤ z ∧ z < S 0)), 0, σ) := by
  rw [F13, h, zrg_B, t_iI hz, t_iI (by omega)]
  rw [zdec (show (0 ≤ z ∧ z ≤ S 0 - 1) ↔ (0 ≤ z ∧ z < S 0) by omega)]
theorem zc37 {d g : Nat} {S : zS} {σ : zM} {z : Int} (h : σ.1 g 15 0 = iI (S 2)) (w : 0 ≤ S 2 ∧ S 2 ≤ 8) (hz : zrn z) : zev (d + 1) 37 [.inr (.inr (g, 15)), .inl (iI z)] σ = some (zB (decide (0 ≤ z ∧ z < S 2)), 0, σ) := by
  rw [F37, h, zrg_B, t_iI hz, t_iI (by omega)]
  rw [zdec (show (0 ≤ z ∧ z ≤ S 2 - 1) ↔ (0 ≤ z ∧ z < S 2) by omega)]
theorem zc14 {d g : Nat} {S : zS} {σ : zM} {z : Int} (hB : cB g S σ) (hK : cK g S σ) (w : wB S) (hz : zrn z) : zev (d + 2) 14 [.inr (.inr (g, 1)), .inl (iI z)] σ = some (zB (decide (0 ≤ z ∧ z < S 0) && !aBrk S z.toNat), 0, σ) := by
  have w0 := w.1
  have w1 := w.2.1
  rw [ez_14]
  simp only [zc13 hB.1 ⟨w0, w1⟩ hz, zbs, zBi]
  by_cases q : 0 ≤ z ∧ z < S 0
  · obtain ⟨n, rfl⟩ := zint q.1
    simp only [decide_eq_true q, cond_true, zc145 (show n < 32 by omega), zbs, zBi, hK n (by omega), Int.toNat_natCast, decide_eq_true (show n < (S 0).toNat by omega), Bool.true_and]
    cases aBrk S n
    · exact zgd_t rfl
    · exact zgd_t rfl
  · simp only [decide_eq_false q, cond_false, Bool.false_and]
    exact zgd_t rfl
theorem aAb_s {S : zS} {c : Nat} : aAb S c c = true := by
  show (Nat.beq c c || _) = true
  rw [Nat.beq_refl]
  rfl
theorem zc15 {d g : Nat} {S : zS} {σ : zM} {z : Int} {u : Nat} (hB : cB g S σ) (w : 0 ≤ S 0 ∧ S 0 ≤ 9) (hz : -1 ≤ z ∧ z < S 0) (hu : u < 9) : zev (d + 2) 15 [.inr (.inr (g, 1)), .inl (iI (cE z)), .inl (iI u)] σ = some (zB (aAbI S z u), 0, σ) := by
  rw [ez_15]
  have hc : zrn (cE z) := by unfold cE; split <;> omega
  simp only [zc13 hB.1 w hc, zbs, zBi]
  unfold cE aAbI
  by_cases q : z < 0
  · rw [if_pos q, decide_eq_false (by omega), decide_eq_false (show ¬ 0 ≤ z by omega)]
    exact zgd_t rfl
  · rw [if_neg q, decide_eq_true (by omega), decide_eq_true (show 0 ≤ z by omega)]
    obtain ⟨n, rfl⟩ := zint (show 0 ≤ z by omega)
    simp only [cond_true, zgd_t (iI_ink (k := n) rfl (show n < 9 by omega) (by decide)), iI_Nn (show n ≤ 2147483647 by omega), zc145 (show u < 32 by omega), zbs, zBi, Int.toNat_natCast, Bool.true_and]
    rw [(hB.2 n (by omega)).2.2.2.2 u hu]
    cases aAb S n u
    · exact zgd_t rfl
    · exact zgd_t rfl
theorem zc15n {d g : Nat} {S : zS} {σ : zM} {b u : Nat} (hB : cB g S σ) (w : 0 ≤ S 0 ∧ S 0 ≤ 9) (hb : b < (S 0).toNat) (hu : u < 9) : zev (d + 2) 15 [.inr (.inr (g, 1)), .inl (iI b), .inl (iI u)] σ = some (zB (aAb S b u), 0, σ) := by
  have h := zc15 (d := d) (z := b) (u := u) hB w ⟨by omega, by omega⟩ hu
  have e : cE (b : Int) = b := if_neg (by omega)
  have e2 : aAbI S (b : Int) u = aAb S b u := by
    unfold aAbI
    rw [decide_eq_true (show (0 : Int) ≤ b by omega), Bool.true_and, Int.toNat_natCast]
  rwa [e, e2] at h
theorem zund {k a : Int} : aUnd k a = (decide (a = 0) || (decide (a = k) || (bif decide (a = 2) then (bif decide (k = 3) then true else false) else (bif decide (a = 4) then (bif decide (k = 5) then true else false) else false)))) := by
  unfold aUnd
  by_cases h0 : a = 0 <;> by_cases h1 : a = k <;> by_cases h2 : a = 2 <;> by_cases h3 : k = 3 <;> by_cases h4 : a = 4 <;> by_cases h5 : k = 5 <;> simp [h0, h1, h2, h3, h4, h5] <;> omega
theorem zc146 {d : Nat} {k a : Int} {σ : zM} (hk : 0 ≤ k ∧ k ≤ 5) (ha : 0 ≤ a ∧ a ≤ 5) : zev (d + 1) 146 [.inl (iI k), .inl (iI a)] σ = some (zB (aUnd k a), 0, σ) := by
  have hkk : k = 0 ∨ k = 1 ∨ k = 2 ∨ k = 3 ∨ k = 4 ∨ k = 5 := by omega
  have haa : a = 0 ∨ a = 1 ∨ a = 2 ∨ a = 3 ∨ a = 4 ∨ a = 5 := by omega
  rw [ez_146]
  rcases hkk with rfl | rfl | rfl | rfl | rfl | rfl <;> rcases haa with rfl | rfl | rfl | rfl | rfl | rfl <;> first | exact zgd_t (b := zret 3 1) rfl | exact zgd_t (b := zret 3 0) rfl
theorem zm161 {d : Nat} {k a : Int} {σ : zM} (hk : 0 ≤ k ∧ k ≤ 5) (ha : 0 ≤ a ∧ a ≤ 5) : zev (d + 1) 161 [.inl (iI k), .inl (iI a)] σ = some (zB (aUnd k a), 0, σ) := by
  have hkk : k = 0 ∨ k = 1 ∨ k = 2 ∨ k = 3 ∨ k = 4 ∨ k = 5 := by omega
  have haa : a = 0 ∨ a = 1 ∨ a = 2 ∨ a = 3 ∨ a = 4 ∨ a = 5 := by omega
  rw [ez_161]
  rcases hkk with rfl | rfl | rfl | rfl | rfl | rfl <;> rcases haa with rfl | rfl | rfl | rfl | rfl | rfl <;> first | exact zgd_t (b := zret 3 1) rfl | exact zgd_t (b := zret 3 0) rfl
theorem zm149 {d : Nat} {z : Int} {l h : Int64} {σ : zM} (hz : zrn z) : zev (d + 1) 149 [.inr (.inl (Int32.toInt64 (iI z))), .inr (.inl l), .inr (.inl h)] σ = some (zB (decide (l.toInt ≤ z ∧ z ≤ h.toInt)), 0, σ) := by
  rw [F149, zrg_B, t_iI hz]
theorem zt64 {z : Int} (hz : zrn z) : (Int32.toInt64 (iI z)).toInt = z := by rw [Int32.toInt_toInt64, t_iI hz]
theorem zm155 {d : Nat} {b w : Nat} {σ : zM} : zev (d + 1) 155 [.inl (iI b), .inl (iI w)] σ = some (iI ((7 + 5 * b + w : Nat) : Int), 0, σ) := by
  rw [ez_155]
  show (some (iI 7 + iI 5 * iI b + iI w, 0, σ) : zR) = _
  rw [iI_mul, iI_add, iI_add]
  congr 3
theorem zm177 {d : Nat} {p w : Nat} {σ : zM} : zev (d + 1) 177 [.inl (iI p), .inl (iI w)] σ = some (iI ((52 + 3 * p + w : Nat) : Int), 0, σ) := by
  rw [ez_177]
  show (some (iI 52 + iI 3 * iI p + iI w, 0, σ) : zR) = _
  rw [iI_mul, iI_add, iI_add]
  congr 3
theorem zm156 {d : Nat} {b w : Nat} {S : zS} {σ : zM} (h : mS 61 S σ) (hi : 7 + 5 * b + w < 320) : zev (d + 2) 156 [.inr (.inr (0, 60)), .inl (iI b), .inl (iI w)] σ = some (iI (S (7 + 5 * b + w)), 0, σ) := by
  rw [ez_156]
  simp only [zm155, zbs, zgd_t (iI_ink (k := 7 + 5 * b + w) rfl hi (by decide)), iI_Nn (show 7 + 5 * b + w ≤ 2147483647 by omega), h _ hi]
theorem zm178 {d : Nat} {p w : Nat} {S : zS} {σ : zM} (h : mS 61 S σ) (hi : 52 + 3 * p + w < 320) : zev (d + 2) 178 [.inr (.inr (0, 60)), .inl (iI p), .inl (iI w)] σ = some (iI (S (52 + 3 * p + w)), 0, σ) := by
  rw [ez_178]
  simp only [zm177, zbs, zgd_t (iI_ink (k := 52 + 3 * p + w) rfl hi (by decide)), iI_Nn (show 52 + 3 * p + w ≤ 2147483647 by omega), h _ hi]
theorem zm157 {d : Nat} {b : Nat} {S : zS} {σ : zM} (h : mS 61 S σ) (hi : b < 9) (w : 0 ≤ S (11 + 5 * b) ∧ S (11 + 5 * b) ≤ 1) : zev (d + 3) 157 [.inr (.inr (0, 60)), .inl (iI b)] σ = some (zB (aBrk S b), 0, σ) := by
  rw [ez_157]
  have e := zm156 (d := d) (b := b) (w := 4) h (by omega)
  rw [show 7 + 5 * b + 4 = 11 + 5 * b by omega] at e
  show (Option.bind (zev (d + 2) 156 [.inr (.inr (0, 60)), .inl (iI b), .inl (iI (4 : Nat))] σ) _) = _
  rw [e]
  simp only [zbs]
  unfold aBrk
  rcases (show S (11 + 5 * b) = 0 ∨ S (11 + 5 * b) = 1 by omega) with q | q
  · rw [q]; exact zgd_t rfl
  · rw [q]; exact zgd_t rfl
theorem zm158 {d : Nat} {b : Nat} {S : zS} {σ : zM} (h : mS 61 S σ) (hi : b < 9) : zev (d + 3) 158 [.inr (.inr (0, 60)), .inl (iI b)] σ = some (iI (aPar S b), 0, σ) := by
  rw [ez_158]
  have e := zm156 (d := d) (b := b) (w := 1) h (by omega)
  rw [show 7 + 5 * b + 1 = 8 + 5 * b by omega] at e
  show (Option.bind (zev (d + 2) 156 [.inr (.inr (0, 60)), .inl (iI b), .inl (iI (1 : Nat))] σ) _) = _
  rw [e]
  show (some (iI (S (8 + 5 * b)) - iI 1, 0, σ) : zR) = _
  rw [iI_sub]
  rfl
theorem zm179 {d : Nat} {p : Nat} {S : zS} {σ : zM} (h : mS 61 S σ) (hi : p < 8) : zev (d + 3) 179 [.inr (.inr (0, 60)), .inl (iI p)] σ = some (iI (aSeat S p), 0, σ) := by
  rw [ez_179]
  have e := zm178 (d := d) (p := p) (w := 2) h (by omega)
  rw [show 52 + 3 * p + 2 = 54 + 3 * p by omega] at e
  show (Option.bind (zev (d + 2) 178 [.inr (.inr (0, 60)), .inl (iI p), .inl (iI (2 : Nat))] σ) _) = _
  rw [e]
  show (some (iI (S (54 + 3 * p)) - iI 1, 0, σ) : zR) = _
  rw [iI_sub]
  rfl
theorem zm180 {d : Nat} {p : Nat} {z : Int} {σ : zM} (hi : p < 8) : zev (d + 2) 180 [.inr (.inr (0, 60)), .inl (iI p), .inl (iI z)] σ = some (0, 0, zwI σ 0 61 (54 + 3 * p) (iI (z + 1))) := by
  rw [ez_180]
  show (Option.bind (zev (d + 1) 177 [.inl (iI p), .inl (iI (2 : Nat))] σ) _) = _
  rw [zm177]
  simp only [zbs, zgd_t (iI_ink (k := 54 + 3 * p) (show ((52 + 3 * p + 2 : Nat) : Int) = (54 + 3 * p : Nat) by omega) (show 54 + 3 * p < 320 by omega) (by decide)), iI_Nk (n := 54 + 3 * p) (show ((52 + 3 * p + 2 : Nat) : Int) = (54 + 3 * p : Nat) by omega) (by omega)]
  show (some (0, 0, zwI σ 0 61 (54 + 3 * p) (iI z + iI 1)) : zR) = _
  rw [iI_add]
theorem zm150 {d : Nat} {S : zS} {z : Int} {σ : zM} (h : mS 61 S σ) (w : 0 ≤ S 0 ∧ S 0 ≤ 9) (hz : zrn z) : zev (d + 2) 150 [.inr (.inr (0, 60)), .inl (iI z)] σ = some (zB (decide (0 ≤ z ∧ z < S 0)), 0, σ) := by
  have e := h 0 (by decide)
  rw [F150 (by rw [e, t_iI (by omega)]; omega), e, zrg_B, t_iI hz, t_iI (by omega)]
  rw [zdec (show (0 ≤ z ∧ z ≤ S 0 - 1) ↔ (0 ≤ z ∧ z < S 0) by omega)]
theorem zm151 {d : Nat} {S : zS} {z : Int} {σ : zM} (h : mS 61 S σ) (w : 0 ≤ S 2 ∧ S 2 ≤ 8) (hz : zrn z) : zev (d + 2) 151 [.inr (.inr (0, 60)), .inl (iI z)] σ = some (zB (decide (0 ≤ z ∧ z < S 2)), 0, σ) := by
  have e := h 2 (by decide)
  rw [F151 (by rw [e, t_iI (by omega)]; omega), e, zrg_B, t_iI hz, t_iI (by omega)]
  rw [zdec (show (0 ≤ z ∧ z ≤ S 2 - 1) ↔ (0 ≤ z ∧ z < S 2) by omega)]
theorem mS_w {k : Nat} {S : zS} {σ : zM} {i : Nat} {v : Int} (h : mS k S σ) : mS k (zup S i v) (zwI σ 0 k i (iI v)) := by
  intro j hj
  rw [zrd]
  unfold zup
  by_cases q : j = i
  · rw [if_pos ⟨rfl, rfl, q⟩, if_pos q]
  · rw [if_neg (fun z => q z.2.2), if_neg q]
    exact h j hj
theorem mS_f {k : Nat} {S : zS} {σ τ : zM} (h : mS k S σ) (e : τ.1 0 k = σ.1 0 k) : mS k S τ := fun i hi => by rw [e]; exact h i hi
theorem iI_a1 (z : Int) : iI z + 1 = iI (z + 1) := iI_add z 1
theorem iI_s1 (z : Int) : iI z - 1 = iI (z - 1) := iI_sub z 1
theorem zlitm1 : (-1 : Int32) = iI (-1) := by decide
theorem iI_m1 (z : Int) : iI z + (-1) = iI (z - 1) := by rw [zlitm1, iI_add, Int.sub_eq_add_neg]
theorem iI_0 {z : Int} (hz : zrn z) : (iI z = 0) = (z = 0) := iI_eq (b := 0) hz (by decide)
theorem iI_lt0 {z : Int} (hz : zrn z) : (iI z < 0) = (z < 0) := iI_lt (b := 0) hz (by decide)
theorem iI_0lt {z : Int} (hz : zrn z) : (0 < iI z) = (0 < z) := iI_lt (a := 0) (by decide) hz
theorem iI_1lt {z : Int} (hz : zrn z) : (1 < iI z) = (1 < z) := iI_lt (a := 1) (by decide) hz
theorem iI_lt9 {z : Int} (hz : zrn z) : (iI z < 9) = (z < 9) := iI_lt (b := 9) hz (by decide)
theorem iI_lt16 {z : Int} (hz : zrn z) : (iI z < 16) = (z < 16) := iI_lt (b := 16) hz (by decide)
theorem iI_n9 {z : Int} (hz : zrn z) : (iI z = -9) = (z = -9) := by rw [show (-9 : Int32) = iI (-9) by decide]; exact iI_eq hz (by decide)
def zSt (g k : Nat) : List Int32 → zM → Prop
  | [], _ => True
  | x :: r, σ => σ.1 g k r.length = x ∧ zSt g k r σ
theorem zSt_w {g k : Nat} : ∀ {st : List Int32} {σ : zM} {i : Nat} {v : Int32}, st.length ≤ i → zSt g k st σ → zSt g k st (zwI σ g k i v)
  | [], _, _, _, _, _ => trivial
  | x :: r, σ, i, v, h, hs => by
    rw [List.length_cons] at h
    exact ⟨(zfe (fun z => by have := z.2.2; omega)).trans hs.1, zSt_w (by omega) hs.2⟩
theorem zc68 {d : Nat} {c x y : Int32} {σ : zM} : zev (d + 1) 68 [.inl c, .inl x, .inl y] σ = some (zB (zcH c x y), 0, σ) := by
  rw [ez_68]
  unfold zcH
  by_cases h1 : c = -10
  · simp only [if_pos h1, zg30, zg31]
    by_cases hx : x = 0 <;> by_cases hy : y = 0 <;> simp [hx, hy, zB]
  by_cases h2 : c = -9
  · simp only [if_neg h1, if_pos h2, zg30, zg31]
    by_cases hx : x = 0 <;> by_cases hy : y = 0 <;> simp [hx, hy, zB]
  by_cases h3 : c = -8
  · simp only [if_neg h1, if_neg h2, if_pos h3, zg30, zg31]
    by_cases hx : y < x <;> simp [hx, zB]
  by_cases h4 : c = -7
  · simp only [if_neg h1, if_neg h2, if_neg h3, if_pos h4, zg30, zg31]
    by_cases hx : x = y <;> simp [hx, zB]
  by_cases h5 : c = -6
  · simp only [if_neg h1, if_neg h2, if_neg h3, if_neg h4, if_pos h5, zg30, zg31]
    by_cases hx : x < y <;> simp [hx, zB]
  · simp only [if_neg h1, if_neg h2, if_neg h3, if_neg h4, if_neg h5, zg30, zg31]
    by_cases hx : x = 0 <;> by_cases hy : y = 0 <;> simp [hx, hy, zB]
theorem zm163 {d : Nat} {c x y : Int32} {σ : zM} : zev (d + 1) 163 [.inl c, .inl x, .inl y] σ = some (zB (zmH c x y), 0, σ) := by
  rw [ez_163]
  unfold zmH
  by_cases h1 : c = -21
  · simp only [if_pos h1, zg30, zg31]
    by_cases hx : x = 1 <;> by_cases hy : y = 1 <;> simp [hx, hy, zB]
  by_cases h2 : c = -13
  · simp only [if_neg h1, if_pos h2, zg30, zg31]
    by_cases hx : y < x <;> simp [hx, zB]
  by_cases h3 : c = -12
  · simp only [if_neg h1, if_neg h2, if_pos h3, zg30, zg31]
    by_cases hx : x = y <;> simp [hx, zB]
  by_cases h4 : c = -11
  · simp only [if_neg h1, if_neg h2, if_neg h3, if_pos h4, zg30, zg31]
    by_cases hx : x < y <;> simp [hx, zB]
  · simp only [if_neg h1, if_neg h2, if_neg h3, if_neg h4, zg30, zg31]
    by_cases hx : x = 1 <;> by_cases hy : y = 1 <;> simp [hx, hy, zB]
theorem zm162 {d : Nat} {S : zS} {σ : zM} {c : Int32} {b : Nat} (h : mS 61 S σ) (hb : b < 9) : zev (d + 3) 162 [.inr (.inr (0, 60)), .inl c, .inl (iI b)] σ = some (zmF (aFct S b) c (aFct S b 4), 0, σ) := by
  rw [ez_162]
  unfold zmF
  by_cases h1 : c = -5
  · simp only [if_pos h1]; rfl
  by_cases h2 : c = -4
  · simp only [if_neg h1, if_pos h2]
    have e := zm156 (d := d) (b := b) (w := 3) h (by omega)
    rw [show 7 + 5 * b + 3 = 10 + 5 * b by omega] at e
    show (Option.bind (zev (d + 2) 156 [.inr (.inr (0, 60)), .inl (iI b), .inl (iI (3 : Nat))] σ) _) = _
    rw [e]; rfl
  by_cases h3 : c = -3
  · simp only [if_neg h1, if_neg h2, if_pos h3]
    have e := zm156 (d := d) (b := b) (w := 2) h (by omega)
    rw [show 7 + 5 * b + 2 = 9 + 5 * b by omega] at e
    show (Option.bind (zev (d + 2) 156 [.inr (.inr (0, 60)), .inl (iI b), .inl (iI (2 : Nat))] σ) _) = _
    rw [e]; rfl
  by_cases h4 : c = -2
  · simp only [if_neg h1, if_neg h2, if_neg h3, if_pos h4, h 5 (by decide)]; rfl
  by_cases h5 : c = -1
  · simp only [if_neg h1, if_neg h2, if_neg h3, if_neg h4, if_pos h5, h 4 (by decide)]; rfl
  · simp only [if_neg h1, if_neg h2, if_neg h3, if_neg h4, if_neg h5]
abbrev Wk (g k : Nat) : Nat → Nat → Nat → Prop := fun g' k' _ => g' = g ∧ k' = k
theorem zc67_5 {d g to : Nat} (hto : to ≤ 200) : ∀ (n k : Nat) (st : List Int32) (σ : zM) (d1 d5 : Option zV), k + n = to → st.length ≤ 16 → zSt g 14 st σ → ∃ τ, zrun (zev (d + 1)) zT_67 5 [some (.inr (.inr (g, 7))), d1, some (.inl (iI to)), some (.inl (iI st.length)), some (.inl (iI k)), d5] [] σ = some (zB (zcE (zcR (σ.1 g 13) (σ.1 g 12) n k st)), 0, τ) ∧ zFr (Wk g 14) σ τ
  | 0, k, st, σ, d1, d5, hk, hl, hs => by
    rw [ez_67_5, if_neg (by rw [iI_lt (by omega) (by omega)]; omega)]
    cases st with
    | nil => exact ⟨σ, by show (if iI 0 = 0 then _ else _) = _; rw [if_pos (show iI 0 = 0 from rfl)]; exact zgd_t rfl, zFr_r σ⟩
    | cons x r =>
      rw [List.length_cons] at hl ⊢
      refine ⟨σ, ?_, zFr_r σ⟩
      rw [if_neg (by rw [iI_0 (by omega)]; omega), iI_s1, zgd_t (iI_ink (k := r.length) (by omega) (by omega) (by decide)), iI_Nk (n := r.length) (by omega) (by omega), hs.1, zB_n]
      rfl
  | n + 1, k, st, σ, d1, d5, hk, hl, hs => by
    have ih : ∀ (st' : List Int32) (τ0 : zM) (top ki : Int32) (e1 e5 : Option zV), st' = zcS (σ.1 g 13) (σ.1 g 12 k) st → st'.length ≤ 16 → zSt g 14 st' τ0 → zFr (Wk g 14) σ τ0 → top = iI st'.length → ki = iI ((k + 1 : Nat) : Int) → ∃ τ, zrun (zev (d + 1)) zT_67 5 [some (.inr (.inr (g, 7))), e1, some (.inl (iI to)), some (.inl top), some (.inl ki), e5] [] τ0 = some (zB (zcE (zcR (σ.1 g 13) (σ.1 g 12) (n + 1) k st)), 0, τ) ∧ zFr (Wk g 14) σ τ := by
      intro st' τ0 top ki e1 e5 a1 a2 a3 a4 a5 a6
      subst a5 a6
      obtain ⟨τ, b1, b2⟩ := zc67_5 (d := d) (g := g) hto n (k + 1) st' τ0 e1 e5 (by omega) a2 a3
      rw [zFr_f a4 (fun i => by omega), zFr_f a4 (fun i => by omega)] at b1
      refine ⟨τ, ?_, zFr_tt a4 b2⟩
      rw [b1]
      show _ = some (zB (zcE (zcR _ _ n (k + 1) (zcS _ _ st))), 0, τ)
      rw [← a1]
    have hki : iI (k : Int) + 1 = iI ((k + 1 : Nat) : Int) := by rw [iI_a1]; congr 1 <;> omega
    rw [ez_67_5, if_pos (by rw [iI_lt (by omega) (by omega)]; omega)]
    simp only [zgd_t (iI_ink (z := k) (k := k) rfl (show k < 200 by omega) (by decide)), iI_Nn (show k ≤ 2147483647 by omega)]
    by_cases c1 : σ.1 g 12 k < -5
    · rw [if_pos c1]
      by_cases c2 : σ.1 g 12 k = -9
      · rw [if_pos c2]
        cases st with
        | nil =>
          rw [if_neg (by decide)]
          exact ih [] σ _ _ _ _ (by unfold zcS; rw [if_pos c1, if_pos c2]) hl hs (zFr_r σ) rfl hki
        | cons x r =>
          rw [List.length_cons] at hl ⊢
          rw [if_pos (by rw [iI_0lt (by omega)]; omega), iI_s1, zgd_t (iI_ink (k := r.length) (by omega) (by omega) (by decide)), zgd_t (iI_ink (k := r.length) (by omega) (by omega) (by decide)), iI_Nk (n := r.length) (by omega) (by omega), hs.1]
          exact ih ((1 - x) :: r) _ _ _ _ _ (by unfold zcS; rw [if_pos c1, if_pos c2]) hl ⟨zfs, zSt_w (Nat.le_refl _) hs.2⟩ (zFr_w ⟨rfl, rfl⟩) rfl hki
      · rw [if_neg c2]
        rcases st with _ | ⟨y, _ | ⟨x, r⟩⟩
        · rw [if_neg (by decide)]
          exact ih [] σ _ _ _ _ (by unfold zcS; rw [if_pos c1, if_neg c2]) hl hs (zFr_r σ) rfl hki
        · rw [if_neg (show ¬ (1 : Int32) < iI (([y] : List Int32).length : Int) from show ¬ (1 : Int32) < iI 1 by decide)]
          exact ih [y] σ _ _ _ _ (by unfold zcS; rw [if_pos c1, if_neg c2]) hl hs (zFr_r σ) rfl hki
        · rw [List.length_cons, List.length_cons] at hl ⊢
          have hx : σ.1 g 14 r.length = x := hs.2.1
          have hy : σ.1 g 14 (r.length + 1) = y := hs.1
          rw [if_pos (by rw [iI_1lt (by omega)]; omega), iI_m1, iI_s1, zgd_t (iI_ink (k := r.length) (by omega) (by omega) (by decide)), zgd_t (iI_ink (k := r.length + 1) (by omega) (by omega) (by decide)), iI_Nk (n := r.length) (by omega) (by omega), iI_Nk (n := r.length + 1) (by omega) (by omega), hx, hy, zc68]
          have e := ih (zB (zcH (σ.1 g 12 k) x y) :: r) (zwI σ g 14 r.length (zB (zcH (σ.1 g 12 k) x y)))
          have e2 : zB (zcH (σ.1 g 12 k) x y) :: r = zcS (σ.1 g 13) (σ.1 g 12 k) (y :: x :: r) := by unfold zcS; rw [if_pos c1, if_neg c2]
          simp only [zbs, zBi]
          cases hH : zcH (σ.1 g 12 k) x y
          · rw [hH] at e e2
            rw [cond_false, zgd_t (iI_ink (k := r.length) (by omega) (by omega) (by decide))]
            exact e _ _ _ _ e2 (by rw [List.length_cons]; omega) ⟨zfs, zSt_w (Nat.le_refl _) hs.2.2⟩ (zFr_w ⟨rfl, rfl⟩) (by rw [List.length_cons]; congr 1 <;> omega) hki
          · rw [hH] at e e2
            rw [cond_true, zgd_t (iI_ink (k := r.length) (by omega) (by omega) (by decide))]
            exact e _ _ _ _ e2 (by rw [List.length_cons]; omega) ⟨zfs, zSt_w (Nat.le_refl _) hs.2.2⟩ (zFr_w ⟨rfl, rfl⟩) (by rw [List.length_cons]; congr 1 <;> omega) hki
    · rw [if_neg c1]
      by_cases c3 : st.length < 16
      · rw [if_pos (by rw [iI_lt16 (by omega)]; omega)]
        by_cases c4 : σ.1 g 12 k < 0
        · have hz : -5 ≤ (σ.1 g 12 k).toInt ∧ (σ.1 g 12 k).toInt < 0 := by
            rw [zlt32] at c1 c4
            have z5 : (-5 : Int32).toInt = -5 := by decide
            have z0 : (0 : Int32).toInt = 0 := by decide
            rw [z5] at c1
            rw [z0] at c4
            omega
          have ez : (-1 : Int32) - σ.1 g 12 k = iI (-1 - (σ.1 g 12 k).toInt) := by
            rw [← iI_sub, iI_t]; rfl
          have hi : zin ((-1 : Int32) - σ.1 g 12 k) 5 = true := by
            rw [ez]; exact iI_in (by omega) (by omega) (by decide)
          rw [if_pos c4, zgd_t hi, zgd_t (iI_ink (k := st.length) rfl c3 (by decide)), iI_Nn (n := st.length) (by omega)]
          exact ih (σ.1 g 13 ((-1) - σ.1 g 12 k).toNatClampNeg :: st) _ _ _ _ _ (by unfold zcS; rw [if_neg c1, if_pos c3, if_pos c4]) (by rw [List.length_cons]; omega) ⟨zfs, zSt_w (Nat.le_refl _) hs⟩ (zFr_w ⟨rfl, rfl⟩) (by rw [iI_a1, List.length_cons]; congr 1 <;> omega) hki
        · rw [if_neg c4, zgd_t (iI_ink (k := st.length) rfl c3 (by decide)), iI_Nn (n := st.length) (by omega)]
          exact ih (σ.1 g 12 k :: st) _ _ _ _ _ (by unfold zcS; rw [if_neg c1, if_pos c3, if_neg c4]) (by rw [List.length_cons]; omega) ⟨zfs, zSt_w (Nat.le_refl _) hs⟩ (zFr_w ⟨rfl, rfl⟩) (by rw [iI_a1, List.length_cons]; congr 1 <;> omega) hki
      · rw [if_neg (by rw [iI_lt16 (by omega)]; omega)]
        exact ih st σ _ _ _ _ (by unfold zcS; rw [if_neg c1, if_neg c3]) hl hs (zFr_r σ) rfl hki
theorem zc67 {d g k n : Nat} {σ : zM} (h : k + n ≤ 200) : ∃ τ, zev (d + 2) 67 [.inr (.inr (g, 7)), .inl (iI k), .inl (iI (k + n : Nat))] σ = some (zB (zcC (σ.1 g 13) (σ.1 g 12) k n), 0, τ) ∧ zFr (Wk g 14) σ τ := by
  rw [ez_67]
  exact zc67_5 (to := k + n) h n k [] σ _ _ rfl (by decide) trivial
theorem zm164_6 {d to b : Nat} {S : zS} (hto : to ≤ 200) (hb : b < 9) : ∀ (n k : Nat) (st st2 : List Int32) (σ : zM) (d1 d6 : Option zV), mS 61 S σ → k + n = to → st.length ≤ k → zSt 0 64 st σ → zmR (aFct S b) (aCod S) n k st = some st2 → ∃ τ, zrun (zev (d + 3)) zT_164 6 [some (.inr (.inr (0, 60))), d1, some (.inl (iI to)), some (.inl (iI b)), some (.inl (iI st.length)), some (.inl (iI k)), d6] [] σ = some (zB (zmE st2), 0, τ) ∧ zFr (Wk 0 64) σ τ
  | 0, k, st, st2, σ, d1, d6, hS, hk, hl, hs, hr => by
    cases hr
    rw [ez_164_6, if_neg (by rw [iI_lt (by omega) (by omega)]; omega)]
    cases st with
    | nil => exact ⟨σ, by show (if iI 0 = 0 then _ else _) = _; rw [if_pos (show iI 0 = 0 from rfl)]; exact zgd_t rfl, zFr_r σ⟩
    | cons x r =>
      refine ⟨σ, ?_, zFr_r σ⟩
      have e : ∀ (r : List Int32) (x : Int32), zSt 0 64 (x :: r) σ → (x :: r).getLast? = some (σ.1 0 64 0) := by
        intro r
        induction r with
        | nil => intro x q; exact congrArg some q.1.symm
        | cons y r ih => intro x q; rw [List.getLast?_cons_cons]; exact ih y q.2
      rw [List.length_cons] at hl ⊢
      rw [if_neg (by rw [iI_0 (by omega)]; omega), zB_d]
      unfold zmE
      rw [e r x hs]
      congr 3
      exact zdec ⟨fun q => by rw [q], fun q => Option.some.inj q⟩
  | n + 1, k, st, st2, σ, d1, d6, hS, hk, hl, hs, hr => by
    have hc : σ.1 0 61 (120 + k) = aCod S k := hS _ (by omega)
    have ih : ∀ (st' : List Int32) (τ0 : zM) (top ki : Int32) (e1 e6 : Option zV), zmS (aFct S b) (aCod S k) st = some st' → st'.length ≤ k + 1 → zSt 0 64 st' τ0 → zFr (Wk 0 64) σ τ0 → top = iI st'.length → ki = iI ((k + 1 : Nat) : Int) → ∃ τ, zrun (zev (d + 3)) zT_164 6 [some (.inr (.inr (0, 60))), e1, some (.inl (iI to)), some (.inl (iI b)), some (.inl top), some (.inl ki), e6] [] τ0 = some (zB (zmE st2), 0, τ) ∧ zFr (Wk 0 64) σ τ := by
      intro st' τ0 top ki e1 e6 a1 a2 a3 a4 a5 a6
      subst a5 a6
      have hr' : zmR (aFct S b) (aCod S) n (k + 1) st' = some st2 := by
        have hr2 : (zmS (aFct S b) (aCod S k) st).bind (zmR (aFct S b) (aCod S) n (k + 1)) = some st2 := hr
        rw [a1] at hr2
        exact hr2
      obtain ⟨τ, b1, b2⟩ := zm164_6 (d := d) hto hb n (k + 1) st' st2 τ0 e1 e6 (mS_f hS (zFr_f a4 (fun i => by omega))) (by omega) a2 a3 hr'
      exact ⟨τ, b1, zFr_tt a4 b2⟩
    have hki : iI (k : Int) + 1 = iI ((k + 1 : Nat) : Int) := by rw [iI_a1]; congr 1 <;> omega
    have hk0 : (120 : Int32) + iI k = iI ((120 + k : Nat) : Int) := by
      show iI 120 + iI k = _
      rw [iI_add]; congr 1 <;> omega
    have hne : zmS (aFct S b) (aCod S k) st ≠ none := by
      intro q
      have hr2 : (zmS (aFct S b) (aCod S k) st).bind (zmR (aFct S b) (aCod S) n (k + 1)) = some st2 := hr
      rw [q] at hr2
      cases hr2
    rw [ez_164_6, if_pos (by rw [iI_lt (by omega) (by omega)]; omega)]
    simp only [hk0, zgd_t (iI_ink (k := 120 + k) (z := ((120 + k : Nat) : Int)) rfl (show 120 + k < 320 by omega) (by decide)), iI_Nn (show 120 + k ≤ 2147483647 by omega), hc]
    by_cases c1 : -10 < aCod S k
    · rw [if_pos c1, zm162 hS hb]
      simp only [zbs, zgd_t (iI_ink (z := st.length) (k := st.length) rfl (show st.length < 200 by omega) (by decide)), iI_Nn (show st.length ≤ 2147483647 by omega)]
      exact ih (zmF (aFct S b) (aCod S k) (aFct S b 4) :: st) _ _ _ _ _ (by unfold zmS; rw [if_pos c1]) (by rw [List.length_cons]; omega) ⟨zfs, zSt_w (Nat.le_refl _) hs⟩ (zFr_w ⟨rfl, rfl⟩) (by rw [iI_a1, List.length_cons]; congr 1 <;> omega) hki
    · rw [if_neg c1]
      by_cases c2 : aCod S k = -20
      · rw [if_pos c2]
        cases st with
        | nil => exact absurd (by unfold zmS; rw [if_neg c1, if_pos c2]) hne
        | cons x r =>
          rw [List.length_cons] at hl ⊢
          rw [iI_s1, zgd_t (iI_ink (k := r.length) (by omega) (by omega) (by decide)), zgd_t (iI_ink (k := r.length) (by omega) (by omega) (by decide)), iI_Nk (n := r.length) (by omega) (by omega), hs.1]
          exact ih ((1 - x) :: r) _ _ _ _ _ (by unfold zmS; rw [if_neg c1, if_pos c2]) (by rw [List.length_cons]; omega) ⟨zfs, zSt_w (Nat.le_refl _) hs.2⟩ (zFr_w ⟨rfl, rfl⟩) rfl hki
      · rw [if_neg c2]
        rcases st with _ | ⟨y, _ | ⟨x, r⟩⟩
        · exact absurd (by unfold zmS; rw [if_neg c1, if_neg c2]) hne
        · exact absurd (by unfold zmS; rw [if_neg c1, if_neg c2]) hne
        · rw [List.length_cons, List.length_cons] at hl ⊢
          have hx : σ.1 0 64 r.length = x := hs.2.1
          have hy : σ.1 0 64 (r.length + 1) = y := hs.1
          rw [iI_m1, iI_s1, zgd_t (iI_ink (k := r.length) (by omega) (by omega) (by decide)), zgd_t (iI_ink (k := r.length + 1) (by omega) (by omega) (by decide)), iI_Nk (n := r.length) (by omega) (by omega), iI_Nk (n := r.length + 1) (by omega) (by omega), hx, hy, zm163]
          have e := ih (zB (zmH (aCod S k) x y) :: r) (zwI σ 0 64 r.length (zB (zmH (aCod S k) x y)))
          have e2 : zmS (aFct S b) (aCod S k) (y :: x :: r) = some (zB (zmH (aCod S k) x y) :: r) := by unfold zmS; rw [if_neg c1, if_neg c2]
          simp only [zbs, zBi]
          cases hH : zmH (aCod S k) x y
          · rw [hH] at e e2
            rw [cond_false, zgd_t (iI_ink (k := r.length) (by omega) (by omega) (by decide))]
            exact e _ _ _ _ e2 (by rw [List.length_cons]; omega) ⟨zfs, zSt_w (Nat.le_refl _) hs.2.2⟩ (zFr_w ⟨rfl, rfl⟩) (by rw [List.length_cons]; congr 1 <;> omega) hki
          · rw [hH] at e e2
            rw [cond_true, zgd_t (iI_ink (k := r.length) (by omega) (by omega) (by decide))]
            exact e _ _ _ _ e2 (by rw [List.length_cons]; omega) ⟨zfs, zSt_w (Nat.le_refl _) hs.2.2⟩ (zFr_w ⟨rfl, rfl⟩) (by rw [List.length_cons]; congr 1 <;> omega) hki
theorem zm164 {d b k n : Nat} {S : zS} {σ : zM} {v : Bool} (h : k + n ≤ 200) (hb : b < 9) (hS : mS 61 S σ) (hv : zmC (aFct S b) (aCod S) k n = some v) : ∃ τ, zev (d + 4) 164 [.inr (.inr (0, 60)), .inl (iI k), .inl (iI (k + n : Nat)), .inl (iI b)] σ = some (zB v, 0, τ) ∧ zFr (Wk 0 64) σ τ := by
  rw [ez_164]
  unfold zmC at hv
  cases hr : zmR (aFct S b) (aCod S) n k [] with
  | none => rw [hr] at hv; cases hv
  | some st2 =>
    rw [hr] at hv
    cases hv
    exact zm164_6 (to := k + n) h hb n k [] st2 σ _ _ hS rfl (Nat.zero_le _) trivial hr
theorem z272 {d : Nat} {x y : Int32} {σ : zM} : zev (d + 1) 272 [.inl x, .inl y] σ = some (if x < y then y else x, 0, σ) := (zev_b (j := 272) (f := zmx) rfl).trans rfl
theorem z273 {d : Nat} {x y : Int32} {σ : zM} : zev (d + 1) 273 [.inl x, .inl y] σ = some (if y < x then y else x, 0, σ) := (zev_b (j := 273) (f := zmn) rfl).trans rfl
theorem zc272 {d : Nat} {a b : Int} {σ : zM} (ha : zrn a) (hb : zrn b) : zev (d + 1) 272 [.inl (iI a), .inl (iI b)] σ = some (iI (if a < b then b else a), 0, σ) := by
  rw [z272]
  simp only [iI_lt ha hb]
  by_cases q : a < b
  · rw [if_pos q, if_pos q]
  · rw [if_neg q, if_neg q]
theorem zc273 {d : Nat} {a b : Int} {σ : zM} (ha : zrn a) (hb : zrn b) : zev (d + 1) 273 [.inl (iI a), .inl (iI b)] σ = some (iI (if b < a then b else a), 0, σ) := by
  rw [z273]
  simp only [iI_lt hb ha]
  by_cases q : b < a
  · rw [if_pos q, if_pos q]
  · rw [if_neg q, if_neg q]
theorem iI_d2 {z : Int} (h0 : 0 ≤ z) (h : z ≤ 2147483647) : iI z / 2 = iI (z / 2) := by
  apply Int32.toInt_inj.mp
  rw [Int32.toInt_div_of_ne_right _ _ (by decide), t_iI (by omega), t_iI (by omega), show (2 : Int32).toInt = 2 from by decide]
  exact Int.tdiv_eq_ediv_of_nonneg h0
theorem zmS_f {f f' : Nat → Int32} (h : ∀ i, i < 5 → f i = f' i) (c : Int32) (st : List Int32) : zmS f c st = zmS f' c st := by
  unfold zmS zmF
  rw [h 0 (by decide), h 1 (by decide), h 2 (by decide), h 3 (by decide), h 4 (by decide)]
theorem zmR_f {f f' : Nat → Int32} (h : ∀ i, i < 5 → f i = f' i) (code : Nat → Int32) : ∀ n k st, zmR f code n k st = zmR f' code n k st
  | 0, _, _ => rfl
  | n + 1, k, st => by
    show (zmS f (code k) st).bind _ = (zmS f' (code k) st).bind _
    rw [zmS_f h]
    cases zmS f' (code k) st with
    | none => rfl
    | some q => exact zmR_f h code n (k + 1) q
theorem zmC_f {f f' : Nat → Int32} (h : ∀ i, i < 5 → f i = f' i) (code : Nat → Int32) (k n : Nat) : zmC f code k n = zmC f' code k n := by
  unfold zmC
  rw [zmR_f h]
theorem aHlf_b {S : zS} {b : Nat} (w : wB S) (u : wU S) (hb : b < (S 0).toNat) {n k : Nat} (h : k + n ≤ (S 1).toNat) : 0 ≤ aHlf S b (aFst S b n k) ∧ aHlf S b (aFst S b n k) ≤ 1998 := by
  have w2 := w.2.2 b hb
  have key : ∀ n k, k + n ≤ (S 1).toNat → ∀ j, aFst S b n k = some j → j < (S 1).toNat := by
    intro n
    induction n with
    | zero => intro k _ j hj; cases hj
    | succ n ih =>
      intro k hk j hj
      have hj : (bif aUnd (S (7 + 5 * b)) (S (88 + 4 * k)) && aCnd S b k then some k else aFst S b n (k + 1)) = some j := hj
      cases q : aUnd (S (7 + 5 * b)) (S (88 + 4 * k)) && aCnd S b k
      · rw [q] at hj; exact ih (k + 1) (by omega) j hj
      · rw [q] at hj; cases hj; omega
  cases q : aFst S b n k with
  | none => show 0 ≤ S (10 + 5 * b) ∧ S (10 + 5 * b) ≤ 1998; omega
  | some j =>
    have u2 := u.2.2 j (key n k h j q)
    unfold aHlf
    dsimp only
    split
    · omega
    · split
      · split <;> omega
      · omega
theorem zc66 {d g k b : Nat} {S : zS} {σ : zM} (hU : cU g S σ) (u : wU S) (hk : k < (S 1).toNat) (w : 1 ≤ S (10 + 5 * b) ∧ S (10 + 5 * b) ≤ 999) : zev (d + 2) 66 [.inr (.inr (g, 7)), .inl (iI k), .inl (iI (S (10 + 5 * b)))] σ = some (iI (aHlf S b (some k)), 0, σ) := by
  have u2 := u.2.2 k hk
  have u0 := u.1
  have u1 := u.2.1
  have h := hU.2 k hk
  rw [ez_66]
  simp only [zgd_t (iI_ink (z := k) (k := k) rfl (show k < 8 by omega) (by decide)), iI_Nn (show k ≤ 2147483647 by omega), h.2.1]
  have n16 : (-16 : Int32) = iI (-16) := by decide
  have n17 : (-17 : Int32) = iI (-17) := by decide
  have hc : zrn (cD (S (89 + 4 * k))) := by unfold cD; omega
  simp only [n16, n17, iI_eq hc (show zrn (-16) by decide), iI_eq hc (show zrn (-17) by decide)]
  unfold aHlf cD
  dsimp only
  by_cases q0 : S (89 + 4 * k) = 0
  · rw [if_pos (by omega), if_pos q0, h.2.2.1 (by omega), iI_add]
  · by_cases q1 : S (89 + 4 * k) = 1
    · rw [if_neg (by omega), if_pos (by omega), if_neg q0, if_pos q1, h.2.2.1 (by omega), iI_sub]
      show (Option.bind (zev (d + 1) 272 [.inl (iI 0), _] σ) _) = _
      rw [zc272 (by omega) (by omega), zbs]
      by_cases q2 : S (10 + 5 * b) - S (90 + 4 * k) < 0
      · rw [if_neg (by omega), if_pos q2]
      · by_cases q3 : 0 < S (10 + 5 * b) - S (90 + 4 * k)
        · rw [if_pos q3, if_neg q2]
        · rw [if_neg q3, if_neg q2, show S (10 + 5 * b) - S (90 + 4 * k) = 0 by omega]
    · rw [if_neg (by omega), if_neg (by omega), if_neg q0, if_neg q1]
      rfl
theorem aCnd_s {S : zS} {b k : Nat} {v : Bool} (h : zmC (aFct S b) (aCod S) (aEnd S k) (aEnd S (k + 1) - aEnd S k) = some v) : aCnd S b k = v := by
  unfold aCnd
  rw [h]
  cases v <;> rfl
theorem cU_f {g : Nat} {S : zS} {σ τ : zM} (h : cU g S σ) (e : ∀ k, 7 ≤ k → k ≤ 12 → τ.1 g k = σ.1 g k) : cU g S τ := by
  unfold cU at h ⊢
  rw [e 7 (by decide) (by decide), e 8 (by decide) (by decide), e 9 (by decide) (by decide), e 10 (by decide) (by decide), e 11 (by decide) (by decide), e 12 (by decide) (by decide)]
  exact h
theorem zc65_12 {d g b : Nat} {S : zS} (w : wB S) (u : wU S) (hb : b < (S 0).toNat) : ∀ (n k : Nat) (σ : zM), cU g S σ → (∀ i, i < 5 → σ.1 g 13 i = aFct S b i) → k + n = (S 1).toNat → ∃ τ, zrun (zev (d + 2)) zT_65 12 [some (.inr (.inr (g, 7))), some (.inl (iI (S (7 + 5 * b)))), some (.inl (iI (S (10 + 5 * b)))), some (.inl (iI (cEn (σ.1 g 11) k : Nat))), some (.inl (iI k))] [] σ = some (iI (aHlf S b (aFst S b n k)), 0, τ) ∧ zFr (Wk g 14) σ τ
  | 0, k, σ, hU, hf, hk => by
    have u0 := u.1
    have u1 := u.2.1
    rw [ez_65_12, hU.1, if_neg (by rw [iI_lt (by omega) (by omega)]; omega)]
    exact ⟨σ, rfl, zFr_r σ⟩
  | n + 1, k, σ, hU, hf, hk => by
    have u0 := u.1
    have u1 := u.2.1
    have w2 := w.2.2 b hb
    have u2 := u.2.2 k (by omega)
    have h := hU.2 k (by omega)
    have hki : iI (k : Int) + 1 = iI ((k + 1 : Nat) : Int) := by rw [iI_a1]; congr 1 <;> omega
    rw [ez_65_12, hU.1, if_pos (by rw [iI_lt (by omega) (by omega)]; omega)]
    simp only [zgd_t (iI_ink (z := k) (k := k) rfl (show k < 8 by omega) (by decide)), iI_Nn (show k ≤ 2147483647 by omega), h.1, zc146 (show 0 ≤ S (7 + 5 * b) ∧ S (7 + 5 * b) ≤ 5 by omega) (show 0 ≤ S (88 + 4 * k) ∧ S (88 + 4 * k) ≤ 5 by omega), zbs, zBi, h.2.2.2.1, hki]
    cases q1 : aUnd (S (7 + 5 * b)) (S (88 + 4 * k))
    · rw [cond_false]
      have e : aFst S b (n + 1) k = aFst S b n (k + 1) := by
        show (bif aUnd (S (7 + 5 * b)) (S (88 + 4 * k)) && aCnd S b k then some k else aFst S b n (k + 1)) = _
        rw [q1]; rfl
      rw [e]
      exact zc65_12 w u hb n (k + 1) σ hU hf (by omega)
    · rw [cond_true]
      have h5 := h.2.2.2.2.1
      have h6 := h.2.2.2.2.2.1
      have ee : cEn (σ.1 g 11) (k + 1) = cEn (σ.1 g 11) k + (cEn (σ.1 g 11) (k + 1) - cEn (σ.1 g 11) k) := by omega
      obtain ⟨τ, c1, c2⟩ := zc67 (d := d) (g := g) (k := cEn (σ.1 g 11) k) (n := cEn (σ.1 g 11) (k + 1) - cEn (σ.1 g 11) k) (σ := σ) (by omega)
      rw [← ee] at c1
      have c3 := h.2.2.2.2.2.2 (σ.1 g 13)
      rw [zmC_f hf] at c3
      rw [c1]
      have hU' : cU g S τ := cU_f hU fun k _ _ => zFr_f c2 (fun i => by omega)
      have h' := hU'.2 k (by omega)
      simp only [zbs, zBi, h'.2.2.2.1]
      have hcn := aCnd_s c3
      cases q2 : zcC (σ.1 g 13) (σ.1 g 12) (cEn (σ.1 g 11) k) (cEn (σ.1 g 11) (k + 1) - cEn (σ.1 g 11) k)
      · rw [cond_false]
        rw [q2] at hcn
        have e : aFst S b (n + 1) k = aFst S b n (k + 1) := by
          show (bif aUnd (S (7 + 5 * b)) (S (88 + 4 * k)) && aCnd S b k then some k else aFst S b n (k + 1)) = _
          rw [hcn, Bool.and_false]; rfl
        rw [e]
        obtain ⟨τ2, b1, b2⟩ := zc65_12 (d := d) (g := g) w u hb n (k + 1) τ hU' (fun i hi => by rw [zFr_f c2 (fun i => by omega)]; exact hf i hi) (by omega)
        exact ⟨τ2, b1, zFr_tt c2 b2⟩
      · rw [cond_true]
        rw [q2] at hcn
        have e : aFst S b (n + 1) k = some k := by
          show (bif aUnd (S (7 + 5 * b)) (S (88 + 4 * k)) && aCnd S b k then some k else aFst S b n (k + 1)) = _
          rw [q1, hcn]; rfl
        rw [e, zc66 hU' u (by omega) (by omega)]
        exact ⟨τ, rfl, c2⟩
abbrev Wh (g : Nat) : Nat → Nat → Nat → Prop := fun g' k' _ => g' = g ∧ (k' = 13 ∨ k' = 14)
theorem zc64 {d g : Nat} {p0 p1 p2 p3 p4 : Int32} {σ : zM} : zev (d + 1) 64 [.inr (.inr (g, 7)), .inl p0, .inl p1, .inl p2, .inl p3, .inl p4] σ = some (0, 0, zwI (zwI (zwI (zwI (zwI σ g 13 0 p0) g 13 1 p1) g 13 2 p2) g 13 3 p3) g 13 4 p4) := by
  rw [ez_64]
theorem cB_f {g : Nat} {S : zS} {σ τ : zM} (h : cB g S σ) (e : ∀ k, 1 ≤ k → k ≤ 6 → τ.1 g k = σ.1 g k) : cB g S τ := by
  unfold cB at h ⊢
  rw [e 1 (by decide) (by decide), e 2 (by decide) (by decide), e 3 (by decide) (by decide), e 4 (by decide) (by decide), e 5 (by decide) (by decide), e 6 (by decide) (by decide)]
  exact h
theorem aKnd_d {S : zS} {b : Nat} {h : Int} : aKnd S b h = if S (7 + 5 * b) = 1 then h + 10 * S 4 else if S (7 + 5 * b) = 2 then h / 2 else if S (7 + 5 * b) = 3 then (if h / 2 - S (9 + 5 * b) < 0 then 0 else h / 2 - S (9 + 5 * b)) else if S (7 + 5 * b) = 4 then h + 50 else 2 * (h + 50) := rfl
theorem aHold_b {S : zS} {b : Nat} (w : wB S) (v : wW S) (u : wU S) (hb : b < (S 0).toNat) : 0 ≤ aHold S b ∧ aHold S b ≤ 4096 := by
  have h := aHlf_b w u hb (n := (S 1).toNat) (k := 0) (by omega)
  have w2 := w.2.2 b hb
  obtain ⟨v1, v2, -, -⟩ := v
  unfold aHold aHld
  rw [aKnd_d]
  generalize aHlf S b (aFst S b ((S 1).toNat) 0) = hh at h ⊢
  split
  · omega
  · split
    · omega
    · split
      · split <;> omega
      · split <;> omega
theorem zc16 {d g b : Nat} {S : zS} {σ : zM} (hB : cB g S σ) (hW : cW g S σ) (hU : cU g S σ) (w : wB S) (v : wW S) (u : wU S) (hb : b < (S 0).toNat) : ∃ τ, zev (d + 4) 16 [.inr (.inr (g, 1)), .inl (iI b)] σ = some (iI (aHold S b), 0, τ) ∧ zFr (Wh g) σ τ := by
  have w0 := w.1
  have w1 := w.2.1
  have w2 := w.2.2 b hb
  have h := hB.2 b hb
  have hl := aHlf_b w u hb (n := (S 1).toNat) (k := 0) (by omega)
  rw [ez_16]
  simp only [zgd_t (iI_ink (z := b) (k := b) rfl (show b < 9 by omega) (by decide)), iI_Nn (show b ≤ 2147483647 by omega), hW.1, hW.2, h.2.2.1, h.2.2.2.1, zc64, zbs]
  generalize hσ0 : zwI (zwI (zwI (zwI (zwI σ g 13 0 (iI (S 4))) g 13 1 (iI (S 5))) g 13 2 (iI (S (9 + 5 * b)))) g 13 3 (iI (S (10 + 5 * b)))) g 13 4 (iI b) = σ0
  have f0 : zFr (Wh g) σ σ0 := by
    subst hσ0
    exact zFr_tt (zFr_tt (zFr_tt (zFr_tt (zFr_w ⟨rfl, Or.inl rfl⟩) (zFr_w ⟨rfl, Or.inl rfl⟩)) (zFr_w ⟨rfl, Or.inl rfl⟩)) (zFr_w ⟨rfl, Or.inl rfl⟩)) (zFr_w ⟨rfl, Or.inl rfl⟩)
  have hf : ∀ i, i < 5 → σ0.1 g 13 i = aFct S b i := by
    intro i hi
    subst hσ0
    rcases (by omega : i = 0 ∨ i = 1 ∨ i = 2 ∨ i = 3 ∨ i = 4) with rfl | rfl | rfl | rfl | rfl <;> simp [zrd, aFct]
  have hU0 : cU g S σ0 := cU_f hU fun k _ _ => zFr_f f0 (fun i => by omega)
  have hB0 : cB g S σ0 := cB_f hB fun k _ _ => zFr_f f0 (fun i => by omega)
  have h0 := hB0.2 b hb
  have e65 : ∃ τ, zev (d + 3) 65 [.inr (.inr (g, 7)), .inl (iI (S (7 + 5 * b)))] σ0 = some (iI (aHld S b), 0, τ) ∧ zFr (Wk g 14) σ0 τ := by
    rw [ez_65]
    show ∃ τ, zrun _ _ _ [_, _, some (.inl (σ0.1 g 13 3)), _, _] _ _ = _ ∧ _
    rw [hf 3 (by decide)]
    exact zc65_12 w u hb ((S 1).toNat) 0 σ0 hU0 hf (by omega)
  obtain ⟨τ, c1, c2⟩ := e65
  have f1 : zFr (Wh g) σ τ := zFr_tt f0 (zFr_i c2 (fun _ _ _ q => ⟨q.1, Or.inr q.2⟩))
  have hB1 : cB g S τ := cB_f hB fun k _ _ => zFr_f f1 (fun i => by omega)
  have h1 := hB1.2 b hb
  have hW1 : τ.1 g 1 7 = iI (S 4) := by rw [zFr_f f1 (fun i => by omega)]; exact hW.1
  refine ⟨τ, ?_, f1⟩
  simp only [h0.1, c1, zbs, h1.1, h1.2.2.1, hW1]
  have hld : 0 ≤ aHld S b ∧ aHld S b ≤ 1998 := hl
  unfold aHold
  rw [aKnd_d]
  generalize aHld S b = hh at hld ⊢
  obtain ⟨v1, v2, -, -⟩ := v
  generalize hkk : S (7 + 5 * b) = kk at w2 ⊢
  rcases (show kk = 1 ∨ kk = 2 ∨ kk = 3 ∨ kk = 4 ∨ kk = 5 by omega) with rfl | rfl | rfl | rfl | rfl
  · show (some (iI hh + iI 10 * iI (S 4), 0, τ) : zR) = _
    rw [iI_mul, iI_add]; rfl
  · show (some (iI hh / 2, 0, τ) : zR) = _
    rw [iI_d2 hld.1 (by omega)]; rfl
  · show (Option.bind (zev (d + 3) 272 [.inl (iI 0), .inl (iI hh / 2 - iI (S (9 + 5 * b)))] τ) _) = _
    rw [iI_d2 hld.1 (by omega), iI_sub, zc272 (by omega) (by omega), zbs]
    show (some (iI (if 0 < hh / 2 - S (9 + 5 * b) then hh / 2 - S (9 + 5 * b) else 0), 0, τ) : zR) = some (iI (if hh / 2 - S (9 + 5 * b) < 0 then 0 else hh / 2 - S (9 + 5 * b)), 0, τ)
    congr 2
    split <;> split <;> first | rfl | (congr 1 <;> omega)
  · show (some (iI hh + iI 50, 0, τ) : zR) = _
    rw [iI_add]; rfl
  · show (some (iI 2 * (iI hh + iI 50), 0, τ) : zR) = _
    rw [iI_add, iI_mul]; rfl
abbrev zfnd (o : Option Nat) : Int := match o with
  | none => -1
  | some k => ((88 + 4 * k : Nat) : Int)
theorem zm165_98 {d b : Nat} {S : zS} {σ : zM} {o : Option Nat} {d4 d5 d6 d7 d8 : Option zV} (hS : mS 61 S σ) (w : wB S) (v : wW S) (u : wU S) (hb : b < (S 0).toNat) (ho : ∀ k, o = some k → k < (S 1).toNat) : zrun (zev (d + 2)) zT_165 98 [some (.inr (.inr (0, 60))), some (.inl (iI b)), some (.inl (iI (S (7 + 5 * b)))), some (.inl (iI (zfnd o))), d4, d5, d6, d7, d8] [] σ = some (iI (aKnd S b (aHlf S b o)), 0, σ) := by
  have w0 := w.1
  have w1 := w.2.1
  have w2 := w.2.2 b hb
  have e3 := zm156 (d := d) (b := b) (w := 3) hS (by omega)
  rw [show 7 + 5 * b + 3 = 10 + 5 * b by omega] at e3
  have e3 : zev (d + 2) 156 [.inr (.inr (0, 60)), .inl (iI b), .inl 3] σ = _ := e3
  have e2 := zm156 (d := d) (b := b) (w := 2) hS (by omega)
  rw [show 7 + 5 * b + 2 = 9 + 5 * b by omega] at e2
  have e2 : zev (d + 2) 156 [.inr (.inr (0, 60)), .inl (iI b), .inl 2] σ = _ := e2
  have k0 : ∀ {z : Int}, zrn z → (iI z = 0) = (z = 0) := fun h => iI_0 h
  have k1 : ∀ {z : Int}, zrn z → (iI z = 1) = (z = 1) := fun h => iI_eq (b := 1) h (by decide)
  have k2 : ∀ {z : Int}, zrn z → (iI z = 2) = (z = 2) := fun h => iI_eq (b := 2) h (by decide)
  have k3 : ∀ {z : Int}, zrn z → (iI z = 3) = (z = 3) := fun h => iI_eq (b := 3) h (by decide)
  have k4 : ∀ {z : Int}, zrn z → (iI z = 4) = (z = 4) := fun h => iI_eq (b := 4) h (by decide)
  have hv := v
  obtain ⟨v1, v2, -, -⟩ := v
  have tail : ∀ (h : Int) (d3 d4 d5 d6 d7 d8 : Option zV), 0 ≤ h → h ≤ 2000 → zrun (zev (d + 2)) zT_165 194 [some (.inr (.inr (0, 60))), some (.inl (iI b)), some (.inl (iI (S (7 + 5 * b)))), d3, d4, d5, d6, d7, d8] [.inl (iI h)] σ = some (iI (aKnd S b h), 0, σ) := by
    intro h d3 d4 d5 d6 d7 d8 h0 h1
    have hk : zrn (S (7 + 5 * b)) := by omega
    rw [ez_165_194, e2, zbs, aKnd_d]
    simp only [hS 4 (by decide), k1 hk, k2 hk, k3 hk, k4 hk, iI_d2 h0 (by omega)]
    by_cases q1 : S (7 + 5 * b) = 1
    · simp only [if_pos q1]
      show (some (iI h + iI 10 * iI (S 4), 0, σ) : zR) = _
      rw [iI_mul, iI_add]
    by_cases q2 : S (7 + 5 * b) = 2
    · simp only [if_neg q1, if_pos q2]
    by_cases q3 : S (7 + 5 * b) = 3
    · simp only [if_neg q1, if_neg q2, if_pos q3, iI_sub, iI_lt0 (show zrn (h / 2 - S (9 + 5 * b)) by omega)]
      by_cases q5 : h / 2 - S (9 + 5 * b) < 0
      · simp only [if_pos q5]; rfl
      · simp only [if_neg q5]
    by_cases q4 : S (7 + 5 * b) = 4
    · simp only [if_neg q1, if_neg q2, if_neg q3, if_pos q4]
      show (some (iI h + iI 50, 0, σ) : zR) = _
      rw [iI_add]
    · simp only [if_neg q1, if_neg q2, if_neg q3, if_neg q4]
      show (some (iI 2 * (iI h + iI 50), 0, σ) : zR) = _
      rw [iI_add, iI_mul]
  have t2 : ∀ (h h' : Int) (d3 d4 d5 d6 d7 d8 : Option zV), -1000 ≤ h → h ≤ 2000 → h' = (if h < 0 then 0 else h) → zrun (zev (d + 2)) zT_165 181 [some (.inr (.inr (0, 60))), some (.inl (iI b)), some (.inl (iI (S (7 + 5 * b)))), d3, d4, d5, d6, d7, d8] [.inl (iI h)] σ = some (iI (aKnd S b h'), 0, σ) := by
    intro h h' d3 d4 d5 d6 d7 d8 h0 h1 e
    rw [ez_165_181]
    simp only [iI_lt0 (show zrn h by omega)]
    by_cases q : h < 0
    · rw [if_pos q] at e
      rw [if_pos q, e]
      exact tail 0 _ _ _ _ _ _ (by omega) (by omega)
    · rw [if_neg q] at e
      rw [if_neg q, e]
      exact tail h _ _ _ _ _ _ (by omega) (by omega)
  rw [ez_165_98]
  cases o with
  | none =>
    rw [if_pos (by decide), ez_165_114, if_pos (by decide), ez_165_132, e3, zbs]
    show (if iI (-1) = 0 then _ else if iI (-1) = 1 then _ else if iI (-1) = 2 then _ else _) = _
    rw [if_neg (by decide), if_neg (by decide), if_neg (by decide)]
    exact t2 (S (10 + 5 * b)) _ _ _ _ _ _ _ (by omega) (by omega) (by show S (10 + 5 * b) = _; rw [if_neg (by omega)])
  | some k =>
    have hk := ho k rfl
    have u0 := u.1
    have u1 := u.2.1
    have u2 := u.2.2 k hk
    have a1 : iI (zfnd (some k)) + 1 = iI ((89 + 4 * k : Nat) : Int) := by rw [iI_a1]; congr 1; show ((88 + 4 * k : Nat) : Int) + 1 = _; omega
    have a2 : iI (zfnd (some k)) + 2 = iI ((90 + 4 * k : Nat) : Int) := by
      show iI ((88 + 4 * k : Nat) : Int) + iI 2 = _
      rw [iI_add]; congr 1 <;> omega
    have hn : ¬ iI (zfnd (some k)) < 0 := by
      show ¬ iI ((88 + 4 * k : Nat) : Int) < 0
      rw [iI_lt0 (by omega)]; omega
    have hd : zrn (S (89 + 4 * k)) := by omega
    rw [if_neg hn, a1, zgd_t (iI_ink (k := 89 + 4 * k) rfl (by omega) (by decide)), iI_Nn (n := 89 + 4 * k) (by omega), hS _ (by omega), ez_165_114, if_neg hn, a2, zgd_t (iI_ink (k := 90 + 4 * k) rfl (by omega) (by decide)), iI_Nn (n := 90 + 4 * k) (by omega), hS _ (by omega), ez_165_132, e3, zbs]
    simp only [k0 hd, k1 hd, k2 hd]
    have ee : aHlf S b (some k) = if S (89 + 4 * k) = 0 then S (10 + 5 * b) + S (90 + 4 * k) else if S (89 + 4 * k) = 1 then (if S (10 + 5 * b) - S (90 + 4 * k) < 0 then 0 else S (10 + 5 * b) - S (90 + 4 * k)) else 0 := rfl
    by_cases q0 : S (89 + 4 * k) = 0
    · rw [if_pos q0] at ee
      simp only [if_pos q0, iI_add]
      exact t2 _ _ _ _ _ _ _ _ (by omega) (by omega) (by rw [ee, if_neg (by omega)])
    · by_cases q1 : S (89 + 4 * k) = 1
      · rw [if_neg q0, if_pos q1] at ee
        simp only [if_neg q0, if_pos q1, iI_sub]
        exact t2 _ _ _ _ _ _ _ _ (by omega) (by omega) ee
      · rw [if_neg q0, if_neg q1] at ee
        have q2 : S (89 + 4 * k) = 2 := by omega
        simp only [if_neg q0, if_neg q1, if_pos q2]
        exact t2 0 _ _ _ _ _ _ _ (by omega) (by omega) (by rw [ee]; rfl)
theorem zm165_15 {d b : Nat} {S : zS} (w : wB S) (v : wW S) (u : wU S) (hb : b < (S 0).toNat) : ∀ (n k : Nat) (σ : zM) (d6 d7 d8 : Option zV), mS 61 S σ → k + n = (S 1).toNat → ∃ τ, zrun (zev (d + 4)) zT_165 15 [some (.inr (.inr (0, 60))), some (.inl (iI b)), some (.inl (iI (S (7 + 5 * b)))), some (.inl (iI (-1))), some (.inl (iI (aEnd S k))), some (.inl (iI k)), d6, d7, d8] [] σ = some (iI (aKnd S b (aHlf S b (aFst S b n k))), 0, τ) ∧ zFr (Wk 0 64) σ τ
  | 0, k, σ, d6, d7, d8, hS, hk => by
    have u0 := u.1
    have u1 := u.2.1
    rw [ez_165_15, hS 1 (by decide), if_neg (by rw [iI_lt (by omega) (by omega)]; omega)]
    exact ⟨σ, zm165_98 (d := d + 2) (o := none) hS w v u hb (fun _ h => by cases h), zFr_r σ⟩
  | n + 1, k, σ, d6, d7, d8, hS, hk => by
    have u0 := u.1
    have u1 := u.2.1
    have w0 := w.1
    have w1 := w.2.1
    have w2 := w.2.2 b hb
    have u2 := u.2.2 k (by omega)
    have hki : iI (k : Int) + 1 = iI ((k + 1 : Nat) : Int) := by rw [iI_a1]; congr 1 <;> omega
    have he : S (91 + 4 * k) = (aEnd S (k + 1) : Int) := by
      show S (91 + 4 * k) = ((S (91 + 4 * k)).toNat : Int)
      omega
    have i0 : 88 + 4 * iI (k : Int) + 0 = iI ((88 + 4 * k : Nat) : Int) := by
      show iI 88 + iI 4 * iI (k : Int) + iI 0 = _
      rw [iI_mul, iI_add, iI_add]; congr 1 <;> omega
    have i1 : 88 + 4 * iI (k : Int) = iI ((88 + 4 * k : Nat) : Int) := by
      show iI 88 + iI 4 * iI (k : Int) = _
      rw [iI_mul, iI_add]; congr 1 <;> omega
    have i3 : iI ((88 + 4 * k : Nat) : Int) + 3 = iI ((91 + 4 * k : Nat) : Int) := by
      show iI ((88 + 4 * k : Nat) : Int) + iI 3 = _
      rw [iI_add]; congr 1 <;> omega
    have i4 : iI ((88 + 4 * k : Nat) : Int) + 0 = iI ((88 + 4 * k : Nat) : Int) := by
      show iI ((88 + 4 * k : Nat) : Int) + iI 0 = _
      rw [iI_add]; congr 1 <;> omega
    rw [ez_165_15, hS 1 (by decide), if_pos (by rw [iI_lt (by omega) (by omega)]; omega), if_pos (by decide)]
    simp only [i1, i3, i4, zgd_t (iI_ink (k := 88 + 4 * k) (z := ((88 + 4 * k : Nat) : Int)) rfl (show 88 + 4 * k < 320 by omega) (by decide)), zgd_t (iI_ink (k := 91 + 4 * k) (z := ((91 + 4 * k : Nat) : Int)) rfl (show 91 + 4 * k < 320 by omega) (by decide)), iI_Nn (show 88 + 4 * k ≤ 2147483647 by omega), iI_Nn (show 91 + 4 * k ≤ 2147483647 by omega), hS (88 + 4 * k) (by omega), zm161 (show 0 ≤ S (7 + 5 * b) ∧ S (7 + 5 * b) ≤ 5 by omega) (show 0 ≤ S (88 + 4 * k) ∧ S (88 + 4 * k) ≤ 5 by omega), zbs, zBi, hS (91 + 4 * k) (by omega), he, hki]
    cases q1 : aUnd (S (7 + 5 * b)) (S (88 + 4 * k))
    · rw [cond_false]
      have e : aFst S b (n + 1) k = aFst S b n (k + 1) := by
        show (bif aUnd (S (7 + 5 * b)) (S (88 + 4 * k)) && aCnd S b k then some k else aFst S b n (k + 1)) = _
        rw [q1]; rfl
      rw [e]
      exact zm165_15 w v u hb n (k + 1) σ _ _ _ hS (by omega)
    · rw [cond_true]
      have ee : aEnd S (k + 1) = aEnd S k + (aEnd S (k + 1) - aEnd S k) := by omega
      have hne := u2.2.2.2.2.2.2.2.2.2 (aFct S b)
      cases hcv : zmC (aFct S b) (aCod S) (aEnd S k) (aEnd S (k + 1) - aEnd S k) with
      | none => exact absurd hcv hne
      | some cv =>
        obtain ⟨τ, c1, c2⟩ := zm164 (d := d) (k := aEnd S k) (n := aEnd S (k + 1) - aEnd S k) (σ := σ) (by omega) (by omega) hS hcv
        rw [← ee] at c1
        have hS' : mS 61 S τ := mS_f hS (zFr_f c2 (fun i => by omega))
        have hcn := aCnd_s hcv
        rw [c1]
        simp only [zbs, zBi, hS' (91 + 4 * k) (by omega), he]
        cases cv
        · rw [cond_false]
          have e : aFst S b (n + 1) k = aFst S b n (k + 1) := by
            show (bif aUnd (S (7 + 5 * b)) (S (88 + 4 * k)) && aCnd S b k then some k else aFst S b n (k + 1)) = _
            rw [hcn, Bool.and_false]; rfl
          rw [e]
          obtain ⟨τ2, b1, b2⟩ := zm165_15 (d := d) w v u hb n (k + 1) τ _ _ _ hS' (by omega)
          exact ⟨τ2, b1, zFr_tt c2 b2⟩
        · rw [cond_true]
          have e : aFst S b (n + 1) k = some k := by
            show (bif aUnd (S (7 + 5 * b)) (S (88 + 4 * k)) && aCnd S b k then some k else aFst S b n (k + 1)) = _
            rw [q1, hcn]; rfl
          rw [e, ez_165_15]
          refine ⟨τ, ?_, c2⟩
          have hh := zm165_98 (d := d + 2) (o := some k) (σ := τ) (d4 := some (.inl (iI (aEnd S (k + 1))))) (d5 := some (.inl (iI ((k + 1 : Nat) : Int)))) (d6 := none) (d7 := none) (d8 := none) hS' w v u hb (fun j hj => by cases hj; omega)
          by_cases q : iI ((k + 1 : Nat) : Int) < τ.1 0 61 1
          · rw [if_pos q, if_neg (by show ¬ iI ((88 + 4 * k : Nat) : Int) < 0; rw [iI_lt0 (by omega)]; omega)]
            exact hh
          · rw [if_neg q]
            exact hh
theorem zm165 {d b : Nat} {S : zS} {σ : zM} (hS : mS 61 S σ) (w : wB S) (v : wW S) (u : wU S) (hb : b < (S 0).toNat) : ∃ τ, zev (d + 5) 165 [.inr (.inr (0, 60)), .inl (iI b)] σ = some (iI (aHold S b), 0, τ) ∧ zFr (Wk 0 64) σ τ := by
  have w0 := w.1
  have w1 := w.2.1
  rw [ez_165]
  have e0 := zm156 (d := d + 2) (b := b) (w := 0) hS (by omega)
  rw [show 7 + 5 * b + 0 = 7 + 5 * b by omega] at e0
  have e0 : zev (d + 4) 156 [.inr (.inr (0, 60)), .inl (iI b), .inl 0] σ = _ := e0
  simp only [e0, zbs]
  exact zm165_15 w v u hb ((S 1).toNat) 0 σ _ _ _ hS (by omega)
theorem aAbF_u {S : zS} (w : wB S) {u : Nat} : ∀ (n m c : Nat), c < n → c < m → c < (S 0).toNat → aAbF S n c u = aAbF S m c u
  | 0, _, _, h, _, _ => absurd h (Nat.not_lt_zero _)
  | _ + 1, 0, _, _, h, _ => absurd h (Nat.not_lt_zero _)
  | n + 1, m + 1, c, hn, hm, hc => by
    show (Nat.beq c u || (decide (0 ≤ aPar S c) && aAbF S n (aPar S c).toNat u)) = (Nat.beq c u || (decide (0 ≤ aPar S c) && aAbF S m (aPar S c).toNat u))
    by_cases q : 0 ≤ aPar S c
    · have w2 := w.2.2 c hc
      have hp : (aPar S c).toNat < c := by unfold aPar at q ⊢; omega
      rw [aAbF_u w n m (aPar S c).toNat (by omega) (by omega) (by omega)]
    · rw [decide_eq_false q, Bool.false_and, Bool.false_and]
theorem aAb_u {S : zS} (w : wB S) {c u : Nat} (hc : c < (S 0).toNat) : aAb S c u = (Nat.beq c u || aAbI S (aPar S c) u) := by
  have w1 := w.2.1
  show (Nat.beq c u || (decide (0 ≤ aPar S c) && aAbF S 8 (aPar S c).toNat u)) = (Nat.beq c u || (decide (0 ≤ aPar S c) && aAbF S 9 (aPar S c).toNat u))
  by_cases q : 0 ≤ aPar S c
  · have w2 := w.2.2 c hc
    have hp : (aPar S c).toNat < c := by unfold aPar at q ⊢; omega
    rw [aAbF_u w 8 9 (aPar S c).toNat (by omega) (by omega) (by omega)]
  · rw [decide_eq_false q, Bool.false_and, Bool.false_and]
theorem aAb_le {S : zS} (w : wB S) {u : Nat} : ∀ (n c : Nat), c < n → c < (S 0).toNat → aAb S c u = true → u ≤ c
  | 0, _, h, _, _ => absurd h (Nat.not_lt_zero _)
  | n + 1, c, hn, hc, h => by
    rw [aAb_u w hc, Bool.or_eq_true] at h
    rcases h with h | h
    · rw [Nat.eq_of_beq_eq_true h]; exact Nat.le_refl _
    · unfold aAbI at h
      rw [Bool.and_eq_true] at h
      have q := of_decide_eq_true h.1
      have w2 := w.2.2 c hc
      have hp : (aPar S c).toNat < c := by unfold aPar at q ⊢; omega
      have := aAb_le w n (aPar S c).toNat (by omega) (by omega) h.2
      omega
theorem aAbI_n {S : zS} {z : Int} {u : Nat} (h : z < 0) : aAbI S z u = false := by
  unfold aAbI
  rw [decide_eq_false (by omega), Bool.false_and]
theorem aAbI_p {S : zS} {c u : Nat} : aAbI S (c : Int) u = aAb S c u := by
  unfold aAbI
  rw [decide_eq_true (by omega), Bool.true_and, Int.toNat_natCast]
def aBw (S : zS) (b n : Nat) : Int := S 5 * S (9 + 5 * b) + zsum (fun p => bif aAbI S (aSeat S p) b then S (52 + 3 * p) else 0) n
theorem aBw_e {S : zS} {b : Nat} : aBw S b ((S 2).toNat) = aBear S b := rfl
theorem aBw_b {S : zS} {b n : Nat} (w : wB S) (v : wW S) (q : wP S) (hb : b < (S 0).toNat) (hn : n ≤ (S 2).toNat) : 0 ≤ aBw S b n ∧ aBw S b n ≤ 81 + 200 * n := by
  have w2 := w.2.2 b hb
  obtain ⟨-, -, v3, v4⟩ := v
  have h1 : 0 ≤ S 5 * S (9 + 5 * b) := Int.mul_nonneg v3 (by omega)
  have h2 : S 5 * S (9 + 5 * b) ≤ 9 * 9 := Int.mul_le_mul v4 (by omega) (by omega) (by omega)
  have h3 := zsum_le (a := 0) (b := 200) (n := n) (f := fun p => bif aAbI S (aSeat S p) b then S (52 + 3 * p) else 0) (fun i hi => by
    have q2 := q.2.2 i (by omega)
    cases aAbI S (aSeat S i) b
    · rw [cond_false]; omega
    · rw [cond_true]; omega)
  unfold aBw
  omega
theorem aBw_s {S : zS} {b n : Nat} : aBw S b (n + 1) = aBw S b n + (bif aAbI S (aSeat S n) b then S (52 + 3 * n) else 0) := by
  show _ + (zsum _ n + _) = (_ + zsum _ n) + _
  rw [Int.add_assoc]
theorem aSeat_r {S : zS} {p : Nat} (q : wP S) (hp : p < (S 2).toNat) : -1 ≤ aSeat S p ∧ aSeat S p < S 0 := by
  have q2 := q.2.2 p hp
  unfold aSeat
  omega
theorem zc26 {d g b : Nat} {S : zS} {σ : zM} (hB : cB g S σ) (hW : cW g S σ) (hP : cP g S σ) (w : wB S) (v : wW S) (q : wP S) (hb : b < (S 0).toNat) : zev (d + 3) 26 [.inr (.inr (g, 0)), .inl (iI b)] σ = some (iI (aBear S b), 0, σ) := by
  have w0 := w.1
  have w1 := w.2.1
  have q0 := q.1
  have q1 := q.2.1
  have key : ∀ i, i ≤ (S 2).toNat → zrun (zev (d + 2)) zT_26 20 [some (.inr (.inr (g, 0))), some (.inl (iI b)), some (.inl (iI (aBw S b i))), some (.inl (iI i))] [] σ = some (iI (aBear S b), 0, σ) := by
    intro i hi
    refine zloop (n := (S 2).toNat) (P := fun i => zrun (zev (d + 2)) zT_26 20 [some (.inr (.inr (g, 0))), some (.inl (iI b)), some (.inl (iI (aBw S b i))), some (.inl (iI i))] [] σ = some (iI (aBear S b), 0, σ)) ?_ ?_ hi
    · rw [ez_26_20, hP.1, if_neg (by rw [iI_lt (by omega) (by omega)]; omega), aBw_e]
    · intro i hi ih
      have hp := hP.2 i hi
      have hki : iI (i : Int) + 1 = iI ((i + 1 : Nat) : Int) := by rw [iI_a1]; congr 1 <;> omega
      rw [ez_26_20, hP.1, if_pos (by rw [iI_lt (by omega) (by omega)]; omega)]
      simp only [zgd_t (iI_ink (z := i) (k := i) rfl (show i < 8 by omega) (by decide)), iI_Nn (show i ≤ 2147483647 by omega), hp.2.2, zc15 hB ⟨w0, w1⟩ (aSeat_r q hi) (show b < 9 by omega), zbs, zBi, hki, hp.1]
      rw [aBw_s] at ih
      cases hh : aAbI S (aSeat S i) b
      · rw [hh, cond_false, Int.add_zero] at ih
        exact ih
      · rw [hh, cond_true] at ih
        rw [cond_true, iI_add]
        exact ih
  rw [ez_26]
  simp only [zgd_t (iI_ink (z := b) (k := b) rfl (show b < 9 by omega) (by decide)), iI_Nn (show b ≤ 2147483647 by omega), hW.2, (hB.2 b hb).2.2.1, iI_mul]
  have := key 0 (by omega)
  unfold aBw at this
  rw [show zsum _ 0 = 0 from rfl, Int.add_zero] at this
  exact this
abbrev Ws (g : Nat) : Nat → Nat → Nat → Prop := fun g' k' _ => g' = g ∧ (k' = 13 ∨ k' = 14 ∨ k' = 22)
def cS (g : Nat) (S : zS) (f : Nat → Int) (σ : zM) : Prop := ∀ b, b < (S 0).toNat → σ.1 g 22 b = iI (f b)
theorem cK_f {g : Nat} {S : zS} {σ τ : zM} (h : cK g S σ) (e : τ.1 g 1 = σ.1 g 1) : cK g S τ := by
  unfold cK at h ⊢
  rw [e]
  exact h
theorem cW_f {g : Nat} {S : zS} {σ τ : zM} (h : cW g S σ) (e : τ.1 g 1 = σ.1 g 1) : cW g S τ := by
  unfold cW at h ⊢
  rw [e]
  exact h
theorem cP_f {g : Nat} {S : zS} {σ τ : zM} (h : cP g S σ) (e : ∀ k, 15 ≤ k → k ≤ 18 → τ.1 g k = σ.1 g k) : cP g S τ := by
  unfold cP at h ⊢
  rw [e 15 (by decide) (by decide), e 16 (by decide) (by decide), e 17 (by decide) (by decide), e 18 (by decide) (by decide)]
  exact h
theorem cR_f {g : Nat} {S : zS} {σ τ : zM} (h : cR g S σ) (e : τ.1 g 19 0 = σ.1 g 19 0) (e2 : ∀ k, 20 ≤ k → k ≤ 21 → τ.1 g k = σ.1 g k) : cR g S τ := by
  unfold cR at h ⊢
  rw [e, e2 20 (by decide) (by decide), e2 21 (by decide) (by decide)]
  exact h
theorem cZ_f {g : Nat} {S : zS} {σ τ : zM} (h : cZ g S σ) (e : τ.1 g 0 3 = σ.1 g 0 3) : cZ g S τ := by
  unfold cZ at h ⊢
  rw [e]
  exact h
theorem cA_s {g : Nat} {S : zS} {σ τ : zM} (h : cA g S σ) (f : zFr (Ws g) σ τ) : cA g S τ := by
  have e : ∀ k, k ≠ 13 → k ≠ 14 → k ≠ 22 → τ.1 g k = σ.1 g k := fun k a b c => zFr_f f (fun i => by omega)
  obtain ⟨h1, h2, h3, h4, h5, h6, h7⟩ := h
  exact ⟨cB_f h1 fun k _ _ => e k (by omega) (by omega) (by omega), cK_f h2 (e 1 (by decide) (by decide) (by decide)), cW_f h3 (e 1 (by decide) (by decide) (by decide)), cP_f h4 fun k _ _ => e k (by omega) (by omega) (by omega), cR_f h5 (by rw [e 19 (by decide) (by decide) (by decide)]) fun k _ _ => e k (by omega) (by omega) (by omega), cU_f h6 fun k _ _ => e k (by omega) (by omega) (by omega), cZ_f h7 (by rw [e 0 (by decide) (by decide) (by decide)])⟩
abbrev fR (S : zS) (f : Nat → Int) : Prop := ∀ b, b < (S 0).toNat → -100000 ≤ f b ∧ f b ≤ 100000
def aSp (S : zS) (b : Nat) : Int := aHold S b - aBear S b
theorem aBear_b {S : zS} {b : Nat} (w : wB S) (v : wW S) (q : wP S) (hb : b < (S 0).toNat) : 0 ≤ aBear S b ∧ aBear S b ≤ 1681 := by
  have h := aBw_b (n := (S 2).toNat) w v q hb (Nat.le_refl _)
  have q1 := q.2.1
  rw [aBw_e] at h
  omega
theorem aSp_r {S : zS} (w : wA S) : fR S (aSp S) := by
  intro b hb
  have h1 := aBear_b w.1 w.2.1 w.2.2.1 hb
  have h2 := aHold_b w.1 w.2.1 w.2.2.2.2.1 hb
  unfold aSp
  omega
theorem hki1 {k : Nat} : iI (k : Int) + 1 = iI ((k + 1 : Nat) : Int) := by rw [iI_a1]; congr 1 <;> omega
theorem zc27 {d g : Nat} {S : zS} {σ : zM} (hA : cA g S σ) (w : wA S) : ∃ τ, zev (d + 5) 27 [.inr (.inr (g, 0))] σ = some (0, 0, τ) ∧ zFr (Ws g) σ τ ∧ cS g S (aSp S) τ := by
  obtain ⟨wb, ww, wp, wr, wu, wz⟩ := w
  have w0 := wb.1
  have w1 := wb.2.1
  have key : ∀ n k (τ0 : zM), k + n = (S 0).toNat → zFr (Ws g) σ τ0 → (∀ b, b < k → τ0.1 g 22 b = iI (aSp S b)) → ∃ τ, zrun (zev (d + 4)) zT_27 2 [some (.inr (.inr (g, 0))), some (.inl (iI k))] [] τ0 = some (0, 0, τ) ∧ zFr (Ws g) σ τ ∧ cS g S (aSp S) τ := by
    intro n
    induction n with
    | zero =>
      intro k τ0 hk f hs
      have hA0 := cA_s hA f
      rw [ez_27_2, hA0.1.1, if_neg (by rw [iI_lt (by omega) (by omega)]; omega)]
      exact ⟨τ0, rfl, f, fun b hb => hs b (by omega)⟩
    | succ n ih =>
      intro k τ0 hk f hs
      have hA0 := cA_s hA f
      obtain ⟨τ1, c1, c2⟩ := zc16 (d := d) (b := k) hA0.1 hA0.2.2.1 hA0.2.2.2.2.2.1 wb ww wu (by omega)
      have f1 : zFr (Ws g) σ τ1 := zFr_tt f (zFr_i c2 (fun _ _ _ q => ⟨q.1, by omega⟩))
      have hA1 := cA_s hA f1
      rw [ez_27_2, hA0.1.1, if_pos (by rw [iI_lt (by omega) (by omega)]; omega), c1]
      simp only [zbs, zc26 (d := d + 1) hA1.1 hA1.2.2.1 hA1.2.2.2.1 wb ww wp (show k < (S 0).toNat by omega), zgd_t (iI_ink (z := k) (k := k) rfl (show k < 9 by omega) (by decide)), iI_Nn (show k ≤ 2147483647 by omega), hki1, iI_sub]
      refine ih (k + 1) _ (by omega) (zFr_tt f1 (zFr_w ⟨rfl, by omega⟩)) (fun b hb => ?_)
      by_cases e : b = k
      · subst e; exact zfs
      · rw [zfe (fun z => e z.2.2), c2.1 _ _ _ (by omega)]
        exact hs b (by omega)
  rw [ez_27]
  exact key ((S 0).toNat) 0 σ (by omega) (zFr_r σ) (fun b hb => absurd hb (Nat.not_lt_zero _))
def aLd (S : zS) (f : Nat → Int) (z w : Int) : Nat → Int := fun u => f u - (bif aAbI S z u then w else 0)
theorem zc28 {d g : Nat} {S : zS} {σ : zM} {f : Nat → Int} {z x : Int} (hB : cB g S σ) (w : wB S) (hs : cS g S f σ) (hz : -1 ≤ z ∧ z < S 0) : ∃ τ, zev (d + 3) 28 [.inr (.inr (g, 0)), .inl (iI (cE z)), .inl (iI x)] σ = some (0, 0, τ) ∧ zFr (Wk g 22) σ τ ∧ cS g S (aLd S f z x) τ := by
  have w0 := w.1
  have w1 := w.2.1
  have key : ∀ n k (τ0 : zM), k + n = (S 0).toNat → zFr (Wk g 22) σ τ0 → (∀ b, b < (S 0).toNat → τ0.1 g 22 b = iI (if b < k then aLd S f z x b else f b)) → ∃ τ, zrun (zev (d + 2)) zT_28 2 [some (.inr (.inr (g, 0))), some (.inl (iI (cE z))), some (.inl (iI x)), some (.inl (iI k))] [] τ0 = some (0, 0, τ) ∧ zFr (Wk g 22) σ τ ∧ cS g S (aLd S f z x) τ := by
    intro n
    induction n with
    | zero =>
      intro k τ0 hk f0 hs0
      have hB0 : cB g S τ0 := cB_f hB fun k _ _ => zFr_f f0 (fun i => by omega)
      rw [ez_28_2, hB0.1, if_neg (by rw [iI_lt (by omega) (by omega)]; omega)]
      exact ⟨τ0, rfl, f0, fun b hb => by rw [hs0 b hb, if_pos (by omega)]⟩
    | succ n ih =>
      intro k τ0 hk f0 hs0
      have hB0 : cB g S τ0 := cB_f hB fun k _ _ => zFr_f f0 (fun i => by omega)
      rw [ez_28_2, hB0.1, if_pos (by rw [iI_lt (by omega) (by omega)]; omega), zc15 hB0 ⟨w0, w1⟩ hz (show k < 9 by omega)]
      simp only [zbs, zBi, zgd_t (iI_ink (z := k) (k := k) rfl (show k < 9 by omega) (by decide)), iI_Nn (show k ≤ 2147483647 by omega), hki1, hs0 k (by omega)]
      have hlk : aLd S f z x k = f k - (bif aAbI S z k then x else 0) := rfl
      cases hh : aAbI S z k
      · rw [hh] at hlk
        simp only [cond_false] at hlk ⊢
        refine ih (k + 1) τ0 (by omega) f0 (fun b hb => ?_)
        rw [hs0 b hb]
        by_cases e : b = k
        · subst e; rw [if_neg (Nat.lt_irrefl _), if_pos (Nat.lt_succ_self _), hlk, Int.sub_zero]
        · by_cases e2 : b < k
          · rw [if_pos e2, if_pos (by omega)]
          · rw [if_neg e2, if_neg (by omega)]
      · rw [hh] at hlk
        simp only [cond_true] at hlk ⊢
        rw [if_neg (Nat.lt_irrefl _), iI_sub]
        refine ih (k + 1) _ (by omega) (zFr_tt f0 (zFr_w ⟨rfl, rfl⟩)) (fun b hb => ?_)
        by_cases e : b = k
        · subst e; rw [zfs, if_pos (Nat.lt_succ_self _), hlk]
        · rw [zfe (fun q => e q.2.2), hs0 b hb]
          by_cases e2 : b < k
          · rw [if_pos e2, if_pos (by omega)]
          · rw [if_neg e2, if_neg (by omega)]
  rw [ez_28]
  exact key ((S 0).toNat) 0 σ (by omega) (zFr_r σ) (fun b hb => by rw [hs b hb, if_neg (Nat.not_lt_zero _)])
def zcr (p : Nat → Bool) : Nat → Int32
  | 0 => 0
  | n + 1 => bif p n then zcr p n ||| (1 <<< (iI n &&& 31)) else zcr p n
theorem zcr_c {p q : Nat → Bool} : ∀ {n : Nat}, (∀ i, i < n → p i = q i) → zcr p n = zcr q n
  | 0, _ => rfl
  | n + 1, h => by
    show (bif p n then _ else _) = (bif q n then _ else _)
    rw [zcr_c (fun i hi => h i (by omega)), h n (by omega)]
theorem zcr_b {p : Nat → Bool} : ∀ (n : Nat), n ≤ 32 → ∀ i, i < 32 → bt (zcr p n) i = (decide (i < n) && p i)
  | 0, _, i, _ => by rw [decide_eq_false (Nat.not_lt_zero _), Bool.false_and]; exact b_0 i
  | n + 1, hn, i, hi => by
    have h := zcr_b (p := p) n (by omega) i hi
    have b1 : ∀ i, i < 32 → bt 1 i = decide (i = 0) := by decide +kernel
    have hs : bt (1 <<< (iI n &&& 31)) i = decide (i = n) := by
      rw [← nI_iI, b_shl n (by omega) 1 hi]
      by_cases q : n ≤ i
      · rw [decide_eq_true q, Bool.true_and, b1 _ (by omega)]
        exact zdec (by omega)
      · rw [decide_eq_false q, Bool.false_and, decide_eq_false (by omega)]
    show bt (bif p n then _ else _) i = _
    by_cases e : i = n
    · subst e
      rw [decide_eq_true (Nat.lt_succ_self _), Bool.true_and]
      rw [decide_eq_false (Nat.lt_irrefl _), Bool.false_and] at h
      cases hp : p i
      · rw [cond_false, h]
      · rw [cond_true, b_or, h, hs, decide_eq_true rfl]; rfl
    · rw [zdec (show i < n + 1 ↔ i < n by omega)]
      cases hp : p n
      · rw [cond_false, h]
      · rw [cond_true, b_or, h, hs, decide_eq_false e, Bool.or_false]
theorem zcr_0 {p : Nat → Bool} {n : Nat} (hn : n ≤ 32) : (zcr p n = 0) = (∀ i, i < n → p i = false) := by
  refine propext ⟨fun h i hi => ?_, fun h => ?_⟩
  · have := zcr_b (p := p) n hn i (by omega)
    rw [h, b_0, decide_eq_true hi, Bool.true_and] at this
    exact this.symm
  · refine b_ext fun i hi => ?_
    rw [zcr_b n hn i hi, b_0]
    by_cases q : i < n
    · rw [h i q, Bool.and_false]
    · rw [decide_eq_false q, Bool.false_and]
def aCr (S : zS) (f : Nat → Int) (b : Nat) : Bool := decide (f b < 0) && !aBrk S b
theorem zc29 {d g : Nat} {S : zS} {σ : zM} {f : Nat → Int} (hB : cB g S σ) (hK : cK g S σ) (w : wB S) (hs : cS g S f σ) (hf : fR S f) : zev (d + 3) 29 [.inr (.inr (g, 0))] σ = some (zcr (aCr S f) ((S 0).toNat), 0, σ) := by
  have w0 := w.1
  have w1 := w.2.1
  have key : ∀ i, i ≤ (S 0).toNat → zrun (zev (d + 2)) zT_29 4 [some (.inr (.inr (g, 0))), some (.inl (zcr (aCr S f) i)), some (.inl (iI i))] [] σ = some (zcr (aCr S f) ((S 0).toNat), 0, σ) := by
    intro i hi
    refine zloop (n := (S 0).toNat) (P := fun i => zrun (zev (d + 2)) zT_29 4 [some (.inr (.inr (g, 0))), some (.inl (zcr (aCr S f) i)), some (.inl (iI i))] [] σ = some (zcr (aCr S f) ((S 0).toNat), 0, σ)) ?_ ?_ hi
    · rw [ez_29_4, hB.1, if_neg (by rw [iI_lt (by omega) (by omega)]; omega)]
    · intro i hi ih
      have hr := hf i hi
      have e : zcr (aCr S f) (i + 1) = bif aCr S f i then zcr (aCr S f) i ||| (1 <<< (iI i &&& 31)) else zcr (aCr S f) i := rfl
      rw [ez_29_4, hB.1, if_pos (by rw [iI_lt (by omega) (by omega)]; omega)]
      simp only [zgd_t (iI_ink (z := i) (k := i) rfl (show i < 9 by omega) (by decide)), iI_Nn (show i ≤ 2147483647 by omega), hs i hi, iI_lt0 (show zrn (f i) by omega), hki1]
      rw [show aCr S f i = (decide (f i < 0) && !aBrk S i) from rfl] at e
      by_cases q : f i < 0
      · rw [if_pos q, zc14 hB hK w (by omega)]
        simp only [zbs, zBi, Int.toNat_natCast, decide_eq_true (show (0 : Int) ≤ i ∧ (i : Int) < S 0 by omega), Bool.true_and]
        rw [decide_eq_true q, Bool.true_and] at e
        cases hh : aBrk S i
        · rw [hh] at e
          simp only [Bool.not_false, cond_true] at e ⊢
          rw [← e]; exact ih
        · rw [hh] at e
          simp only [Bool.not_true, cond_false] at e ⊢
          rw [← e]; exact ih
      · rw [if_neg q]
        rw [decide_eq_false q, Bool.false_and, cond_false] at e
        rw [← e]; exact ih
  rw [ez_29]
  exact key 0 (by omega)
def aLst (S : zS) (f : Nat → Int) : Nat → Int
  | 0 => -1
  | n + 1 => if aBrk S n = false ∧ (aLst S f n < 0 ∨ f n < f (aLst S f n).toNat) then (n : Int) else aLst S f n
theorem aLst_r {S : zS} {f : Nat → Int} : ∀ (n : Nat), -1 ≤ aLst S f n ∧ aLst S f n < n
  | 0 => ⟨by show -1 ≤ (-1 : Int); omega, by show (-1 : Int) < ((0 : Nat) : Int); omega⟩
  | n + 1 => by
    have h := aLst_r (S := S) (f := f) n
    show -1 ≤ (if _ then _ else _) ∧ (if _ then _ else _) < _
    split <;> omega
theorem zc31 {d g : Nat} {S : zS} {σ : zM} {f : Nat → Int} (hB : cB g S σ) (hK : cK g S σ) (w : wB S) (hs : cS g S f σ) (hf : fR S f) : zev (d + 3) 31 [.inr (.inr (g, 0))] σ = some (iI (cE (aLst S f ((S 0).toNat))), 0, σ) := by
  have w0 := w.1
  have w1 := w.2.1
  have key : ∀ i, i ≤ (S 0).toNat → zrun (zev (d + 2)) zT_31 5 [some (.inr (.inr (g, 0))), some (.inl (iI (cE (aLst S f i)))), some (.inl (iI i))] [] σ = some (iI (cE (aLst S f ((S 0).toNat))), 0, σ) := by
    intro i hi
    refine zloop (n := (S 0).toNat) (P := fun i => zrun (zev (d + 2)) zT_31 5 [some (.inr (.inr (g, 0))), some (.inl (iI (cE (aLst S f i)))), some (.inl (iI i))] [] σ = some (iI (cE (aLst S f ((S 0).toNat))), 0, σ)) ?_ ?_ hi
    · rw [ez_31_5, hB.1, if_neg (by rw [iI_lt (by omega) (by omega)]; omega)]
    · intro i hi ih
      have hr := hf i hi
      have hl := aLst_r (S := S) (f := f) i
      have hcz : zrn (cE (aLst S f i)) := by unfold cE; split <;> omega
      have e : aLst S f (i + 1) = if aBrk S i = false ∧ (aLst S f i < 0 ∨ f i < f (aLst S f i).toNat) then (i : Int) else aLst S f i := rfl
      have hci : cE (i : Int) = i := if_neg (by omega)
      rw [ez_31_5, hB.1, if_pos (by rw [iI_lt (by omega) (by omega)]; omega), zc14 hB hK w (by omega)]
      simp only [zbs, zBi, Int.toNat_natCast, decide_eq_true (show (0 : Int) ≤ i ∧ (i : Int) < S 0 by omega), Bool.true_and, hki1, iI_n9 hcz]
      cases hh : aBrk S i
      · simp only [Bool.not_false, cond_true]
        by_cases q : aLst S f i < 0
        · rw [if_pos (⟨hh, Or.inl q⟩ : aBrk S i = false ∧ _)] at e
          rw [if_pos (show cE (aLst S f i) = -9 from if_pos q)]
          rw [e, hci] at ih
          exact ih
        · have hce : cE (aLst S f i) = aLst S f i := if_neg q
          rw [if_neg (by rw [hce]; omega), hce]
          obtain ⟨m, hm⟩ := zint (show 0 ≤ aLst S f i by omega)
          rw [hm] at e hl hce ⊢
          have hr2 := hf m (by omega)
          simp only [zgd_t (iI_ink (z := i) (k := i) rfl (show i < 9 by omega) (by decide)), iI_Nn (show i ≤ 2147483647 by omega), zgd_t (iI_ink (z := m) (k := m) rfl (show m < 9 by omega) (by decide)), iI_Nn (show m ≤ 2147483647 by omega), hs i hi, hs m (by omega), iI_lt (show zrn (f i) by omega) (show zrn (f m) by omega)]
          rw [Int.toNat_natCast] at e
          by_cases q2 : f i < f m
          · rw [if_pos (⟨hh, Or.inr q2⟩ : aBrk S i = false ∧ _)] at e
            rw [if_pos q2]
            rw [e, hci] at ih
            exact ih
          · rw [if_neg (fun z => z.2.elim (fun y => by omega) q2)] at e
            rw [if_neg q2]
            rw [e, hce] at ih
            exact ih
      · simp only [Bool.not_true, cond_false]
        rw [if_neg (fun z => by rw [hh] at z; cases z.1)] at e
        rw [e] at ih
        exact ih
  rw [ez_31]
  exact key 0 (by omega)
theorem mS_g {S : zS} {σ τ : zM} {W : Nat → Nat → Nat → Prop} (h : mS 61 S σ) (f : zFr W σ τ) (q : ∀ i, ¬ W 0 61 i) : mS 61 S τ := mS_f h (zFr_f f q)
theorem zm166 {d : Nat} {S : zS} {σ : zM} (hS : mS 61 S σ) (w : wB S) (v : wW S) (u : wU S) : ∃ τ, zev (d + 6) 166 [.inr (.inr (0, 60))] σ = some (0, 0, τ) ∧ zFr (fun g k _ => g = 0 ∧ (k = 64 ∨ k = 65)) σ τ ∧ ∀ b, b < (S 0).toNat → τ.1 0 65 b = iI (aHold S b) := by
  have w0 := w.1
  have w1 := w.2.1
  have key : ∀ n k (τ0 : zM), k + n = (S 0).toNat → zFr (fun g k _ => g = 0 ∧ (k = 64 ∨ k = 65)) σ τ0 → (∀ b, b < k → τ0.1 0 65 b = iI (aHold S b)) → ∃ τ, zrun (zev (d + 5)) zT_166 2 [some (.inr (.inr (0, 60))), some (.inl (iI k))] [] τ0 = some (0, 0, τ) ∧ zFr (fun g k _ => g = 0 ∧ (k = 64 ∨ k = 65)) σ τ ∧ ∀ b, b < (S 0).toNat → τ.1 0 65 b = iI (aHold S b) := by
    intro n
    induction n with
    | zero =>
      intro k τ0 hk f hs
      have hS0 := mS_g hS f (fun i => by omega)
      rw [ez_166_2, hS0 0 (by decide), if_neg (by rw [iI_lt (by omega) (by omega)]; omega)]
      exact ⟨τ0, rfl, f, fun b hb => hs b (by omega)⟩
    | succ n ih =>
      intro k τ0 hk f hs
      have hS0 := mS_g hS f (fun i => by omega)
      obtain ⟨τ1, c1, c2⟩ := zm165 (d := d) (b := k) hS0 w v u (by omega)
      have f1 : zFr (fun g k _ => g = 0 ∧ (k = 64 ∨ k = 65)) σ τ1 := zFr_tt f (zFr_i c2 (fun _ _ _ q => ⟨q.1, Or.inl q.2⟩))
      rw [ez_166_2, hS0 0 (by decide), if_pos (by rw [iI_lt (by omega) (by omega)]; omega), c1]
      simp only [zbs, zgd_t (iI_ink (z := k) (k := k) rfl (show k < 9 by omega) (by decide)), iI_Nn (show k ≤ 2147483647 by omega), hki1]
      refine ih (k + 1) _ (by omega) (zFr_tt f1 (zFr_w ⟨rfl, Or.inr rfl⟩)) (fun b hb => ?_)
      by_cases e : b = k
      · subst e; exact zfs
      · rw [zfe (fun z => e z.2.2), c2.1 _ _ _ (by omega)]
        exact hs b (by omega)
  rw [ez_166]
  exact key ((S 0).toNat) 0 σ (by omega) (zFr_r σ) (fun b hb => absurd hb (Nat.not_lt_zero _))
def mR (k : Nat) (S : zS) (f : Nat → Int) (σ : zM) : Prop := ∀ b, b < (S 0).toNat → σ.1 0 k b = iI (f b)
theorem mR_f {k : Nat} {S : zS} {f : Nat → Int} {σ τ : zM} (h : mR k S f σ) (e : τ.1 0 k = σ.1 0 k) : mR k S f τ := fun b hb => by rw [e]; exact h b hb
theorem zm167 {d : Nat} {S : zS} {x : Int} (w : wB S) : ∀ (n : Nat) (z : Int) (f : Nat → Int) (σ : zM) (d1 : Option zV), z < n → z < S 0 → -1 ≤ z → mS 61 S σ → mR 66 S f σ → ∃ τ, zrun (zev (d + 3)) zT_167 2 [some (.inr (.inr (0, 60))), d1, some (.inl (iI x)), some (.inl (iI z))] [] σ = some (0, 0, τ) ∧ zFr (Wk 0 66) σ τ ∧ mR 66 S (fun u => f u + (bif aAbI S z u then x else 0)) τ
  | 0, z, f, σ, d1, hz, hz0, hz1, hS, hf => by
    rw [ez_167_2, if_pos (by rw [iI_lt0 (by omega)]; omega)]
    exact ⟨σ, rfl, zFr_r σ, fun b hb => by dsimp only; rw [aAbI_n (by omega), cond_false, Int.add_zero]; exact hf b hb⟩
  | n + 1, z, f, σ, d1, hz, hz0, hz1, hS, hf => by
    have w0 := w.1
    have w1 := w.2.1
    rw [ez_167_2]
    by_cases q : z < 0
    · rw [if_pos (by rw [iI_lt0 (by omega)]; omega)]
      exact ⟨σ, rfl, zFr_r σ, fun b hb => by dsimp only; rw [aAbI_n q, cond_false, Int.add_zero]; exact hf b hb⟩
    · obtain ⟨c, rfl⟩ := zint (show 0 ≤ z by omega)
      have w2 := w.2.2 c (by omega)
      have hp : aPar S c < c ∧ -1 ≤ aPar S c := by unfold aPar; omega
      rw [if_neg (by rw [iI_lt0 (by omega)]; omega)]
      simp only [zgd_t (iI_ink (z := c) (k := c) rfl (show c < 9 by omega) (by decide)), iI_Nn (show c ≤ 2147483647 by omega), hf c (by omega), iI_add]
      have hS1 : mS 61 S (zwI σ 0 66 c (iI (f c + x))) := mS_f hS (zfn (by decide))
      rw [zm158 (d := d) hS1 (show c < 9 by omega)]
      simp only [zbs]
      obtain ⟨τ, b1, b2, b3⟩ := zm167 (d := d) w n (aPar S c) (fun u => if u = c then f c + x else f u) (zwI σ 0 66 c (iI (f c + x))) none (by omega) (by omega) (by omega) hS1 (fun b hb => by
        try dsimp only
        by_cases e : b = c
        · subst e; rw [if_pos rfl]; exact zfs
        · rw [if_neg e, zfe (fun q => e q.2.2)]; exact hf b hb)
      refine ⟨τ, b1, zFr_tt (zFr_w ⟨rfl, rfl⟩) b2, fun b hb => ?_⟩
      rw [b3 b hb]
      congr 1
      try dsimp only
      rw [aAbI_p, aAb_u w (show c < (S 0).toNat by omega)]
      by_cases e : b = c
      · subst e
        have hn : aAbI S (aPar S b) b = false := by
          by_cases q2 : aPar S b < 0
          · exact aAbI_n q2
          · obtain ⟨m, hm⟩ := zint (show 0 ≤ aPar S b by omega)
            rw [hm, aAbI_p]
            cases hx : aAb S m b
            · rfl
            · have := aAb_le w (m + 1) m (by omega) (by omega) hx
              omega
        rw [if_pos rfl, hn, Nat.beq_refl, cond_false, Bool.true_or, cond_true, Int.add_zero]
      · have hb' : Nat.beq c b = false := by
          cases hx : Nat.beq c b
          · rfl
          · exact absurd (Nat.eq_of_beq_eq_true hx).symm e
        rw [if_neg e, hb', Bool.false_or]
theorem zm167e {d : Nat} {S : zS} {x z : Int} {f : Nat → Int} {σ : zM} (w : wB S) (hz0 : z < S 0) (hz1 : -1 ≤ z) (hS : mS 61 S σ) (hf : mR 66 S f σ) : ∃ τ, zev (d + 4) 167 [.inr (.inr (0, 60)), .inl (iI z), .inl (iI x)] σ = some (0, 0, τ) ∧ zFr (Wk 0 66) σ τ ∧ mR 66 S (fun u => f u + (bif aAbI S z u then x else 0)) τ := by
  have w1 := w.2.1
  rw [ez_167]
  exact zm167 w 9 z f σ _ (by omega) hz0 hz1 hS hf
theorem zm168 {d : Nat} {S : zS} {σ : zM} (hS : mS 61 S σ) (w : wB S) (v : wW S) (q : wP S) : ∃ τ, zev (d + 6) 168 [.inr (.inr (0, 60))] σ = some (0, 0, τ) ∧ zFr (Wk 0 66) σ τ ∧ mR 66 S (aBear S) τ := by
  have w0 := w.1
  have w1 := w.2.1
  have q0 := q.1
  have q1 := q.2.1
  have key2 : ∀ n k (τ0 : zM), k + n = (S 2).toNat → zFr (Wk 0 66) σ τ0 → mR 66 S (fun b => aBw S b k) τ0 → ∃ τ, zrun (zev (d + 5)) zT_168 39 [some (.inr (.inr (0, 60))), some (.inl (iI k))] [] τ0 = some (0, 0, τ) ∧ zFr (Wk 0 66) σ τ ∧ mR 66 S (aBear S) τ := by
    intro n
    induction n with
    | zero =>
      intro k τ0 hk f hs
      have hS0 := mS_g hS f (fun i => by omega)
      rw [ez_168_39, hS0 2 (by decide), if_neg (by rw [iI_lt (by omega) (by omega)]; omega)]
      exact ⟨τ0, rfl, f, fun b hb => by rw [hs b hb, show k = (S 2).toNat by omega]; rfl⟩
    | succ n ih =>
      intro k τ0 hk f hs
      have hS0 := mS_g hS f (fun i => by omega)
      have hr := aSeat_r q (show k < (S 2).toNat by omega)
      have e8 := zm178 (d := d + 3) (p := k) (w := 0) hS0 (by omega)
      have e8 : zev (d + 5) 178 [.inr (.inr (0, 60)), .inl (iI k), .inl 0] τ0 = some (iI (S (52 + 3 * k)), 0, τ0) := e8
      obtain ⟨τ1, c1, c2, c3⟩ := zm167e (d := d + 1) (x := S (52 + 3 * k)) w hr.2 hr.1 hS0 hs
      rw [ez_168_39, hS0 2 (by decide), if_pos (by rw [iI_lt (by omega) (by omega)]; omega)]
      simp only [zm179 (d := d + 2) hS0 (show k < 8 by omega), zbs, e8, c1, hki1]
      exact ih (k + 1) τ1 (by omega) (zFr_tt f c2) (fun b hb => by rw [c3 b hb]; dsimp only; rw [aBw_s])
  have key : ∀ n k (τ0 : zM), k + n = (S 0).toNat → zFr (Wk 0 66) σ τ0 → (∀ b, b < k → τ0.1 0 66 b = iI (S 5 * S (9 + 5 * b))) → ∃ τ, zrun (zev (d + 5)) zT_168 2 [some (.inr (.inr (0, 60))), some (.inl (iI k))] [] τ0 = some (0, 0, τ) ∧ zFr (Wk 0 66) σ τ ∧ mR 66 S (aBear S) τ := by
    intro n
    induction n with
    | zero =>
      intro k τ0 hk f hs
      have hS0 := mS_g hS f (fun i => by omega)
      rw [ez_168_2, hS0 0 (by decide), if_neg (by rw [iI_lt (by omega) (by omega)]; omega)]
      exact key2 ((S 2).toNat) 0 τ0 (by omega) f (fun b hb => by
        rw [hs b (by omega)]
        congr 1
        show _ = _ + zsum _ 0
        rw [show zsum _ 0 = 0 from rfl, Int.add_zero])
    | succ n ih =>
      intro k τ0 hk f hs
      have hS0 := mS_g hS f (fun i => by omega)
      have e2 := zm156 (d := d + 3) (b := k) (w := 2) hS0 (by omega)
      rw [show 7 + 5 * k + 2 = 9 + 5 * k by omega] at e2
      have e2 : zev (d + 5) 156 [.inr (.inr (0, 60)), .inl (iI k), .inl 2] τ0 = _ := e2
      rw [ez_168_2, hS0 0 (by decide), if_pos (by rw [iI_lt (by omega) (by omega)]; omega)]
      simp only [e2, zbs, zgd_t (iI_ink (z := k) (k := k) rfl (show k < 9 by omega) (by decide)), iI_Nn (show k ≤ 2147483647 by omega), hki1, hS0 5 (by decide), iI_mul]
      refine ih (k + 1) _ (by omega) (zFr_tt f (zFr_w ⟨rfl, rfl⟩)) (fun b hb => ?_)
      by_cases e : b = k
      · subst e; exact zfs
      · rw [zfe (fun z => e z.2.2)]
        exact hs b (by omega)
  rw [ez_168]
  exact key ((S 0).toNat) 0 σ (by omega) (zFr_r σ) (fun b hb => absurd hb (Nat.not_lt_zero _))
def mF (S : zS) (f : Nat → Int) (σ : zM) : Prop := ∃ h e : Nat → Int, mR 65 S h σ ∧ mR 66 S e σ ∧ ∀ b, b < (S 0).toNat → f b = h b - e b ∧ zrn (h b) ∧ zrn (e b)
theorem zm169 {d b : Nat} {S : zS} {σ : zM} {f : Nat → Int} (hS : mS 61 S σ) (w : wB S) (hf : mF S f σ) (hb : b < (S 0).toNat) : zev (d + 4) 169 [.inr (.inr (0, 60)), .inl (iI b)] σ = some (zB (aCr S f b), 0, σ) := by
  have w1 := w.2.1
  have w2 := w.2.2 b hb
  obtain ⟨h, e, h1, h2, h3⟩ := hf
  obtain ⟨h4, h5, h6⟩ := h3 b hb
  rw [ez_169]
  simp only [zm157 (d := d) hS (show b < 9 by omega) (by omega), zbs, zBi]
  unfold aCr
  cases aBrk S b
  · rw [cond_false]
    simp only [zgd_t (iI_ink (z := b) (k := b) rfl (show b < 9 by omega) (by decide)), iI_Nn (show b ≤ 2147483647 by omega), h1 b hb, h2 b hb, iI_lt h5 h6]
    rw [zB_d, Bool.not_false, Bool.and_true]
    congr 2
    congr 1
    exact zdec (by omega)
  · rw [cond_true, Bool.not_true, Bool.and_false]
    exact zgd_t rfl
theorem zm170_8 {d : Nat} {S : zS} {σ : zM} {f : Nat → Int} (hS : mS 61 S σ) (w : wB S) (hf : mF S f σ) : zrun (zev (d + 4)) zT_170 8 [some (.inr (.inr (0, 60))), some (.inl 0), some (.inl 0)] [] σ = some (zcr (aCr S f) ((S 0).toNat), 0, σ) := by
  have w0 := w.1
  have w1 := w.2.1
  have key : ∀ i, i ≤ (S 0).toNat → zrun (zev (d + 4)) zT_170 8 [some (.inr (.inr (0, 60))), some (.inl (zcr (aCr S f) i)), some (.inl (iI i))] [] σ = some (zcr (aCr S f) ((S 0).toNat), 0, σ) := by
    intro i hi
    refine zloop (n := (S 0).toNat) (P := fun i => zrun (zev (d + 4)) zT_170 8 [some (.inr (.inr (0, 60))), some (.inl (zcr (aCr S f) i)), some (.inl (iI i))] [] σ = some (zcr (aCr S f) ((S 0).toNat), 0, σ)) ?_ ?_ hi
    · rw [ez_170_8, hS 0 (by decide), if_neg (by rw [iI_lt (by omega) (by omega)]; omega)]
    · intro i hi ih
      have e : zcr (aCr S f) (i + 1) = bif aCr S f i then zcr (aCr S f) i ||| (1 <<< (iI i &&& 31)) else zcr (aCr S f) i := rfl
      rw [ez_170_8, hS 0 (by decide), if_pos (by rw [iI_lt (by omega) (by omega)]; omega)]
      simp only [zm169 (d := d) hS w hf hi, zbs, zBi, hki1, Int32.or_zero]
      cases hh : aCr S f i
      · rw [hh, cond_false] at e
        rw [cond_false, ← e]; exact ih
      · rw [hh, cond_true] at e
        rw [cond_true, ← e]; exact ih
  exact key 0 (by omega)
theorem aAbF_c {S T : zS} {u : Nat} (h : ∀ b, b < 9 → T (8 + 5 * b) = S (8 + 5 * b)) (w : wB S) : ∀ (n c : Nat), c < (S 0).toNat → aAbF T n c u = aAbF S n c u
  | 0, _, _ => rfl
  | n + 1, c, hc => by
    have w1 := w.2.1
    have e : aPar T c = aPar S c := by unfold aPar; rw [h c (by omega)]
    show (Nat.beq c u || (decide (0 ≤ aPar T c) && aAbF T n (aPar T c).toNat u)) = (Nat.beq c u || (decide (0 ≤ aPar S c) && aAbF S n (aPar S c).toNat u))
    rw [e]
    by_cases q : 0 ≤ aPar S c
    · have w2 := w.2.2 c hc
      have hp : (aPar S c).toNat < c := by unfold aPar at q ⊢; omega
      rw [aAbF_c h w n _ (by omega)]
    · rw [decide_eq_false q, Bool.false_and, Bool.false_and]
theorem aAb_c {S T : zS} {c u : Nat} (h : ∀ b, b < 9 → T (8 + 5 * b) = S (8 + 5 * b)) (w : wB S) (hc : c < (S 0).toNat) : aAb T c u = aAb S c u := aAbF_c h w 9 c hc
theorem aAbI_c {S T : zS} {z : Int} {u : Nat} (h : ∀ b, b < 9 → T (8 + 5 * b) = S (8 + 5 * b)) (w : wB S) (hz : z < S 0) : aAbI T z u = aAbI S z u := by
  by_cases q : z < 0
  · rw [aAbI_n q, aAbI_n q]
  · obtain ⟨m, rfl⟩ := zint (show 0 ≤ z by omega)
    rw [aAbI_p, aAbI_p, aAb_c h w (by omega)]
abbrev dH (i : Nat) : Prop := i = 1 ∨ i = 4 ∨ i = 5 ∨ (7 ≤ i ∧ i < 52 ∧ (i - 7) % 5 ≠ 4) ∨ 88 ≤ i
theorem aEnd_c {S T : zS} (h : ∀ i, 88 ≤ i → T i = S i) : ∀ k, aEnd T k = aEnd S k
  | 0 => rfl
  | k + 1 => by
    show (T (91 + 4 * k)).toNat = (S (91 + 4 * k)).toNat
    rw [h _ (by omega)]
theorem aCod_c {S T : zS} (h : ∀ i, 88 ≤ i → T i = S i) : aCod T = aCod S := funext fun k => by
  show iI (T (120 + k)) = iI (S (120 + k))
  rw [h _ (by omega)]
theorem aFct_c {S T : zS} {b : Nat} (hb : b < 9) (h : ∀ i, dH i → T i = S i) : aFct T b = aFct S b := funext fun i => by
  unfold aFct
  split
  · rw [h 4 (by omega)]
  · rw [h 5 (by omega)]
  · rw [h (9 + 5 * b) (by omega)]
  · rw [h (10 + 5 * b) (by omega)]
  · rfl
theorem aFst_c {S T : zS} {b : Nat} (hb : b < 9) (h : ∀ i, dH i → T i = S i) : ∀ n k, aFst T b n k = aFst S b n k
  | 0, _ => rfl
  | n + 1, k => by
    have h8 : ∀ i, 88 ≤ i → T i = S i := fun i hi => h i (by omega)
    have e : aCnd T b k = aCnd S b k := by
      unfold aCnd
      rw [aFct_c hb h, aCod_c h8, aEnd_c h8, aEnd_c h8]
    show (bif aUnd (T (7 + 5 * b)) (T (88 + 4 * k)) && aCnd T b k then some k else aFst T b n (k + 1)) = (bif aUnd (S (7 + 5 * b)) (S (88 + 4 * k)) && aCnd S b k then some k else aFst S b n (k + 1))
    rw [e, h (7 + 5 * b) (by omega), h (88 + 4 * k) (by omega), aFst_c hb h n (k + 1)]
theorem aHold_c {S T : zS} {b : Nat} (hb : b < 9) (h : ∀ i, dH i → T i = S i) : aHold T b = aHold S b := by
  have e1 : aHld T b = aHld S b := by
    unfold aHld
    rw [h 1 (by omega), aFst_c hb h]
    generalize aFst S b ((S 1).toNat) 0 = o
    cases o with
    | none => exact h (10 + 5 * b) (by omega)
    | some k =>
      unfold aHlf
      try dsimp only
      rw [h (10 + 5 * b) (by omega), h (89 + 4 * k) (by omega), h (90 + 4 * k) (by omega)]
  unfold aHold
  rw [e1]
  unfold aKnd
  rw [h (7 + 5 * b) (by omega), h (9 + 5 * b) (by omega), h 4 (by omega)]
def aSit (S : zS) (p : Nat) (z : Int) : zS := zup S (54 + 3 * p) (z + 1)
theorem aSit_n {S : zS} {p : Nat} {z : Int} {i : Nat} (h : i ≠ 54 + 3 * p) : aSit S p z i = S i := zup_n h
theorem aSit_s {S : zS} {p : Nat} {z : Int} : aSeat (aSit S p z) p = z := by
  unfold aSeat aSit
  rw [zup_s]; omega
theorem aSit_o {S : zS} {p q : Nat} {z : Int} (h : q ≠ p) : aSeat (aSit S p z) q = aSeat S q := by
  unfold aSeat
  rw [aSit_n (by omega)]
theorem aSit_hold {S : zS} {p : Nat} {z : Int} (hp : p < 8) {b : Nat} (hb : b < 9) : aHold (aSit S p z) b = aHold S b := aHold_c hb fun i hi => aSit_n (by omega)
theorem aSit_ab {S : zS} {p : Nat} {z y : Int} (hp : p < 8) (w : wB S) (hy : y < S 0) {u : Nat} : aAbI (aSit S p z) y u = aAbI S y u := aAbI_c (fun b hb => aSit_n (by omega)) w hy
theorem wB_c {S T : zS} (w : wB S) (h0 : T 0 = S 0) (h : ∀ i, 7 ≤ i → i < 52 → (i - 7) % 5 ≠ 4 → T i = S i) (hk : ∀ b, b < (S 0).toNat → 0 ≤ T (11 + 5 * b) ∧ T (11 + 5 * b) ≤ 1) : wB T := by
  obtain ⟨w0, w1, w2⟩ := w
  refine ⟨by omega, by omega, fun b hb => ?_⟩
  have hb' : b < (S 0).toNat := by rw [h0] at hb; exact hb
  have w3 := w2 b hb'
  rw [h (7 + 5 * b) (by omega) (by omega) (by omega), h (8 + 5 * b) (by omega) (by omega) (by omega), h (9 + 5 * b) (by omega) (by omega) (by omega), h (10 + 5 * b) (by omega) (by omega) (by omega)]
  have := hk b hb'
  omega
theorem wW_c {S T : zS} (w : wW S) (h4 : T 4 = S 4) (h5 : T 5 = S 5) : wW T := by unfold wW; rw [h4, h5]; exact w
theorem wP_c {S T : zS} (w : wP S) (h2 : T 2 = S 2) (h0 : T 0 = S 0) (h : ∀ i, 52 ≤ i → i < 76 → (i - 52) % 3 ≠ 2 → T i = S i) (hk : ∀ p, p < (S 2).toNat → 0 ≤ T (54 + 3 * p) ∧ T (54 + 3 * p) ≤ S 0) : wP T := by
  obtain ⟨w0, w1, w2⟩ := w
  refine ⟨by omega, by omega, fun p hp => ?_⟩
  have hp' : p < (S 2).toNat := by rw [h2] at hp; exact hp
  have w3 := w2 p hp'
  rw [h (52 + 3 * p) (by omega) (by omega) (by omega), h (53 + 3 * p) (by omega) (by omega) (by omega), h0]
  have := hk p hp'
  omega
theorem wR_c {S T : zS} (w : wR S) (h3 : T 3 = S 3) (h0 : S 0 ≤ T 0) (h : ∀ i, 76 ≤ i → i < 88 → T i = S i) : wR T := by
  obtain ⟨w0, w1, w2⟩ := w
  refine ⟨by omega, by omega, fun r hr => ?_⟩
  have hr' : r < (S 3).toNat := by rw [h3] at hr; exact hr
  have w3 := w2 r hr'
  rw [h (76 + 2 * r) (by omega) (by omega), h (77 + 2 * r) (by omega) (by omega)]
  omega
theorem wU_c {S T : zS} (w : wU S) (h1 : T 1 = S 1) (h : ∀ i, 88 ≤ i → T i = S i) : wU T := by
  unfold wU at w ⊢
  rw [h1, aCod_c h]
  refine ⟨w.1, w.2.1, fun k hk => ?_⟩
  have hk' : k < (S 1).toNat := hk
  rw [h (88 + 4 * k) (by omega), h (89 + 4 * k) (by omega), h (90 + 4 * k) (by omega), h (91 + 4 * k) (by omega), aEnd_c h, aEnd_c h]
  exact w.2.2 k hk'
theorem aSit_w {S : zS} {p : Nat} {z : Int} (w : wA S) (hp : p < (S 2).toNat) (hz : -1 ≤ z ∧ z < S 0) : wA (aSit S p z) := by
  obtain ⟨wb, ww, wp, wr, wu, wz⟩ := w
  have p1 := wp.2.1
  have b1 := wb.2.1
  have e : ∀ i, (i < 52 ∨ 76 ≤ i) → aSit S p z i = S i := fun i hi => aSit_n (by omega)
  refine ⟨wB_c wb (e 0 (by omega)) (fun i _ hi _ => e i (by omega)) (fun b hb => ?_), wW_c ww (e 4 (by omega)) (e 5 (by omega)), wP_c wp (e 2 (by omega)) (e 0 (by omega)) (fun i _ _ hi => aSit_n (by omega)) (fun q hq => ?_), wR_c wr (e 3 (by omega)) (by rw [e 0 (by omega)]; exact Int.le_refl _) (fun i hi _ => e i (by omega)), wU_c wu (e 1 (by omega)) (fun i hi => e i (by omega)), by rw [e 6 (by omega)]; exact wz⟩
  · have := wb.2.2 b hb
    rw [e _ (by omega)]
    omega
  · have h := wp.2.2 q hq
    by_cases hqp : q = p
    · subst hqp
      unfold aSit
      rw [zup_s]
      omega
    · rw [aSit_n (by omega)]
      omega
theorem zsum_up {f g : Nat → Int} {p : Nat} : ∀ {n : Nat}, p < n → (∀ i, i < n → i ≠ p → g i = f i) → zsum g n = zsum f n - f p + g p
  | 0, h, _ => absurd h (Nat.not_lt_zero _)
  | n + 1, h, he => by
    show zsum g n + g n = zsum f n + f n - f p + g p
    by_cases q : p = n
    · subst q
      rw [zsum_congr (n := p) (fun i hi => he i (by omega) (by omega))]
      omega
    · rw [zsum_up (n := n) (by omega) (fun i hi hne => he i (by omega) hne), he n (by omega) (by omega)]
      omega
theorem aSit_bear {S : zS} {p : Nat} {z : Int} (w : wB S) (wp : wP S) (hp : p < (S 2).toNat) (hz : z < S 0) {b : Nat} (hb : b < (S 0).toNat) : aBear (aSit S p z) b = aBear S b - (bif aAbI S (aSeat S p) b then S (52 + 3 * p) else 0) + (bif aAbI S z b then S (52 + 3 * p) else 0) := by
  have p1 := wp.2.1
  have w1 := w.2.1
  unfold aBear
  rw [aSit_n (i := 5) (by omega), aSit_n (i := 9 + 5 * b) (by omega), aSit_n (i := 2) (by omega)]
  rw [zsum_up (f := fun q => bif aAbI S (aSeat S q) b then S (52 + 3 * q) else 0) (g := fun q => bif aAbI (aSit S p z) (aSeat (aSit S p z) q) b then aSit S p z (52 + 3 * q) else 0) hp (fun i hi hne => by
    have hr := aSeat_r wp hi
    rw [aSit_o hne, aSit_ab (by omega) w hr.2, aSit_n (by omega)])]
  rw [aSit_s, aSit_ab (by omega) w hz, aSit_n (i := 52 + 3 * p) (by omega)]
  omega
theorem cB_c {g : Nat} {S T : zS} {σ : zM} (h : cB g S σ) (w : wB S) (h0 : T 0 = S 0) (e : ∀ i, 7 ≤ i → i < 52 → (i - 7) % 5 ≠ 4 → T i = S i) : cB g T σ := by
  have w1 := w.2.1
  refine ⟨by rw [h0]; exact h.1, fun b hb => ?_⟩
  have hb' : b < (S 0).toNat := by rw [h0] at hb; exact hb
  have h2 := h.2 b hb'
  have ep : aPar T b = aPar S b := by unfold aPar; rw [e (8 + 5 * b) (by omega) (by omega) (by omega)]
  rw [e (7 + 5 * b) (by omega) (by omega) (by omega), e (9 + 5 * b) (by omega) (by omega) (by omega), e (10 + 5 * b) (by omega) (by omega) (by omega), ep]
  refine ⟨h2.1, h2.2.1, h2.2.2.1, h2.2.2.2.1, fun u hu => ?_⟩
  rw [aAb_c (fun b hb => e (8 + 5 * b) (by omega) (by omega) (by omega)) w hb']
  exact h2.2.2.2.2 u hu
theorem cK_c {g : Nat} {S T : zS} {σ : zM} (h : cK g S σ) (w : wB S) (h0 : T 0 = S 0) (e : ∀ b, b < 9 → T (11 + 5 * b) = S (11 + 5 * b)) : cK g T σ := by
  intro b hb
  rw [h b hb, h0]
  unfold aBrk
  rw [e b hb]
theorem cW_c {g : Nat} {S T : zS} {σ : zM} (h : cW g S σ) (e4 : T 4 = S 4) (e5 : T 5 = S 5) : cW g T σ := by
  unfold cW
  rw [e4, e5]; exact h
theorem cP_c {g : Nat} {S T : zS} {σ : zM} (h : cP g S σ) (h2 : T 2 = S 2) (e : ∀ i, 52 ≤ i → i < 76 → T i = S i) (w : wP S) : cP g T σ := by
  have w1 := w.2.1
  refine ⟨by rw [h2]; exact h.1, fun p hp => ?_⟩
  have hp' : p < (S 2).toNat := by rw [h2] at hp; exact hp
  have es : aSeat T p = aSeat S p := by unfold aSeat; rw [e (54 + 3 * p) (by omega) (by omega)]
  rw [e (52 + 3 * p) (by omega) (by omega), e (53 + 3 * p) (by omega) (by omega), es]
  exact h.2 p hp'
theorem cR_c {g : Nat} {S T : zS} {σ : zM} (h : cR g S σ) (h3 : T 3 = S 3) (e : ∀ i, 76 ≤ i → i < 88 → T i = S i) (w : wR S) : cR g T σ := by
  have w1 := w.2.1
  refine ⟨by rw [h3]; exact h.1, fun r hr => ?_⟩
  have hr' : r < (S 3).toNat := by rw [h3] at hr; exact hr
  rw [e (76 + 2 * r) (by omega) (by omega), e (77 + 2 * r) (by omega) (by omega)]
  exact h.2 r hr'
theorem cU_c {g : Nat} {S T : zS} {σ : zM} (h : cU g S σ) (h1 : T 1 = S 1) (e : ∀ i, 88 ≤ i → T i = S i) : cU g T σ := by
  refine ⟨by rw [h1]; exact h.1, fun k hk => ?_⟩
  have hk' : k < (S 1).toNat := by rw [h1] at hk; exact hk
  rw [e (88 + 4 * k) (by omega), e (89 + 4 * k) (by omega), e (90 + 4 * k) (by omega), aCod_c e, aEnd_c e, aEnd_c e]
  exact h.2 k hk'
theorem cP_sit {g : Nat} {S : zS} {σ : zM} {p : Nat} {z : Int} (h : cP g S σ) (hp : p < 8) : cP g (aSit S p z) (zwI σ g 18 p (iI (cE z))) := by
  refine ⟨by rw [zfe (by omega), aSit_n (by omega)]; exact h.1, fun q hq => ?_⟩
  have hq' : q < (S 2).toNat := by rw [aSit_n (by omega)] at hq; exact hq
  have h2 := h.2 q hq'
  rw [zfe (g' := g) (k' := 16) (by omega), zfe (g' := g) (k' := 17) (by omega), aSit_n (by omega), aSit_n (by omega)]
  refine ⟨h2.1, h2.2.1, ?_⟩
  by_cases e : q = p
  · subst e
    rw [zfs, aSit_s]
  · rw [zfe (fun z => e z.2.2), aSit_o e]
    exact h2.2.2
theorem cA_sit {g : Nat} {S : zS} {σ : zM} {p : Nat} {z : Int} (h : cA g S σ) (w : wA S) (hp : p < 8) : cA g (aSit S p z) (zwI σ g 18 p (iI (cE z))) := by
  obtain ⟨h1, h2, h3, h4, h5, h6, h7⟩ := h
  obtain ⟨wb, ww, wp, wr, wu, wz⟩ := w
  refine ⟨?_, ?_, ?_, cP_sit h4 hp, ?_, ?_, ?_⟩
  · exact cB_f (cB_c h1 wb (aSit_n (by omega)) fun i _ _ _ => aSit_n (by omega)) fun k _ _ => zfn (by omega)
  · exact cK_f (cK_c h2 wb (aSit_n (by omega)) fun b _ => aSit_n (by omega)) (zfn (by omega))
  · exact cW_f (cW_c h3 (aSit_n (by omega)) (aSit_n (by omega))) (zfn (by omega))
  · exact cR_f (cR_c h5 (aSit_n (by omega)) (fun i _ _ => aSit_n (by omega)) wr) (zfe (by omega)) fun k _ _ => zfn (by omega)
  · exact cU_f (cU_c h6 (aSit_n (by omega)) fun i _ => aSit_n (by omega)) fun k _ _ => zfn (by omega)
  · unfold cZ at h7 ⊢
    rw [zfe (by omega), aSit_n (by omega)]; exact h7
def aBk (S : zS) (w : Nat) : Nat → zS
  | 0 => S
  | n + 1 => bif aAb S n w then zup (aBk S w n) (11 + 5 * n) 1 else aBk S w n
theorem aBk_n {S : zS} {w : Nat} {i : Nat} (h : i < 7 ∨ 52 ≤ i ∨ (i - 7) % 5 ≠ 4) : ∀ {n : Nat}, n ≤ 9 → aBk S w n i = S i
  | 0, _ => rfl
  | n + 1, hn => by
    show (bif aAb S n w then zup (aBk S w n) (11 + 5 * n) 1 else aBk S w n) i = _
    cases aAb S n w
    · exact aBk_n h (by omega)
    · exact (zup_n (by omega)).trans (aBk_n h (by omega))
theorem aBk_s {S : zS} {w b : Nat} : ∀ {n : Nat}, aBk S w n (11 + 5 * b) = if b < n ∧ aAb S b w = true then 1 else S (11 + 5 * b)
  | 0 => by rw [if_neg (fun z => absurd z.1 (Nat.not_lt_zero _))]; rfl
  | n + 1 => by
    show (bif aAb S n w then zup (aBk S w n) (11 + 5 * n) 1 else aBk S w n) (11 + 5 * b) = _
    by_cases e : b = n
    · subst e
      cases hx : aAb S b w
      · rw [cond_false, aBk_s, if_neg (fun z => absurd z.1 (Nat.lt_irrefl _)), if_neg (fun z => by cases z.2)]
      · rw [cond_true, zup_s, if_pos ⟨Nat.lt_succ_self _, rfl⟩]
    · have e2 : (b < n + 1) = (b < n) := propext (by omega)
      cases aAb S n w
      · rw [cond_false, aBk_s]; simp only [e2]
      · rw [cond_true, zup_n (by omega), aBk_s]; simp only [e2]
def aDn (S : zS) (w : Nat) : Nat → zS
  | 0 => S
  | n + 1 => bif aAbI S (aSeat S n) w then aSit (aDn S w n) n (-1) else aDn S w n
def aCt (S : zS) (w : Nat) : Nat → Int
  | 0 => 0
  | n + 1 => bif aAbI S (aSeat S n) w then aCt S w n + 1 else aCt S w n
theorem aDn_n {S : zS} {w i : Nat} (h : i < 52 ∨ 76 ≤ i ∨ (i - 52) % 3 ≠ 2) : ∀ {n : Nat}, n ≤ 8 → aDn S w n i = S i
  | 0, _ => rfl
  | n + 1, hn => by
    show (bif aAbI S (aSeat S n) w then aSit (aDn S w n) n (-1) else aDn S w n) i = _
    cases aAbI S (aSeat S n) w
    · exact aDn_n h (by omega)
    · exact (aSit_n (by omega)).trans (aDn_n h (by omega))
theorem aDn_s {S : zS} {w p : Nat} : ∀ {n : Nat}, n ≤ p → aSeat (aDn S w n) p = aSeat S p
  | 0, _ => rfl
  | n + 1, hn => by
    show aSeat (bif aAbI S (aSeat S n) w then aSit (aDn S w n) n (-1) else aDn S w n) p = _
    cases aAbI S (aSeat S n) w
    · exact aDn_s (by omega)
    · exact (aSit_o (by omega)).trans (aDn_s (by omega))
theorem aCt_b {S : zS} {w : Nat} : ∀ (n : Nat), 0 ≤ aCt S w n ∧ aCt S w n ≤ n
  | 0 => ⟨by show (0 : Int) ≤ 0; omega, by show (0 : Int) ≤ ((0 : Nat) : Int); omega⟩
  | n + 1 => by
    have h := aCt_b (S := S) (w := w) n
    show 0 ≤ (bif _ then _ else _) ∧ (bif _ then _ else _) ≤ _
    cases aAbI S (aSeat S n) w
    · rw [cond_false]; omega
    · rw [cond_true]; omega
def aFal (S : zS) (w : Nat) : zS := aDn (aBk S w ((S 0).toNat)) w ((S 2).toNat)
def aFl : Nat → zS → zS × Int
  | 0, S => (S, 0)
  | n + 1, S => if aLst S (aSp S) ((S 0).toNat) < 0 ∨ 0 ≤ aSp S (aLst S (aSp S) ((S 0).toNat)).toNat then (S, 0) else ((aFl n (aFal S (aLst S (aSp S) ((S 0).toNat)).toNat)).1, (aFl n (aFal S (aLst S (aSp S) ((S 0).toNat)).toNat)).2 + aCt S (aLst S (aSp S) ((S 0).toNat)).toNat ((S 2).toNat))
theorem aFal_n {S : zS} {w i : Nat} (wa : wA S) (h : (i < 7 ∨ 52 ≤ i ∨ (i - 7) % 5 ≠ 4) ∧ (i < 52 ∨ 76 ≤ i ∨ (i - 52) % 3 ≠ 2)) : aFal S w i = S i := by
  have w1 := wa.1.2.1
  have p1 := wa.2.2.1.2.1
  exact (aDn_n h.2 (by omega)).trans (aBk_n h.1 (by omega))
theorem wA_bk {S : zS} (wa : wA S) {w n : Nat} (hn : n ≤ 9) : wA (aBk S w n) := by
  obtain ⟨wb, ww, wp, wr, wu, wz⟩ := wa
  have p1 := wp.2.1
  have e : ∀ i, (i < 7 ∨ 52 ≤ i ∨ (i - 7) % 5 ≠ 4) → aBk S w n i = S i := fun i h => aBk_n h hn
  refine ⟨wB_c wb (e 0 (by omega)) (fun i _ _ hi => e i (by omega)) (fun b hb => ?_), wW_c ww (e 4 (by omega)) (e 5 (by omega)), wP_c wp (e 2 (by omega)) (e 0 (by omega)) (fun i _ _ hi => e i (by omega)) (fun q hq => ?_), wR_c wr (e 3 (by omega)) (by rw [e 0 (by omega)]; exact Int.le_refl _) (fun i hi _ => e i (by omega)), wU_c wu (e 1 (by omega)) (fun i hi => e i (by omega)), by rw [e 6 (by omega)]; exact wz⟩
  · rw [aBk_s]
    have := wb.2.2 b hb
    split <;> omega
  · have := wp.2.2 q hq
    rw [e _ (by omega)]
    omega
theorem wA_dn {S : zS} (wa : wA S) {w : Nat} : ∀ {n : Nat}, n ≤ (S 2).toNat → wA (aDn S w n)
  | 0, _ => wa
  | n + 1, hn => by
    have ih := wA_dn wa (w := w) (n := n) (by omega)
    have p1 := wa.2.2.1.2.1
    have e2 : aDn S w n 2 = S 2 := aDn_n (by omega) (by omega)
    have e0 : aDn S w n 0 = S 0 := aDn_n (by omega) (by omega)
    have b0 := wa.1.1
    show wA (bif aAbI S (aSeat S n) w then aSit (aDn S w n) n (-1) else aDn S w n)
    cases aAbI S (aSeat S n) w
    · exact ih
    · exact aSit_w ih (by rw [e2]; omega) (by rw [e0]; omega)
theorem wA_fal {S : zS} (wa : wA S) {w : Nat} : wA (aFal S w) := by
  have b1 := wa.1.2.1
  have h := wA_bk wa (w := w) (n := (S 0).toNat) (by omega)
  refine wA_dn h ?_
  rw [aBk_n (i := 2) (by omega) (by omega)]
  exact Nat.le_refl _
theorem wA_fl : ∀ (n : Nat) {S : zS}, wA S → wA (aFl n S).1
  | 0, _, h => h
  | n + 1, S, h => by
    unfold aFl
    split
    · exact h
    · exact wA_fl n (wA_fal h)
