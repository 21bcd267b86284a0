/-! the bits of a long -/
def qb_t (w : Int64) (i : Nat) : Bool := w.toBitVec.getLsbD i
theorem qb_ext {x y : Int64} (h : ∀ i, i < 64 → qb_t x i = qb_t y i) : x = y := Int64.toBitVec_inj.mp (BitVec.eq_of_getLsbD_eq (fun i hi => h i hi))
theorem qb_or (x y : Int64) (i : Nat) : qb_t (x ||| y) i = (qb_t x i || qb_t y i) := by unfold qb_t; rw [Int64.toBitVec_or, BitVec.getLsbD_or]
theorem qb_and (x y : Int64) (i : Nat) : qb_t (x &&& y) i = (qb_t x i && qb_t y i) := by unfold qb_t; rw [Int64.toBitVec_and, BitVec.getLsbD_and]
theorem qb_big {x : Int64} {i : Nat} (h : 64 ≤ i) : qb_t x i = false := BitVec.getLsbD_of_ge _ _ h
theorem qb_0 (i : Nat) : qb_t 0 i = false := BitVec.getLsbD_zero
theorem qb_not (x y : Int64) (i : Nat) : qb_t (x &&& (y ^^^ (-1))) i = (qb_t x i && !qb_t y i) := by
  rcases Nat.lt_or_ge i 64 with h | h
  · have ha : (-1 : Int64).toBitVec = BitVec.allOnes 64 := by decide
    have e : qb_t (y ^^^ (-1)) i = !qb_t y i := by
      unfold qb_t
      rw [Int64.toBitVec_xor, BitVec.getLsbD_xor, ha, BitVec.getLsbD_allOnes]
      simp [h]
    rw [qb_and, e]
  · rw [qb_big h, qb_big h]; rfl
def qb_on (k : Nat) : Int64 := (1 : Int64) <<< ((nI k).toInt64 &&& 63)
theorem qb_on0 : ∀ k, k < 64 → ∀ i, i < 64 → qb_t (qb_on k) i = decide (i = k) := by decide +kernel
theorem qb_one {k : Nat} (hk : k < 64) (i : Nat) : qb_t (qb_on k) i = decide (i = k) := by
  rcases Nat.lt_or_ge i 64 with h | h
  · exact qb_on0 k hk i h
  · rw [qb_big h, decide_eq_false (by omega)]
theorem qb_u : ∀ n, n < 64 → ((nI n).toInt64.toUInt64 &&& Int64.toUInt64 63).toNat = n := by decide +kernel
theorem qb_l1 : ∀ i, i < 64 → qb_t 1 i = decide (i = 0) := by decide +kernel
theorem qb_a1 (x : Int64) : x &&& 1 = bif qb_t x 0 then 1 else 0 := by
  apply qb_ext
  intro i hi
  rw [qb_and, qb_l1 i hi]
  by_cases h : i = 0
  · subst h
    cases qb_t x 0 <;> simp [qb_l1, qb_0]
  · cases qb_t x 0 <;> simp [qb_l1 i hi, qb_0, h]
theorem qb_sh {w : Int64} {k : Nat} (hk : k < 64) : qb_t ((w.toUInt64 >>> ((nI k).toInt64.toUInt64 &&& Int64.toUInt64 63)).toInt64) 0 = qb_t w k := by
  have e : (w.toUInt64 >>> ((nI k).toInt64.toUInt64 &&& Int64.toUInt64 63)).toInt64.toBitVec = w.toBitVec >>> k := by
    apply BitVec.eq_of_toNat_eq
    show (w.toUInt64 >>> ((nI k).toInt64.toUInt64 &&& Int64.toUInt64 63)).toNat = _
    rw [UInt64.toNat_shiftRight, qb_u k hk, Nat.mod_eq_of_lt hk, BitVec.toNat_ushiftRight]
    rfl
  unfold qb_t
  rw [e, BitVec.getLsbD_ushiftRight, Nat.add_zero]
theorem qb_in {w : Int64} {k : Nat} (hk : k < 64) : (((w.toUInt64 >>> ((nI k).toInt64.toUInt64 &&& Int64.toUInt64 63)).toInt64) &&& 1 = 0) = (qb_t w k = false) := by
  rw [qb_a1, qb_sh hk]
  cases qb_t w k <;> simp
theorem qb_in1 {w : Int64} {k : Nat} (hk : k < 64) : (((w.toUInt64 >>> ((nI k).toInt64.toUInt64 &&& Int64.toUInt64 63)).toInt64) &&& 1 = 1) = (qb_t w k = true) := by
  rw [qb_a1, qb_sh hk]
  cases qb_t w k <;> simp
/-! numbers -/
def qI (b : Bool) : Int32 := bif b then 1 else 0
theorem qI_t : qI true = 1 := rfl
theorem qI_f : qI false = 0 := rfl
theorem qz_1 : ((1 : Int32) = 0) = False := by decide
theorem qz_0 : ((0 : Int32) = 0) = True := by decide
theorem qz_01 : ((0 : Int32) = 1) = False := by decide
theorem qz_n1 : ((-1 : Int32) < 0) = True := by decide
theorem qz_n2 : ((-2 : Int32) < 0) = True := by decide
theorem qz_nn : ((-1000000003 : Int32) = -1000000003) = True := by decide
theorem qz_22 : ((-2 : Int32) = -2) = True := by decide
theorem qz_12 : ((-1 : Int32) = -2) = False := by decide
theorem qI_0 (b : Bool) : (qI b = 0) = (b = false) := by cases b <;> simp [qI]
theorem qI_inj (a b : Bool) : (qI a = qI b) = (a = b) := by cases a <;> cases b <;> simp [qI]
theorem qI_nar (b : Bool) : vp_nar .boolean (qI b) = qI b := by cases b <;> rfl
theorem qI_nar1 : vp_nar .boolean 1 = 1 := rfl
theorem qI_nar0 : vp_nar .boolean 0 = 0 := rfl
theorem qI_fit (b : Bool) : narrow .boolean (.int (qI b)) = .int (qI b) := by cases b <;> rfl
theorem qn_none {a : Nat} (h : a < 2 ^ 31) : (nI a = -1000000003) = False := by
  refine eq_false (fun e => ?_)
  have e2 := congrArg Int32.toInt e
  rw [nI_toInt h, show (-1000000003 : Int32).toInt = -1000000003 from by decide] at e2
  omega
theorem qn_m2 {a : Nat} (h : a < 2 ^ 31) : (nI a = -2) = False := by
  refine eq_false (fun e => ?_)
  have e2 := congrArg Int32.toInt e
  rw [nI_toInt h, show (-2 : Int32).toInt = -2 from by decide] at e2
  omega
theorem qn_neg {a : Nat} (h : a < 2 ^ 31) : (nI a < 0) = False := eq_false (nI_pos h)
theorem qn_le {a b : Nat} (ha : a < 2 ^ 31) (hb : b < 2 ^ 31) : (nI a ≤ nI b) = (a ≤ b) := propext (nI_leI ha hb)
theorem qn_lt {a b : Nat} (ha : a < 2 ^ 31) (hb : b < 2 ^ 31) : (nI a < nI b) = (a < b) := propext (nI_ltI ha hb)
theorem qn_eq {a b : Nat} (ha : a < 2 ^ 31) (hb : b < 2 ^ 31) : (nI a = nI b) = (a = b) := propext (nI_eq ha hb)
theorem qn_60 : (60 : Int32) = nI 60 := rfl
theorem qn_3 : (3 : Int32) = nI 3 := rfl
theorem qn_2 : (2 : Int32) = nI 2 := rfl
theorem qn_in {a N : Nat} (h : a < N) (hN : N < 2 ^ 31) : vp_in (nI a) N = True := eq_true (vp_in_nI h hN)
def qo_X (o : Option Nat) : Int32 := match o with | none => -1000000003 | some a => nI a
def qo_Y (o : Option Nat) : Int32 := match o with | none => -1 | some a => nI a
theorem qo_Xn : qo_X none = -1000000003 := rfl
theorem qo_Xs (a : Nat) : qo_X (some a) = nI a := rfl
theorem qo_Yn : qo_Y none = -1 := rfl
theorem qo_Ys (a : Nat) : qo_Y (some a) = nI a := rfl
theorem qu_s {f : Nat → Int32} {k : Nat} {x : Int32} : upd f k x k = x := if_pos rfl
theorem qu_n {f : Nat → Int32} {k j : Nat} {x : Int32} (h : j ≠ k) : upd f k x j = f j := if_neg h
theorem qu_Ls {f : Nat → Int64} {k : Nat} {x : Int64} : vp_updL f k x k = x := if_pos rfl
theorem qu_Ln {f : Nat → Int64} {k j : Nat} {x : Int64} (h : j ≠ k) : vp_updL f k x j = f j := if_neg h
/-! sums, 'is there one', the first one -/
def qs (f : Nat → Nat) : Nat → Nat
  | 0 => 0
  | n + 1 => qs f n + f n
theorem qs_congr {f g : Nat → Nat} : ∀ n, (∀ i, i < n → f i = g i) → qs f n = qs g n := by
  intro n
  induction n with
  | zero => intro _; rfl
  | succ n ih =>
    intro h
    show qs f n + f n = qs g n + g n
    rw [ih (fun i hi => h i (by omega)), h n (by omega)]
theorem qs_zero {f : Nat → Nat} : ∀ n, (∀ i, i < n → f i = 0) → qs f n = 0 := by
  intro n
  induction n with
  | zero => intro _; rfl
  | succ n ih =>
    intro h
    show qs f n + f n = 0
    rw [ih (fun i hi => h i (by omega)), h n (by omega)]
theorem qs_ext {f : Nat → Nat} {n : Nat} : ∀ d, (∀ i, n ≤ i → f i = 0) → qs f (n + d) = qs f n := by
  intro d
  induction d with
  | zero => intro _; rfl
  | succ d ih =>
    intro h
    show qs f (n + d) + f (n + d) = _
    rw [ih h, h (n + d) (by omega), Nat.add_zero]
theorem qs_add {f g : Nat → Nat} : ∀ n, qs (fun i => f i + g i) n = qs f n + qs g n := by
  intro n
  induction n with
  | zero => rfl
  | succ n ih =>
    show qs (fun i => f i + g i) n + (f n + g n) = (qs f n + f n) + (qs g n + g n)
    rw [ih]; omega
theorem qs_swap {h : Nat → Nat → Nat} {n : Nat} : ∀ m, qs (fun i => qs (fun j => h i j) n) m = qs (fun j => qs (fun i => h i j) m) n := by
  intro m
  induction m with
  | zero => exact (qs_zero n (fun _ _ => rfl)).symm
  | succ m ih =>
    show qs (fun i => qs (fun j => h i j) n) m + qs (fun j => h m j) n = qs (fun j => qs (fun i => h i j) m + h m j) n
    rw [ih, qs_add]
theorem qs_le {f : Nat → Bool} : ∀ n, qs (fun i => (f i).toNat) n ≤ n := by
  intro n
  induction n with
  | zero => exact Nat.le_refl _
  | succ n ih =>
    show qs (fun i => (f i).toNat) n + (f n).toNat ≤ n + 1
    have : (f n).toNat ≤ 1 := by cases f n <;> decide
    omega
def qe (f : Nat → Bool) : Nat → Bool
  | 0 => false
  | n + 1 => qe f n || f n
theorem qe_f {f : Nat → Bool} : ∀ {n}, qe f n = false ↔ ∀ i, i < n → f i = false := by
  intro n
  induction n with
  | zero => exact ⟨fun _ i hi => by omega, fun _ => rfl⟩
  | succ n ih =>
    show (qe f n || f n) = false ↔ _
    rw [Bool.or_eq_false_iff, ih]
    constructor
    · intro h i hi
      rcases Nat.lt_or_ge i n with z | z
      · exact h.1 i z
      · rw [show i = n by omega]; exact h.2
    · intro h
      exact ⟨fun i hi => h i (by omega), h n (by omega)⟩
theorem qe_t {f : Nat → Bool} {n : Nat} : qe f n = true ↔ ∃ i, i < n ∧ f i = true := by
  constructor
  · intro h
    apply Classical.byContradiction
    intro z
    have : qe f n = false := qe_f.mpr (fun i hi => by
      cases e : f i
      · rfl
      · exact absurd ⟨i, hi, e⟩ z)
    rw [this] at h
    cases h
  · rintro ⟨i, hi, e⟩
    cases z : qe f n
    · rw [qe_f.mp z i hi] at e; cases e
    · rfl
theorem qe_congr {f g : Nat → Bool} : ∀ n, (∀ i, i < n → f i = g i) → qe f n = qe g n := by
  intro n
  induction n with
  | zero => intro _; rfl
  | succ n ih =>
    intro h
    show (qe f n || f n) = (qe g n || g n)
    rw [ih (fun i hi => h i (by omega)), h n (by omega)]
def qf (F : Nat → Bool) : Nat → Nat → Nat
  | 0, _ => 0
  | n + 1, i => bif F i then i else qf F n (i + 1)
theorem qf_congr {F G : Nat → Bool} : ∀ n i, (∀ j, j < i + n → F j = G j) → qf F n i = qf G n i := by
  intro n
  induction n with
  | zero => intro _ _; rfl
  | succ n ih =>
    intro i h
    show (bif F i then i else qf F n (i + 1)) = (bif G i then i else qf G n (i + 1))
    rw [h i (by omega), ih (i + 1) (fun j hj => h j (by omega))]
theorem qf_lt {F : Nat → Bool} : ∀ n i, qf F n i < i + n ∧ F (qf F n i) = true ∨ qf F n i = 0 := by
  intro n
  induction n with
  | zero => intro i; exact Or.inr rfl
  | succ n ih =>
    intro i
    show (bif F i then i else qf F n (i + 1)) < i + (n + 1) ∧ F (bif F i then i else qf F n (i + 1)) = true ∨ (bif F i then i else qf F n (i + 1)) = 0
    cases e : F i
    · rcases ih (i + 1) with h | h
      · exact Or.inl ⟨by show qf F n (i + 1) < _; omega, h.2⟩
      · exact Or.inr h
    · exact Or.inl ⟨by show i < _; omega, e⟩
