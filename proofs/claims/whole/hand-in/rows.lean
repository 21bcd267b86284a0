section
/-! the bits of a long -/
def qb_t (w : Int64) (i : Nat) : Bool := w.toBitVec.getLsbD i
theorem qb_ext {x y : Int64} (h : ∀ i, i < 64 → qb_t x i = qb_t y i) : x = y := Int64.toBitVec_inj.mp (BitVec.eq_of_getLsbD_eq (fun i hi => h i hi))
theorem qb_or (x y : Int64) (i : Nat) : qb_t (x ||| y) i = (qb_t x i || qb_t y i) := by unfold qb_t; rw [Int64.toBitVec_or, BitVec.getLsbD_or]
theorem qb_and (x y : Int64) (i : Nat) : qb_t (x &&& y) i = (qb_t x i && qb_t y i) := by unfold qb_t; rw [Int64.toBitVec_and, BitVec.getLsbD_and]
theorem qb_big {x : Int64} {i : Nat} (h : 64 ≤ i) : qb_t x i = false := BitVec.getLsbD_of_ge _ _ h
theorem qb_0 (i : Nat) : qb_t 0 i = false := BitVec.getLsbD_zero
theorem qb_not (x y : Int64) (i : Nat) : qb_t (x &&& (y ^^^ (-1))) i = (qb_t x i && !qb_t y i) := by
  rcases Nat.lt_or_ge i 64 with h | h
  · have ha : (-1 : Int64).toBitVec = BitVec.allOnes 64 := by decide
    have e : qb_t (y ^^^ (-1)) i = !qb_t y i := by
      unfold qb_t
      rw [Int64.toBitVec_xor, BitVec.getLsbD_xor, ha, BitVec.getLsbD_allOnes]
      simp [h]
    rw [qb_and, e]
  · rw [qb_big h, qb_big h]; rfl
def qb_on (k : Nat) : Int64 := (1 : Int64) <<< ((nI k).toInt64 &&& 63)
theorem qb_on0 : ∀ k, k < 64 → ∀ i, i < 64 → qb_t (qb_on k) i = decide (i = k) := by decide +kernel
theorem qb_one {k : Nat} (hk : k < 64) (i : Nat) : qb_t (qb_on k) i = decide (i = k) := by
  rcases Nat.lt_or_ge i 64 with h | h
  · exact qb_on0 k hk i h
  · rw [qb_big h, decide_eq_false (by omega)]
theorem qb_u : ∀ n, n < 64 → ((nI n).toInt64.toUInt64 &&& Int64.toUInt64 63).toNat = n := by decide +kernel
theorem qb_l1 : ∀ i, i < 64 → qb_t 1 i = decide (i = 0) := by decide +kernel
theorem qb_a1 (x : Int64) : x &&& 1 = bif qb_t x 0 then 1 else 0 := by
  apply qb_ext
  intro i hi
  rw [qb_and, qb_l1 i hi]
  by_cases h : i = 0
  · subst h
    cases qb_t x 0 <;> simp [qb_l1, qb_0]
  · cases qb_t x 0 <;> simp [qb_l1 i hi, qb_0, h]
theorem qb_sh {w : Int64} {k : Nat} (hk : k < 64) : qb_t ((w.toUInt64 >>> ((nI k).toInt64.toUInt64 &&& Int64.toUInt64 63)).toInt64) 0 = qb_t w k := by
  have e : (w.toUInt64 >>> ((nI k).toInt64.toUInt64 &&& Int64.toUInt64 63)).toInt64.toBitVec = w.toBitVec >>> k := by
    apply BitVec.eq_of_toNat_eq
    show (w.toUInt64 >>> ((nI k).toInt64.toUInt64 &&& Int64.toUInt64 63)).toNat = _
    rw [UInt64.toNat_shiftRight, qb_u k hk, Nat.mod_eq_of_lt hk, BitVec.toNat_ushiftRight]
    rfl
  unfold qb_t
  rw [e, BitVec.getLsbD_ushiftRight, Nat.add_zero]
theorem qb_in {w : Int64} {k : Nat} (hk : k < 64) : (((w.toUInt64 >>> ((nI k).toInt64.toUInt64 &&& Int64.toUInt64 63)).toInt64) &&& 1 = 0) = (qb_t w k = false) := by
  rw [qb_a1, qb_sh hk]
  cases qb_t w k <;> simp
theorem qb_in1 {w : Int64} {k : Nat} (hk : k < 64) : (((w.toUInt64 >>> ((nI k).toInt64.toUInt64 &&& Int64.toUInt64 63)).toInt64) &&& 1 = 1) = (qb_t w k = true) := by
  rw [qb_a1, qb_sh hk]
  cases qb_t w k <;> simp
/-! numbers -/
def qI (b : Bool) : Int32 := bif b then 1 else 0
theorem qI_t : qI true = 1 := rfl
theorem qI_f : qI false = 0 := rfl
theorem qz_1 : ((1 : Int32) = 0) = False := by decide
theorem qz_0 : ((0 : Int32) = 0) = True := by decide
theorem qz_01 : ((0 : Int32) = 1) = False := by decide
theorem qz_n1 : ((-1 : Int32) < 0) = True := by decide
theorem qz_n2 : ((-2 : Int32) < 0) = True := by decide
theorem qz_nn : ((-1000000003 : Int32) = -1000000003) = True := by decide
theorem qz_22 : ((-2 : Int32) = -2) = True := by decide
theorem qz_12 : ((-1 : Int32) = -2) = False := by decide
theorem qI_0 (b : Bool) : (qI b = 0) = (b = false) := by cases b <;> simp [qI]
theorem qI_inj (a b : Bool) : (qI a = qI b) = (a = b) := by cases a <;> cases b <;> simp [qI]
theorem qI_nar (b : Bool) : vp_nar .boolean (qI b) = qI b := by cases b <;> rfl
theorem qI_nar1 : vp_nar .boolean 1 = 1 := rfl
theorem qI_nar0 : vp_nar .boolean 0 = 0 := rfl
theorem qI_fit (b : Bool) : narrow .boolean (.int (qI b)) = .int (qI b) := by cases b <;> rfl
theorem qn_none {a : Nat} (h : a < 2 ^ 31) : (nI a = -1000000003) = False := by
  refine eq_false (fun e => ?_)
  have e2 := congrArg Int32.toInt e
  rw [nI_toInt h, show (-1000000003 : Int32).toInt = -1000000003 from by decide] at e2
  omega
theorem qn_m2 {a : Nat} (h : a < 2 ^ 31) : (nI a = -2) = False := by
  refine eq_false (fun e => ?_)
  have e2 := congrArg Int32.toInt e
  rw [nI_toInt h, show (-2 : Int32).toInt = -2 from by decide] at e2
  omega
theorem qn_neg {a : Nat} (h : a < 2 ^ 31) : (nI a < 0) = False := eq_false (nI_pos h)
theorem qn_le {a b : Nat} (ha : a < 2 ^ 31) (hb : b < 2 ^ 31) : (nI a ≤ nI b) = (a ≤ b) := propext (nI_leI ha hb)
theorem qn_lt {a b : Nat} (ha : a < 2 ^ 31) (hb : b < 2 ^ 31) : (nI a < nI b) = (a < b) := propext (nI_ltI ha hb)
theorem qn_eq {a b : Nat} (ha : a < 2 ^ 31) (hb : b < 2 ^ 31) : (nI a = nI b) = (a = b) := propext (nI_eq ha hb)
theorem qn_60 : (60 : Int32) = nI 60 := rfl
theorem qn_3 : (3 : Int32) = nI 3 := rfl
theorem qn_2 : (2 : Int32) = nI 2 := rfl
theorem qn_in {a N : Nat} (h : a < N) (hN : N < 2 ^ 31) : vp_in (nI a) N = True := eq_true (vp_in_nI h hN)
def qo_X (o : Option Nat) : Int32 := match o with | none => -1000000003 | some a => nI a
def qo_Y (o : Option Nat) : Int32 := match o with | none => -1 | some a => nI a
theorem qo_Xn : qo_X none = -1000000003 := rfl
theorem qo_Xs (a : Nat) : qo_X (some a) = nI a := rfl
theorem qo_Yn : qo_Y none = -1 := rfl
theorem qo_Ys (a : Nat) : qo_Y (some a) = nI a := rfl
theorem qu_s {f : Nat → Int32} {k : Nat} {x : Int32} : upd f k x k = x := if_pos rfl
theorem qu_n {f : Nat → Int32} {k j : Nat} {x : Int32} (h : j ≠ k) : upd f k x j = f j := if_neg h
theorem qu_Ls {f : Nat → Int64} {k : Nat} {x : Int64} : vp_updL f k x k = x := if_pos rfl
theorem qu_Ln {f : Nat → Int64} {k j : Nat} {x : Int64} (h : j ≠ k) : vp_updL f k x j = f j := if_neg h
/-! sums, 'is there one', the first one -/
def qs (f : Nat → Nat) : Nat → Nat
  | 0 => 0
  | n + 1 => qs f n + f n
theorem qs_congr {f g : Nat → Nat} : ∀ n, (∀ i, i < n → f i = g i) → qs f n = qs g n := by
  intro n
  induction n with
  | zero => intro _; rfl
  | succ n ih =>
    intro h
    show qs f n + f n = qs g n + g n
    rw [ih (fun i hi => h i (by omega)), h n (by omega)]
theorem qs_zero {f : Nat → Nat} : ∀ n, (∀ i, i < n → f i = 0) → qs f n = 0 := by
  intro n
  induction n with
  | zero => intro _; rfl
  | succ n ih =>
    intro h
    show qs f n + f n = 0
    rw [ih (fun i hi => h i (by omega)), h n (by omega)]
theorem qs_ext {f : Nat → Nat} {n : Nat} : ∀ d, (∀ i, n ≤ i → f i = 0) → qs f (n + d) = qs f n := by
  intro d
  induction d with
  | zero => intro _; rfl
  | succ d ih =>
    intro h
    show qs f (n + d) + f (n + d) = _
    rw [ih h, h (n + d) (by omega), Nat.add_zero]
theorem qs_add {f g : Nat → Nat} : ∀ n, qs (fun i => f i + g i) n = qs f n + qs g n := by
  intro n
  induction n with
  | zero => rfl
  | succ n ih =>
    show qs (fun i => f i + g i) n + (f n + g n) = (qs f n + f n) + (qs g n + g n)
    rw [ih]; omega
theorem qs_swap {h : Nat → Nat → Nat} {n : Nat} : ∀ m, qs (fun i => qs (fun j => h i j) n) m = qs (fun j => qs (fun i => h i j) m) n := by
  intro m
  induction m with
  | zero => exact (qs_zero n (fun _ _ => rfl)).symm
  | succ m ih =>
    show qs (fun i => qs (fun j => h i j) n) m + qs (fun j => h m j) n = qs (fun j => qs (fun i => h i j) m + h m j) n
    rw [ih, qs_add]
theorem qs_le {f : Nat → Bool} : ∀ n, qs (fun i => (f i).toNat) n ≤ n := by
  intro n
  induction n with
  | zero => exact Nat.le_refl _
  | succ n ih =>
    show qs (fun i => (f i).toNat) n + (f n).toNat ≤ n + 1
    have : (f n).toNat ≤ 1 := by cases f n <;> decide
    omega
def qe (f : Nat → Bool) : Nat → Bool
  | 0 => false
  | n + 1 => qe f n || f n
theorem qe_f {f : Nat → Bool} : ∀ {n}, qe f n = false ↔ ∀ i, i < n → f i = false := by
  intro n
  induction n with
  | zero => exact ⟨fun _ i hi => by omega, fun _ => rfl⟩
  | succ n ih =>
    show (qe f n || f n) = false ↔ _
    rw [Bool.or_eq_false_iff, ih]
    constructor
    · intro h i hi
      rcases Nat.lt_or_ge i n with z | z
      · exact h.1 i z
      · rw [show i = n by omega]; exact h.2
    · intro h
      exact ⟨fun i hi => h i (by omega), h n (by omega)⟩
theorem qe_t {f : Nat → Bool} {n : Nat} : qe f n = true ↔ ∃ i, i < n ∧ f i = true := by
  constructor
  · intro h
    apply Classical.byContradiction
    intro z
    have : qe f n = false := qe_f.mpr (fun i hi => by
      cases e : f i
      · rfl
      · exact absurd ⟨i, hi, e⟩ z)
    rw [this] at h
    cases h
  · rintro ⟨i, hi, e⟩
    cases z : qe f n
    · rw [qe_f.mp z i hi] at e; cases e
    · rfl
theorem qe_congr {f g : Nat → Bool} : ∀ n, (∀ i, i < n → f i = g i) → qe f n = qe g n := by
  intro n
  induction n with
  | zero => intro _; rfl
  | succ n ih =>
    intro h
    show (qe f n || f n) = (qe g n || g n)
    rw [ih (fun i hi => h i (by omega)), h n (by omega)]
def qf (F : Nat → Bool) : Nat → Nat → Nat
  | 0, _ => 0
  | n + 1, i => bif F i then i else qf F n (i + 1)
theorem qf_congr {F G : Nat → Bool} : ∀ n i, (∀ j, j < i + n → F j = G j) → qf F n i = qf G n i := by
  intro n
  induction n with
  | zero => intro _ _; rfl
  | succ n ih =>
    intro i h
    show (bif F i then i else qf F n (i + 1)) = (bif G i then i else qf G n (i + 1))
    rw [h i (by omega), ih (i + 1) (fun j hj => h j (by omega))]
theorem qf_lt {F : Nat → Bool} : ∀ n i, qf F n i < i + n ∧ F (qf F n i) = true ∨ qf F n i = 0 := by
  intro n
  induction n with
  | zero => intro i; exact Or.inr rfl
  | succ n ih =>
    intro i
    show (bif F i then i else qf F n (i + 1)) < i + (n + 1) ∧ F (bif F i then i else qf F n (i + 1)) = true ∨ (bif F i then i else qf F n (i + 1)) = 0
    cases e : F i
    · rcases ih (i + 1) with h | h
      · exact Or.inl ⟨by show qf F n (i + 1) < _; omega, h.2⟩
      · exact Or.inr h
    · exact Or.inl ⟨by show i < _; omega, e⟩
end
section
/-! ways: the masks that both sides work out in the same order; they are compared below m alone -/
def qq (m : Nat) (L M : Nat → Int64) : Prop := ∀ i, i < m → L i = M i
theorem qq_u {m a : Nat} {L M : Nat → Int64} {x y : Int64} (h : qq m L M) (e : x = y) : qq m (vp_updL L a x) (vp_updL M a y) := by
  intro i hi
  unfold vp_updL
  rw [h i hi, e]
def qw_a (o : Option Nat) (L : Nat → Int64) (p : Nat) : Nat → Int64 := match o with | none => L | some a => vp_updL L a (L a ||| qb_on p)
def qw_b (o : Option Nat) (L : Nat → Int64) (p : Nat) : Nat → Int64 := match o with | none => L | some b => vp_updL L p (L p ||| qb_on b)
def qw_st (U D : Nat → Option Nat) (pl Sg : Nat → Bool) (L : Nat → Int64) (p : Nat) : Nat → Int64 := bif (pl p && Sg p) then qw_b (D p) (qw_a (U p) L p) p else L
def qw_fs (U D : Nat → Option Nat) (pl Sg : Nat → Bool) : Nat → Nat → Int64
  | 0 => fun _ => 0
  | p + 1 => qw_st U D pl Sg (qw_fs U D pl Sg p) p
def qw_ws (L : Nat → Int64) (k a : Nat) : Nat → Int64 := bif qb_t (L a) k then vp_updL L a (L a ||| L k) else L
def qw_wi (L : Nat → Int64) (k : Nat) : Nat → Nat → Int64
  | 0 => L
  | a + 1 => qw_ws (qw_wi L k a) k a
def qw_wo (m : Nat) (L : Nat → Int64) : Nat → Nat → Int64
  | 0 => L
  | k + 1 => qw_wi (qw_wo m L k) k m
def qw_W (m : Nat) (U D : Nat → Option Nat) (pl Sg : Nat → Bool) : Nat → Int64 := qw_wo m (qw_fs U D pl Sg m) m
theorem qq_a {m p : Nat} {o : Option Nat} {L M : Nat → Int64} (h : qq m L M) (ho : ∀ a, o = some a → a < m) : qq m (qw_a o L p) (qw_a o M p) := by
  cases o with
  | none => exact h
  | some a => exact qq_u h (by rw [h a (ho a rfl)])
theorem qq_b {m p : Nat} {o : Option Nat} {L M : Nat → Int64} (h : qq m L M) (hp : p < m) : qq m (qw_b o L p) (qw_b o M p) := by
  cases o with
  | none => exact h
  | some b => exact qq_u h (by rw [h p hp])
theorem qq_st {m p : Nat} {U D : Nat → Option Nat} {pl Sg : Nat → Bool} {L M : Nat → Int64} (h : qq m L M) (hp : p < m) (ho : ∀ a, U p = some a → a < p) : qq m (qw_st U D pl Sg L p) (qw_st U D pl Sg M p) := by
  unfold qw_st
  cases pl p && Sg p
  · exact h
  · exact qq_b (qq_a h (fun a ha => Nat.lt_trans (ho a ha) hp)) hp
theorem qq_ws {m k a : Nat} {L M : Nat → Int64} (h : qq m L M) (hk : k < m) (ha : a < m) : qq m (qw_ws L k a) (qw_ws M k a) := by
  unfold qw_ws
  rw [h a ha, h k hk]
  cases qb_t (M a) k
  · exact h
  · exact qq_u h rfl
/-! the text -/
def qt_bef (W : Nat → Int64) (b a : Nat) : Bool := qb_t (W b) a && !qb_t (W a) b
def qt_fr (m : Nat) (W : Nat → Int64) (l : Nat → Bool) (a : Nat) : Bool := l a && !qe (fun b => l b && qt_bef W b a) m
def qt_nx (m : Nat) (W : Nat → Int64) (l : Nat → Bool) : Nat := qf (qt_fr m W l) m 0
def qt_lf (m : Nat) (W : Nat → Int64) (l : Nat → Bool) : Nat → Nat → Bool
  | 0 => l
  | k + 1 => fun j => qt_lf m W l k j && !decide (j = qt_nx m W (qt_lf m W l k))
def qt_T (m : Nat) (W : Nat → Int64) (l : Nat → Bool) (k : Nat) : Nat := qt_nx m W (qt_lf m W l k)
def qt_op (m : Nat) (U : Nat → Option Nat) (pl Sg : Nat → Bool) (j : Nat) : Bool := (decide (j < m) && (Sg j && pl j)) && !qe (fun q => Sg q && (!pl q && decide (U q = some j))) m
def qt_n (m : Nat) (l : Nat → Bool) : Nat := qs (fun i => (l i).toNat) m
theorem qt_nxc {m : Nat} {L W : Nat → Int64} {l l' : Nat → Bool} (h : qq m L W) (hl : ∀ j, j < m → l j = l' j) : qt_nx m L l = qt_nx m W l' := by
  unfold qt_nx
  apply qf_congr
  intro j hj
  have hj : j < m := by omega
  unfold qt_fr
  rw [hl j hj, qe_congr m (fun b hb => by
    show (l b && qt_bef L b j) = (l' b && qt_bef W b j)
    unfold qt_bef
    rw [hl b hb, h b hb, h j hj])]
theorem qt_nl (m : Nat) (l : Nat → Bool) : qt_n m l ≤ m := qs_le m
theorem qt_lfs {m : Nat} {W : Nat → Int64} {l : Nat → Bool} : ∀ k j, qt_lf m W l k j = true → l j = true := by
  intro k
  induction k with
  | zero => intro j h; exact h
  | succ k ih =>
    intro j h
    have h : (qt_lf m W l k j && !decide (j = qt_nx m W (qt_lf m W l k))) = true := h
    rw [Bool.and_eq_true] at h
    exact ih j h.1
theorem qt_Ts {m : Nat} {W : Nat → Int64} {l : Nat → Bool} (k : Nat) : qt_T m W l k < m ∧ l (qt_T m W l k) = true ∨ qt_T m W l k = 0 := by
  rcases qf_lt (F := qt_fr m W (qt_lf m W l k)) m 0 with h | h
  · refine Or.inl ⟨by have := h.1; unfold qt_T qt_nx; omega, qt_lfs (m := m) (W := W) k _ ?_⟩
    have e := h.2
    unfold qt_fr at e
    rw [Bool.and_eq_true] at e
    exact e.1
  · exact Or.inr h
theorem qt_Tm {m : Nat} {W : Nat → Int64} {l : Nat → Bool} {k : Nat} (hk : k < qt_n m l) : qt_T m W l k < m := by
  have := qt_nl m l
  rcases qt_Ts (m := m) (W := W) (l := l) k with h | h
  · exact h.1
  · omega
end
section
/-! X: bits, ways -/
theorem qx_isIn {post : Int32 → Prop} {k : Nat} {w : Int64} (hk : k < 64) : wpX_isIn post (nI k) w = post (qI (qb_t w k)) := by
  unfold wpX_isIn
  rw [qb_in hk]
  cases qb_t w k <;> simp [qI]
theorem qx_only {post : Int64 → Prop} {k : Nat} : wpX_only post (nI k) = post (qb_on k) := rfl
section
variable {m s : Nat} {U D : Nat → Option Nat} {pl Sg : Nat → Bool} {P N L tx0 : Nat → Int64} {pu up lo ct tx ot : Nat → Int32}
theorem qx_fs25 {post : SX → Prop} (hm : m ≤ 60) (hs : s < 3) (hpu : ∀ p, p < m → pu p = qI (pl p)) (hup : ∀ p, p < m → up p = qo_X (U p)) (hlo : ∀ p, p < m → lo p = qo_X (D p)) (hU : ∀ p, p < m → ∀ a, U p = some a → a < p) (hD : ∀ p, p < m → ∀ a, D p = some a → a < p) (hP : ∀ j, j < m → qb_t (P s) j = Sg j)
    (K : ∀ L, qq m L (qw_fs U D pl Sg m) → post (nI m, P, N, pu, up, lo, ct, L, tx, ot)) :
    ∀ n p L, p ≤ m → m - p < n → qq m L (qw_fs U D pl Sg p) → wX_findSteps_25 post (nI s) (nI m) n (nI p) P N pu up lo ct L tx ot := by
  intro n
  induction n with
  | zero => intro p L hp hn; omega
  | succ n ih =>
    intro p L hp hn hL
    simp only [wX_findSteps_25]
    rcases Nat.lt_or_ge p m with hlt | hge
    · refine br_f (nI_ge hlt (by omega)) ?_
      have key : qq m (qw_st U D pl Sg L p) (qw_fs U D pl Sg (p + 1)) := qq_st hL hlt (hU p hlt)
      have fi : vp_in (nI p) 60 = True := qn_in (by omega) (by omega)
      have fs : vp_in (nI s) 3 = True := qn_in (by omega) (by omega)
      have fc : (nI p).toNatClampNeg = p := nI_clamp (by omega)
      have fd : (nI s).toNatClampNeg = s := nI_clamp (by omega)
      have IH := fun L h => ih (p + 1) L (by omega) (by omega) h
      unfold qw_st at key
      simp only [wX_findSteps_84, fi, fs, fc, fd, hpu p hlt, hup p hlt, hlo p hlt, qx_isIn (show p < 64 by omega), qx_only, hP p hlt, true_and, nI_1, forall_eq]
      cases h1 : pl p
      · simp only [h1, qI_f, qz_0, Bool.false_and, cond_false] at key ⊢
        exact ⟨fun _ => IH L key, fun z => absurd trivial z⟩
      · cases h2 : Sg p
        · simp only [h1, h2, qI_f, qI_t, qz_0, qz_1, Bool.and_false, cond_false] at key ⊢
          exact ⟨fun z => z.elim, fun _ => ⟨fun _ => IH L key, fun z => absurd trivial z⟩⟩
        · simp only [h1, h2, qI_t, qz_1, Bool.and_true, cond_true, false_implies, not_false_iff, true_implies, true_and] at key ⊢
          cases h3 : U p with
          | none =>
            cases h4 : D p with
            | none =>
              simp only [h3, h4, qw_a, qw_b, qo_Xn, qz_nn, true_implies, not_true, false_implies, and_true] at key ⊢
              exact IH L key
            | some b =>
              have hb := hD p hlt b h4
              simp only [h3, h4, qw_a, qw_b, qo_Xn, qo_Xs, qn_none (show b < 2 ^ 31 by omega), qz_nn, true_implies, not_true, not_false_iff, false_implies, and_true, true_and, qx_only] at key ⊢
              exact IH _ key
          | some a =>
            have ha := hU p hlt a h3
            have fa : vp_in (nI a) 60 = True := qn_in (by omega) (by omega)
            have fe : (nI a).toNatClampNeg = a := nI_clamp (by omega)
            cases h4 : D p with
            | none =>
              simp only [h3, h4, qw_a, qw_b, qo_Xn, qo_Xs, fa, fe, qn_none (show a < 2 ^ 31 by omega), qz_nn, true_implies, not_true, not_false_iff, false_implies, and_true, true_and, qx_only, forall_eq] at key ⊢
              exact IH _ key
            | some b =>
              have hb := hD p hlt b h4
              simp only [h3, h4, qw_a, qw_b, qo_Xn, qo_Xs, fa, fe, qn_none (show a < 2 ^ 31 by omega), qn_none (show b < 2 ^ 31 by omega), qz_nn, true_implies, not_true, not_false_iff, false_implies, and_true, true_and, qx_only, forall_eq] at key ⊢
              exact IH _ key
    · have e : p = m := by omega
      subst e
      exact br_t (nI_le (Nat.le_refl _) (by omega)) (K L hL)
theorem qx_fs2 {post : SX → Prop} (hm : m ≤ 60) (hs : s < 3) (hpu : ∀ p, p < m → pu p = qI (pl p)) (hup : ∀ p, p < m → up p = qo_X (U p)) (hlo : ∀ p, p < m → lo p = qo_X (D p)) (hU : ∀ p, p < m → ∀ a, U p = some a → a < p) (hD : ∀ p, p < m → ∀ a, D p = some a → a < p) (hP : ∀ j, j < m → qb_t (P s) j = Sg j)
    (K : ∀ L, qq m L (qw_fs U D pl Sg m) → post (nI m, P, N, pu, up, lo, ct, L, tx, ot)) :
    ∀ n p L, p ≤ m → m - p < n → (∀ i, i < p → L i = 0) → wX_findSteps_2 post (nI s) (nI m) n (nI p) P N pu up lo ct L tx ot := by
  intro n
  induction n with
  | zero => intro p L hp hn; omega
  | succ n ih =>
    intro p L hp hn hL
    simp only [wX_findSteps_2]
    rcases Nat.lt_or_ge p m with hlt | hge
    · refine br_f (nI_ge hlt (by omega)) ⟨vp_in_nI (by omega) (by omega), ?_⟩
      simp only [nI_clamp (show p < 2 ^ 31 by omega), nI_1, forall_eq]
      refine ih (p + 1) _ (by omega) (by omega) (fun i hi => ?_)
      by_cases z : i = p
      · rw [z, qu_Ls]
      · rw [qu_Ln z]; exact hL i (by omega)
    · have e : p = m := by omega
      subst e
      exact br_t (nI_le (Nat.le_refl _) (by omega)) ⟨p + 1, qx_fs25 hm hs hpu hup hlo hU hD hP K (p + 1) 0 L (by omega) (by omega) hL⟩
theorem qx_fw17 {post : SX → Prop} {J : Int32 → (Nat → Int64) → (Nat → Int64) → (Nat → Int32) → (Nat → Int32) → (Nat → Int32) → (Nat → Int32) → (Nat → Int64) → (Nat → Int32) → (Nat → Int32) → Prop} {k : Nat} {M : Nat → Int64} (hm : m ≤ 60) (hk : k < m)
    (K : ∀ L, qq m L (qw_wi M k m) → J (nI (k + 1)) P N pu up lo ct L tx ot) :
    ∀ n a L, a ≤ m → m - a < n → qq m L (qw_wi M k a) → wX_findWays_17 post J (nI k) (nI m) n (nI a) P N pu up lo ct L tx ot := by
  intro n
  induction n with
  | zero => intro a L ha hn; omega
  | succ n ih =>
    intro a L ha hn hL
    simp only [wX_findWays_17]
    rcases Nat.lt_or_ge a m with hlt | hge
    · refine br_f (nI_ge hlt (by omega)) ?_
      have key : qq m (qw_ws L k a) (qw_wi M k (a + 1)) := qq_ws hL hk hlt
      have fi : vp_in (nI a) 60 = True := qn_in (by omega) (by omega)
      have fk : vp_in (nI k) 60 = True := qn_in (by omega) (by omega)
      have IH := fun L h => ih (a + 1) L (by omega) (by omega) h
      unfold qw_ws at key
      simp only [fi, fk, nI_clamp (show a < 2 ^ 31 by omega), nI_clamp (show k < 2 ^ 31 by omega), qx_isIn (show k < 64 by omega), qI_0, nI_1, forall_eq, true_and]
      cases h1 : qb_t (L a) k
      · simp only [h1, cond_false] at key
        exact ⟨fun _ => IH L key, fun z => absurd rfl z⟩
      · simp only [h1, cond_true] at key
        exact ⟨(fun z => nomatch z), fun _ => IH _ key⟩
    · have e : a = m := by omega
      subst e
      refine br_t (nI_le (Nat.le_refl _) (by omega)) ?_
      simp only [nI_1, forall_eq]
      exact K L hL
theorem qx_fw7 {post : SX → Prop} {M : Nat → Int64} (hm : m ≤ 60)
    (K : ∀ L, qq m L (qw_wo m M m) → post (nI m, P, N, pu, up, lo, ct, L, tx, ot)) :
    ∀ n k L, k ≤ m → m - k < n → qq m L (qw_wo m M k) → wX_findWays_7 post (nI m) n (nI k) P N pu up lo ct L tx ot := by
  intro n
  induction n with
  | zero => intro k L hk hn; omega
  | succ n ih =>
    intro k L hk hn hL
    simp only [wX_findWays_7]
    rcases Nat.lt_or_ge k m with hlt | hge
    · exact br_f (nI_ge hlt (by omega)) ⟨m + 1, qx_fw17 hm hlt (fun L' hL' => ih (k + 1) L' (by omega) (by omega) hL') (m + 1) 0 L (by omega) (by omega) hL⟩
    · have e : k = m := by omega
      subst e
      exact br_t (nI_le (Nat.le_refl _) (by omega)) (K L hL)
theorem qx_findWays {post : SX → Prop} (hm : m ≤ 60) (hs : s < 3) (hpu : ∀ p, p < m → pu p = qI (pl p)) (hup : ∀ p, p < m → up p = qo_X (U p)) (hlo : ∀ p, p < m → lo p = qo_X (D p)) (hU : ∀ p, p < m → ∀ a, U p = some a → a < p) (hD : ∀ p, p < m → ∀ a, D p = some a → a < p) (hP : ∀ j, j < m → qb_t (P s) j = Sg j)
    (K : ∀ L, qq m L (qw_W m U D pl Sg) → post (nI m, P, N, pu, up, lo, ct, L, tx, ot)) :
    wpX_findWays post (nI m, P, N, pu, up, lo, ct, L, tx, ot) (nI s) := by
  simp only [wpX_findWays, wpX_findSteps]
  refine ⟨m + 1, qx_fs2 hm hs hpu hup hlo hU hD hP ?_ (m + 1) 0 L (by omega) (by omega) (fun i hi => by omega)⟩
  intro L1 hL1
  exact ⟨m + 1, qx_fw7 hm K (m + 1) 0 L1 (by omega) (by omega) hL1⟩
end
end
section
/-! X: the text -/
def qd_n (m : Nat) (U : Nat → Option Nat) (pl Sg : Nat → Bool) : Nat := qt_n m (qt_op m U pl Sg)
def qd_T (m : Nat) (U D : Nat → Option Nat) (pl Sg : Nat → Bool) (k : Nat) : Nat := qt_T m (qw_W m U D pl Sg) (qt_op m U pl Sg) k
theorem qd_nm (m : Nat) (U : Nat → Option Nat) (pl Sg : Nat → Bool) : qd_n m U pl Sg ≤ m := qt_nl m _
theorem qd_Tm {m : Nat} {U D : Nat → Option Nat} {pl Sg : Nat → Bool} {k : Nat} (hk : k < qd_n m U pl Sg) : qd_T m U D pl Sg k < m := qt_Tm hk
theorem qd_l1 {x : Int64} {p : Nat} {F : Nat → Bool} (hx : ∀ j, qb_t x j = (decide (j < p) && F j)) (h : F p = false) : ∀ j, qb_t x j = (decide (j < p + 1) && F j) := by
  intro j
  rw [hx j]
  by_cases z : j = p
  · rw [z, h, Bool.and_false, Bool.and_false]
  · rw [show decide (j < p + 1) = decide (j < p) from decide_eq_decide.mpr (by omega)]
theorem qd_l2 {x : Int64} {p : Nat} {F : Nat → Bool} (hp : p < 64) (hx : ∀ j, qb_t x j = (decide (j < p) && F j)) (h : F p = true) : ∀ j, qb_t (x ||| qb_on p) j = (decide (j < p + 1) && F j) := by
  intro j
  rw [qb_or, hx j, qb_one hp]
  by_cases z : j = p
  · rw [z, h]; simp
  · rw [show decide (j < p + 1) = decide (j < p) from decide_eq_decide.mpr (by omega), decide_eq_false z, Bool.or_false]
section
variable {m s : Nat} {U D : Nat → Option Nat} {pl Sg : Nat → Bool} {P N L : Nat → Int64} {pu up lo ct tx ot : Nat → Int32}
theorem qx_lns8 {post : Int64 → Prop} (hm : m ≤ 60) (hs : s < 3) (hpu : ∀ p, p < m → pu p = qI (pl p)) (hup : ∀ p, p < m → up p = qo_X (U p)) (hU : ∀ p, p < m → ∀ a, U p = some a → a < p) (hst : ∀ p, p < m → pl p = false → ∃ a, U p = some a) (hP : ∀ j, j < m → qb_t (P s) j = Sg j)
    (K : ∀ w, (∀ j, qb_t w j = qt_op m U pl Sg j) → post w) :
    ∀ n p x y, p ≤ m → m - p < n → (∀ j, qb_t x j = (decide (j < p) && (Sg j && pl j))) → (∀ j, qb_t y j = qe (fun q => Sg q && (!pl q && decide (U q = some j))) p) → wX_linesNotStruck_8 post (nI s) (nI m) P N pu up lo ct L tx ot n x y (nI p) := by
  intro n
  induction n with
  | zero => intro p x y hp hn; omega
  | succ n ih =>
    intro p x y hp hn hx hy
    simp only [wX_linesNotStruck_8]
    rcases Nat.lt_or_ge p m with hlt | hge
    · refine br_f (nI_ge hlt (by omega)) ?_
      have fi : vp_in (nI p) 60 = True := qn_in (by omega) (by omega)
      have fs : vp_in (nI s) 3 = True := qn_in (by omega) (by omega)
      simp only [fi, fs, nI_clamp (show p < 2 ^ 31 by omega), nI_clamp (show s < 2 ^ 31 by omega), hpu p hlt, hup p hlt, hP p hlt, qx_isIn (show p < 64 by omega), qx_only, qI_0, nI_1, forall_eq, true_and]
      cases h2 : Sg p
      · refine ⟨fun _ => ih (p + 1) x y (by omega) (by omega) (qd_l1 (F := fun j => Sg j && pl j) hx (by simp [h2])) (fun j => ?_), fun z => absurd rfl z⟩
        rw [hy j]; simp [qe, h2]
      · refine ⟨(fun z => nomatch z), fun _ => ?_⟩
        cases h1 : pl p
        · refine ⟨fun _ => ?_, fun z => absurd rfl z⟩
          obtain ⟨a, h3⟩ := hst p hlt h1
          have ha := hU p hlt a h3
          simp only [h3, qo_Xs, qx_only]
          refine ih (p + 1) x _ (by omega) (by omega) (qd_l1 (F := fun j => Sg j && pl j) hx (by simp [h1])) (fun j => ?_)
          rw [qb_or, hy j, qb_one (by omega)]
          simp [qe, h1, h2, h3, eq_comm]
        · refine ⟨(fun z => nomatch z), fun _ => ?_⟩
          refine ih (p + 1) _ y (by omega) (by omega) (qd_l2 (F := fun j => Sg j && pl j) (by omega) hx (by simp [h1, h2])) (fun j => ?_)
          rw [hy j]; simp [qe, h1]
    · have e : p = m := by omega
      subst e
      refine br_t (nI_le (Nat.le_refl _) (by omega)) (K _ (fun j => ?_))
      rw [qb_not, hx j, hy j]; rfl
theorem qx_size4 {post : Int32 → Prop} {w : Int64} (K : post (nI (qs (fun i => (qb_t w i).toNat) 60))) : ∀ n i, i ≤ 60 → 60 - i < n → wX_size_4 post w n (nI (qs (fun i => (qb_t w i).toNat) i)) (nI i) := by
  intro n
  induction n with
  | zero => intro i hi hn; omega
  | succ n ih =>
    intro i hi hn
    simp only [wX_size_4]
    rcases Nat.lt_or_ge i 60 with hlt | hge
    · refine br_f (nI_ge (b := 60) hlt (by decide)) ?_
      have IH := ih (i + 1) (by omega) (by omega)
      simp only [qx_isIn (show i < 64 by omega), qI_0, nI_1, forall_eq]
      simp only [qs] at IH
      cases h : qb_t w i
      · rw [h] at IH; exact ⟨fun _ => IH, fun z => absurd rfl z⟩
      · rw [h] at IH; exact ⟨(fun z => nomatch z), fun _ => IH⟩
    · have e : i = 60 := by omega
      subst e
      exact br_t (nI_le (b := 60) (Nat.le_refl _) (by decide)) K
theorem qx_size {post : Int32 → Prop} {w : Int64} (K : post (nI (qs (fun i => (qb_t w i).toNat) 60))) : wpX_size post w := by
  unfold wpX_size
  exact ⟨61, qx_size4 K 61 0 (by omega) (by omega)⟩
theorem qx_bef {post : Int32 → Prop} {a b : Nat} {mc : Int32} (ha : a < 60) (hb : b < 60) : wpX_isBefore post (mc, P, N, pu, up, lo, ct, L, tx, ot) (nI a) (nI b) = post (qI (qt_bef L a b)) := by
  have fa : vp_in (nI a) 60 = True := qn_in ha (by omega)
  have fb : vp_in (nI b) 60 = True := qn_in hb (by omega)
  simp only [wpX_isBefore, fa, fb, nI_clamp (show a < 2 ^ 31 by omega), nI_clamp (show b < 2 ^ 31 by omega), qx_isIn (show a < 64 by omega), qx_isIn (show b < 64 by omega), qI_0, true_and]
  unfold qt_bef
  cases qb_t (L a) b <;> cases qb_t (L b) a <;> simp [qI]
theorem qx_each {post : Int32 → Prop} {a b : Nat} {mc : Int32} (ha : a < 60) (hb : b < 60) : wpX_leadToEachOther post (mc, P, N, pu, up, lo, ct, L, tx, ot) (nI a) (nI b) = post (qI (qb_t (L a) b && qb_t (L b) a)) := by
  have fa : vp_in (nI a) 60 = True := qn_in ha (by omega)
  have fb : vp_in (nI b) 60 = True := qn_in hb (by omega)
  simp only [wpX_leadToEachOther, fa, fb, nI_clamp (show a < 2 ^ 31 by omega), nI_clamp (show b < 2 ^ 31 by omega), qx_isIn (show a < 64 by omega), qx_isIn (show b < 64 by omega), qI_0, true_and]
  cases qb_t (L a) b <;> cases qb_t (L b) a <;> simp [qI]
theorem qx_first3 {post : Int32 → Prop} {w : Int64} {a : Nat} (hm : m ≤ 60) (ha : a < m) (K : post (qI (!qe (fun b => qb_t w b && qt_bef L b a) m))) :
    ∀ n i, i ≤ m → m - i < n → (∀ j, j < i → (qb_t w j && qt_bef L j a) = false) → wX_isFirstOf_3 post w (nI a) (nI m) P N pu up lo ct L tx ot n (nI i) := by
  intro n
  induction n with
  | zero => intro i hi hn; omega
  | succ n ih =>
    intro i hi hn hI
    simp only [wX_isFirstOf_3]
    rcases Nat.lt_or_ge i m with hlt | hge
    · refine br_f (nI_ge hlt (by omega)) ?_
      have IH : (qb_t w i && qt_bef L i a) = false → wX_isFirstOf_3 post w (nI a) (nI m) P N pu up lo ct L tx ot n (nI (i + 1)) := fun h => ih (i + 1) (by omega) (by omega) (fun j hj => by
        rcases Nat.lt_or_ge j i with z | z
        · exact hI j z
        · rw [show j = i by omega]; exact h)
      simp only [qx_isIn (show i < 64 by omega), qx_bef (show i < 60 by omega) (show a < 60 by omega), qI_0, nI_1, forall_eq]
      cases h : qb_t w i
      · exact ⟨fun _ => IH (by rw [h, Bool.false_and]), fun z => absurd rfl z⟩
      · refine ⟨(fun z => nomatch z), fun _ => ?_⟩
        cases h2 : qt_bef L i a
        · exact ⟨fun _ => IH (by rw [h2, Bool.and_false]), fun z => absurd rfl z⟩
        · refine ⟨(fun z => nomatch z), fun _ => ?_⟩
          have e : qe (fun b => qb_t w b && qt_bef L b a) m = true := qe_t.mpr ⟨i, hlt, by rw [h, h2]; rfl⟩
          rw [e] at K; exact K
    · have e : i = m := by omega
      subst e
      have e : qe (fun b => qb_t w b && qt_bef L b a) i = false := qe_f.mpr hI
      rw [e] at K
      exact br_t (nI_le (Nat.le_refl _) (by omega)) K
theorem qx_first {post : Int32 → Prop} {w : Int64} {a : Nat} (hm : m ≤ 60) (ha : a < m) (K : post (qI (!qe (fun b => qb_t w b && qt_bef L b a) m))) : wpX_isFirstOf post (nI m, P, N, pu, up, lo, ct, L, tx, ot) w (nI a) := by
  simp only [wpX_isFirstOf]
  exact ⟨m + 1, qx_first3 hm ha K (m + 1) 0 (by omega) (by omega) (fun j hj => by omega)⟩
theorem qx_next1 {post : Int32 → Prop} {w : Int64} {n : Nat} {x y mc : Int32} (K : post x) : wX_nextLine_8 post w mc P N pu up lo ct L tx ot (n + 1) x 1 y := by
  simp only [wX_nextLine_8, qz_1, false_implies, not_false_iff, true_implies, true_and]
  exact br_c (fun _ => K) (fun _ => K)
theorem qx_next8 {post : Int32 → Prop} {w : Int64} (hm : m ≤ 60) :
    ∀ n i, i ≤ m → m - i + 1 < n → post (nI (qf (qt_fr m L (qb_t w)) (m - i) i)) → wX_nextLine_8 post w (nI m) P N pu up lo ct L tx ot n 0 0 (nI i) := by
  intro n
  induction n with
  | zero => intro i hi hn; omega
  | succ n ih =>
    intro i hi hn K
    simp only [wX_nextLine_8]
    rcases Nat.lt_or_ge i m with hlt | hge
    · refine br_f (nI_ge hlt (by omega)) ?_
      rw [show m - i = (m - (i + 1)) + 1 by omega] at K
      simp only [qf] at K
      have IH := ih (i + 1) (by omega) (by omega)
      simp only [qx_isIn (show i < 64 by omega), qI_0, qz_0, true_implies, not_true, false_implies, and_true, nI_1, forall_eq]
      cases h : qb_t w i
      · have e : qt_fr m L (qb_t w) i = false := by unfold qt_fr; rw [h, Bool.false_and]
        rw [e, cond_false] at K
        exact ⟨fun _ => IH K, fun z => absurd rfl z⟩
      · refine ⟨(fun z => nomatch z), fun _ => qx_first hm hlt ?_⟩
        have e : qt_fr m L (qb_t w) i = !qe (fun b => qb_t w b && qt_bef L b i) m := by unfold qt_fr; rw [h, Bool.true_and]
        rw [e] at K
        simp only [qI_0]
        cases h2 : qe (fun b => qb_t w b && qt_bef L b i) m
        · rw [h2] at K
          obtain ⟨n', rfl⟩ : ∃ n', n = n' + 1 := ⟨n - 1, by omega⟩
          exact ⟨(fun z => nomatch z), fun _ => qx_next1 K⟩
        · rw [h2] at K
          exact ⟨fun _ => IH K, fun z => absurd rfl z⟩
    · have e : i = m := by omega
      subst e
      rw [Nat.sub_self] at K
      exact br_t (nI_le (Nat.le_refl _) (by omega)) K
theorem qx_next {post : Int32 → Prop} {w : Int64} (hm : m ≤ 60) (K : post (nI (qt_nx m L (qb_t w)))) : wpX_nextLine post (nI m, P, N, pu, up, lo, ct, L, tx, ot) w := by
  simp only [wpX_nextLine]
  exact ⟨m + 2, qx_next8 hm (m + 2) 0 (by omega) (by omega) K⟩
theorem qx_wt20 {post : Int32 → SX → Prop} {W : Nat → Int64} {l : Nat → Bool} (hm : m ≤ 60) (hL : qq m L W)
    (K : ∀ tx, (∀ i, i < qt_n m l → tx i = nI (qt_T m W l i)) → post (nI (qt_n m l)) (nI m, P, N, pu, up, lo, ct, L, tx, ot)) :
    ∀ n k w tx, k ≤ qt_n m l → qt_n m l - k < n → (∀ j, qb_t w j = qt_lf m W l k j) → (∀ i, i < k → tx i = nI (qt_T m W l i)) → wX_writeText__text_20 post (nI (qt_n m l)) (nI m) n w (nI k) P N pu up lo ct L tx ot := by
  have hc := qt_nl m l
  intro n
  induction n with
  | zero => intro k w tx hk hn; omega
  | succ n ih =>
    intro k w tx hk hn hw ht
    simp only [wX_writeText__text_20]
    rcases Nat.lt_or_ge k (qt_n m l) with hlt | hge
    · refine br_f (nI_ge hlt (by omega)) (qx_next hm ?_)
      have e : qt_nx m L (qb_t w) = qt_T m W l k := qt_nxc hL (fun j _ => hw j)
      have hT := qt_Tm (W := W) hlt
      refine ⟨vp_in_nI (by omega) (by omega), ?_⟩
      simp only [e, qx_only, nI_clamp (show k < 2 ^ 31 by omega), nI_1, forall_eq]
      refine ih (k + 1) _ _ (by omega) (by omega) (fun j => ?_) (fun i hi => ?_)
      · rw [qb_not, hw j, qb_one (by omega)]; rfl
      · by_cases z : i = k
        · rw [z, qu_s]
        · rw [qu_n z]; exact ht i (by omega)
    · have e : k = qt_n m l := by omega
      subst e
      exact br_t (nI_le (Nat.le_refl _) (by omega)) (K _ ht)
theorem qx_text {post : Int32 → SX → Prop} (hm : m ≤ 60) (hs : s < 3) (hpu : ∀ p, p < m → pu p = qI (pl p)) (hup : ∀ p, p < m → up p = qo_X (U p)) (hlo : ∀ p, p < m → lo p = qo_X (D p)) (hU : ∀ p, p < m → ∀ a, U p = some a → a < p) (hD : ∀ p, p < m → ∀ a, D p = some a → a < p) (hst : ∀ p, p < m → pl p = false → ∃ a, U p = some a) (hP : ∀ j, j < m → qb_t (P s) j = Sg j)
    (K : ∀ L tx, qq m L (qw_W m U D pl Sg) → (∀ i, i < qd_n m U pl Sg → tx i = nI (qd_T m U D pl Sg i)) → post (nI (qd_n m U pl Sg)) (nI m, P, N, pu, up, lo, ct, L, tx, ot)) :
    wpX_writeText__text post (nI m, P, N, pu, up, lo, ct, L, tx, ot) (nI s) := by
  simp only [wpX_writeText__text]
  refine qx_findWays hm hs hpu hup hlo hU hD hP (fun L hL => ?_)
  simp only [wpX_linesNotStruck]
  refine ⟨m + 1, qx_lns8 hm hs hpu hup hU hst hP (fun w hw => ?_) (m + 1) 0 0 0 (by omega) (by omega) (fun j => by rw [qb_0]; simp) (fun j => by rw [qb_0]; rfl)⟩
  refine qx_size ?_
  have e : qs (fun i => (qb_t w i).toNat) 60 = qt_n m (qt_op m U pl Sg) := by
    rw [show 60 = m + (60 - m) by omega, qs_ext (60 - m) (fun i hi => by
      rw [hw i]; unfold qt_op; rw [decide_eq_false (by omega)]; rfl)]
    exact qs_congr m (fun i _ => by rw [hw i])
  rw [e]
  exact ⟨m + 1, qx_wt20 hm hL (fun t ht => K L t hL ht) (m + 1) 0 w tx (by omega) (by have := qt_nl m (qt_op m U pl Sg); omega) hw (fun i hi => by omega)⟩
theorem qx_wt20o {post : Int32 → SX → Prop} {W : Nat → Int64} {l : Nat → Bool} (hm : m ≤ 60) (hL : qq m L W)
    (K : ∀ ot, (∀ i, i < qt_n m l → ot i = nI (qt_T m W l i)) → post (nI (qt_n m l)) (nI m, P, N, pu, up, lo, ct, L, tx, ot)) :
    ∀ n k w ot, k ≤ qt_n m l → qt_n m l - k < n → (∀ j, qb_t w j = qt_lf m W l k j) → (∀ i, i < k → ot i = nI (qt_T m W l i)) → wX_writeText__otherText_20 post (nI (qt_n m l)) (nI m) n w (nI k) P N pu up lo ct L tx ot := by
  have hc := qt_nl m l
  intro n
  induction n with
  | zero => intro k w ot hk hn; omega
  | succ n ih =>
    intro k w ot hk hn hw ht
    simp only [wX_writeText__otherText_20]
    rcases Nat.lt_or_ge k (qt_n m l) with hlt | hge
    · refine br_f (nI_ge hlt (by omega)) (qx_next hm ?_)
      have e : qt_nx m L (qb_t w) = qt_T m W l k := qt_nxc hL (fun j _ => hw j)
      have hT := qt_Tm (W := W) hlt
      refine ⟨vp_in_nI (by omega) (by omega), ?_⟩
      simp only [e, qx_only, nI_clamp (show k < 2 ^ 31 by omega), nI_1, forall_eq]
      refine ih (k + 1) _ _ (by omega) (by omega) (fun j => ?_) (fun i hi => ?_)
      · rw [qb_not, hw j, qb_one (by omega)]; rfl
      · by_cases z : i = k
        · rw [z, qu_s]
        · rw [qu_n z]; exact ht i (by omega)
    · have e : k = qt_n m l := by omega
      subst e
      exact br_t (nI_le (Nat.le_refl _) (by omega)) (K _ ht)
theorem qx_texto {post : Int32 → SX → Prop} (hm : m ≤ 60) (hs : s < 3) (hpu : ∀ p, p < m → pu p = qI (pl p)) (hup : ∀ p, p < m → up p = qo_X (U p)) (hlo : ∀ p, p < m → lo p = qo_X (D p)) (hU : ∀ p, p < m → ∀ a, U p = some a → a < p) (hD : ∀ p, p < m → ∀ a, D p = some a → a < p) (hst : ∀ p, p < m → pl p = false → ∃ a, U p = some a) (hP : ∀ j, j < m → qb_t (P s) j = Sg j)
    (K : ∀ L ot, qq m L (qw_W m U D pl Sg) → (∀ i, i < qd_n m U pl Sg → ot i = nI (qd_T m U D pl Sg i)) → post (nI (qd_n m U pl Sg)) (nI m, P, N, pu, up, lo, ct, L, tx, ot)) :
    wpX_writeText__otherText post (nI m, P, N, pu, up, lo, ct, L, tx, ot) (nI s) := by
  simp only [wpX_writeText__otherText]
  refine qx_findWays hm hs hpu hup hlo hU hD hP (fun L hL => ?_)
  simp only [wpX_linesNotStruck]
  refine ⟨m + 1, qx_lns8 hm hs hpu hup hU hst hP (fun w hw => ?_) (m + 1) 0 0 0 (by omega) (by omega) (fun j => by rw [qb_0]; simp) (fun j => by rw [qb_0]; rfl)⟩
  refine qx_size ?_
  have e : qs (fun i => (qb_t w i).toNat) 60 = qt_n m (qt_op m U pl Sg) := by
    rw [show 60 = m + (60 - m) by omega, qs_ext (60 - m) (fun i hi => by
      rw [hw i]; unfold qt_op; rw [decide_eq_false (by omega)]; rfl)]
    exact qs_congr m (fun i _ => by rw [hw i])
  rw [e]
  exact ⟨m + 1, qx_wt20o hm hL (fun t ht => K L t hL ht) (m + 1) 0 w ot (by omega) (by have := qt_nl m (qt_op m U pl Sg); omega) hw (fun i hi => by omega)⟩
end
end
section
/-! Y: ways -/
section
variable {m s : Nat} {U D : Nat → Option Nat} {pl Sg : Nat → Bool} {ups los cts sets met pile tx oth : Nat → Int32} {W : Nat → Int64} {mc tl ol : Int32}
theorem qy_ix (s p : Nat) : (60 * nI s) + nI p = nI (60 * s + p) := by
  have e : (60 : Int32) * nI s = nI (60 * s) := (Int32.ofNat_mul 60 s).symm
  rw [e, nI_add]
theorem qy_hasIt {post : Int32 → Prop} {b : Bool} {p : Nat} (hs : s < 3) (hp : p < 60) (h : sets (60 * s + p) = qI b) : wpY_hasIt post (mc, tl, ol, ups, los, cts, sets, met, pile, tx, oth, W) (nI s) (nI p) = post (qI b) := by
  have fi : vp_in (nI (60 * s + p)) 180 = True := qn_in (by omega) (by omega)
  simp only [wpY_hasIt, qy_ix, nI_clamp (show 60 * s + p < 2 ^ 31 by omega), fi, h, qI_fit, true_and]
theorem qy_isLine {post : Int32 → Prop} {p : Nat} (hm : m ≤ 60) (hp : p < m) (h : los p = (bif pl p then qo_Y (D p) else -2)) (hD : ∀ a, D p = some a → a < p) : wpY_isLine post (mc, tl, ol, ups, los, cts, sets, met, pile, tx, oth, W) (nI p) = post (qI (pl p)) := by
  have fi : vp_in (nI p) 60 = True := qn_in (by omega) (by omega)
  simp only [wpY_isLine, nI_clamp (show p < 2 ^ 31 by omega), fi, h, true_and]
  cases h1 : pl p
  · simp [qI]
  · cases h2 : D p with
    | none => simp [qI, qo_Y]
    | some a =>
      have := hD a h2
      simp [qI, qo_Y, qn_m2 (show a < 2 ^ 31 by omega)]
theorem qy_fw142 {post : SY → Prop} {J : Int32 → (Nat → Int32) → (Nat → Int32) → (Nat → Int32) → (Nat → Int32) → (Nat → Int32) → (Nat → Int32) → (Nat → Int32) → (Nat → Int32) → (Nat → Int64) → Prop} {k : Nat} {M : Nat → Int64} (hm : m ≤ 60) (hk : k < m)
    (K : ∀ W, qq m W (qw_wi M k m) → J (nI (k + 1)) ups los cts sets met pile tx oth W) :
    ∀ n a W, a ≤ m → m - a < n → qq m W (qw_wi M k a) → wY_findWays_142 post J (nI k) (nI m) tl ol n (nI a) ups los cts sets met pile tx oth W := by
  intro n
  induction n with
  | zero => intro a W ha hn; omega
  | succ n ih =>
    intro a W ha hn hW
    simp only [wY_findWays_142]
    rcases Nat.lt_or_ge a m with hlt | hge
    · refine br_f (nI_ge hlt (by omega)) ?_
      have key : qq m (qw_ws W k a) (qw_wi M k (a + 1)) := qq_ws hW hk hlt
      have fi : vp_in (nI a) 60 = True := qn_in (by omega) (by omega)
      have fk : vp_in (nI k) 60 = True := qn_in (by omega) (by omega)
      have IH := fun W h => ih (a + 1) W (by omega) (by omega) h
      unfold qw_ws at key
      simp only [fi, fk, nI_clamp (show a < 2 ^ 31 by omega), nI_clamp (show k < 2 ^ 31 by omega), qb_in1 (show k < 64 by omega), nI_1, forall_eq, true_and]
      cases h1 : qb_t (W a) k
      · simp only [h1, cond_false] at key
        refine ⟨(fun z => nomatch z), fun _ => IH _ (fun i hi => ?_)⟩
        rw [← key i hi]
        by_cases z : i = a
        · rw [z, qu_Ls]
        · rw [qu_Ln z]
      · simp only [h1, cond_true] at key
        exact ⟨fun _ => IH _ key, fun z => absurd rfl z⟩
    · have e : a = m := by omega
      subst e
      refine br_t (nI_le (Nat.le_refl _) (by omega)) ?_
      simp only [nI_1, forall_eq]
      exact K W hW
theorem qy_fw132 {post : SY → Prop} {M : Nat → Int64} (hm : m ≤ 60)
    (K : ∀ W, qq m W (qw_wo m M m) → post (nI m, tl, ol, ups, los, cts, sets, met, pile, tx, oth, W)) :
    ∀ n k W, k ≤ m → m - k < n → qq m W (qw_wo m M k) → wY_findWays_132 post (nI m) tl ol n (nI k) ups los cts sets met pile tx oth W := by
  intro n
  induction n with
  | zero => intro k W hk hn; omega
  | succ n ih =>
    intro k W hk hn hW
    simp only [wY_findWays_132]
    rcases Nat.lt_or_ge k m with hlt | hge
    · exact br_f (nI_ge hlt (by omega)) ⟨m + 1, qy_fw142 hm hlt (fun W' hW' => ih (k + 1) W' (by omega) (by omega) hW') (m + 1) 0 W (by omega) (by omega) hW⟩
    · have e : k = m := by omega
      subst e
      exact br_t (nI_le (Nat.le_refl _) (by omega)) (K W hW)
theorem qy_fw25 {post : SY → Prop} (hm : m ≤ 60) (hs : s < 3) (hups : ∀ p, p < m → ups p = qo_Y (U p)) (hlos : ∀ p, p < m → los p = (bif pl p then qo_Y (D p) else -2)) (hU : ∀ p, p < m → ∀ a, U p = some a → a < p) (hD : ∀ p, p < m → ∀ a, D p = some a → a < p) (hS : ∀ p, p < m → sets (60 * s + p) = qI (Sg p))
    (K : ∀ W, qq m W (qw_W m U D pl Sg) → post (nI m, tl, ol, ups, los, cts, sets, met, pile, tx, oth, W)) :
    ∀ n p W, p ≤ m → m - p < n → qq m W (qw_fs U D pl Sg p) → wY_findWays_25 post (nI s) (nI m) tl ol n (nI p) ups los cts sets met pile tx oth W := by
  intro n
  induction n with
  | zero => intro p W hp hn; omega
  | succ n ih =>
    intro p W hp hn hW
    simp only [wY_findWays_25]
    rcases Nat.lt_or_ge p m with hlt | hge
    · refine br_f (nI_ge hlt (by omega)) ?_
      have key : qq m (qw_st U D pl Sg W p) (qw_fs U D pl Sg (p + 1)) := qq_st hW hlt (hU p hlt)
      have fi : vp_in (nI p) 60 = True := qn_in (by omega) (by omega)
      have fc : (nI p).toNatClampNeg = p := nI_clamp (by omega)
      have IH := fun W h => ih (p + 1) W (by omega) (by omega) h
      unfold qw_st at key
      rw [qy_hasIt hs (by omega) (hS p hlt), qy_isLine hm hlt (hlos p hlt) (hD p hlt)]
      simp only [wY_findWays_88, fi, fc, hups p hlt, hlos p hlt, true_and, nI_1, forall_eq, qI_0]
      cases h2 : Sg p
      · simp only [h2, Bool.and_false, cond_false] at key
        exact ⟨fun _ => IH W key, fun z => absurd rfl z⟩
      · refine ⟨(fun z => nomatch z), fun _ => ?_⟩
        cases h1 : pl p
        · simp only [h1, Bool.false_and, cond_false] at key
          exact ⟨fun _ => IH W key, fun z => absurd rfl z⟩
        · refine ⟨(fun z => nomatch z), fun _ => ?_⟩
          simp only [h1, h2, Bool.and_true, cond_true] at key ⊢
          cases h3 : U p with
          | none =>
            cases h4 : D p with
            | none =>
              simp only [h3, h4, qw_a, qw_b, qo_Yn, qz_n1, true_implies, not_true, false_implies, and_true] at key ⊢
              refine IH _ (fun i hi => ?_)
              rw [← key i hi]
              by_cases z : i = p
              · rw [z, qu_Ls]
              · rw [qu_Ln z]
            | some b =>
              have hb := hD p hlt b h4
              simp only [h3, h4, qw_a, qw_b, qo_Yn, qo_Ys, qn_neg (show b < 2 ^ 31 by omega), qz_n1, true_implies, not_true, not_false_iff, false_implies, and_true, true_and] at key ⊢
              exact IH _ key
          | some a =>
            have ha := hU p hlt a h3
            have fa : vp_in (nI a) 60 = True := qn_in (by omega) (by omega)
            have fe : (nI a).toNatClampNeg = a := nI_clamp (by omega)
            have hap : a ≠ p := by omega
            cases h4 : D p with
            | none =>
              simp only [h3, h4, qw_a, qw_b, qo_Yn, qo_Ys, fa, fe, qn_neg (show a < 2 ^ 31 by omega), qz_n1, true_implies, not_true, not_false_iff, false_implies, and_true, true_and, forall_eq] at key ⊢
              refine IH _ (fun i hi => ?_)
              rw [← key i hi]
              by_cases z : i = a
              · rw [z, qu_Ls, qu_Ls, qu_Ln hap]; rfl
              · rw [qu_Ln z, qu_Ln z]
                by_cases z : i = p
                · rw [z, qu_Ls]
                · rw [qu_Ln z]
            | some b =>
              have hb := hD p hlt b h4
              simp only [h3, h4, qw_a, qw_b, qo_Yn, qo_Ys, fa, fe, qn_neg (show a < 2 ^ 31 by omega), qn_neg (show b < 2 ^ 31 by omega), qz_n1, true_implies, not_true, not_false_iff, false_implies, and_true, true_and, forall_eq] at key ⊢
              refine IH _ (fun i hi => ?_)
              rw [← key i hi]
              by_cases z : i = a
              · rw [z, qu_Ls, qu_Ln hap, qu_Ln hap, qu_Ls]; rfl
              · rw [qu_Ln z]
                by_cases z2 : i = p
                · rw [z2, qu_Ls, qu_Ls, qu_Ln (Ne.symm hap)]; rfl
                · rw [qu_Ln z2, qu_Ln z2, qu_Ln z]
    · have e : p = m := by omega
      subst e
      exact br_t (nI_le (Nat.le_refl _) (by omega)) ⟨p + 1, qy_fw132 hm K (p + 1) 0 W (by omega) (by omega) hW⟩
theorem qy_fw2 {post : SY → Prop} (hm : m ≤ 60) (hs : s < 3) (hups : ∀ p, p < m → ups p = qo_Y (U p)) (hlos : ∀ p, p < m → los p = (bif pl p then qo_Y (D p) else -2)) (hU : ∀ p, p < m → ∀ a, U p = some a → a < p) (hD : ∀ p, p < m → ∀ a, D p = some a → a < p) (hS : ∀ p, p < m → sets (60 * s + p) = qI (Sg p))
    (K : ∀ W, qq m W (qw_W m U D pl Sg) → post (nI m, tl, ol, ups, los, cts, sets, met, pile, tx, oth, W)) :
    ∀ n p W, p ≤ m → m - p < n → (∀ i, i < p → W i = 0) → wY_findWays_2 post (nI s) (nI m) tl ol n (nI p) ups los cts sets met pile tx oth W := by
  intro n
  induction n with
  | zero => intro p W hp hn; omega
  | succ n ih =>
    intro p W hp hn hW
    simp only [wY_findWays_2]
    rcases Nat.lt_or_ge p m with hlt | hge
    · refine br_f (nI_ge hlt (by omega)) ⟨vp_in_nI (by omega) (by omega), ?_⟩
      simp only [nI_clamp (show p < 2 ^ 31 by omega), nI_1, forall_eq]
      refine ih (p + 1) _ (by omega) (by omega) (fun i hi => ?_)
      by_cases z : i = p
      · rw [z, qu_Ls]
      · rw [qu_Ln z]; exact hW i (by omega)
    · have e : p = m := by omega
      subst e
      exact br_t (nI_le (Nat.le_refl _) (by omega)) ⟨p + 1, qy_fw25 hm hs hups hlos hU hD hS K (p + 1) 0 W (by omega) (by omega) hW⟩
theorem qy_findWays {post : SY → Prop} (hm : m ≤ 60) (hs : s < 3) (hups : ∀ p, p < m → ups p = qo_Y (U p)) (hlos : ∀ p, p < m → los p = (bif pl p then qo_Y (D p) else -2)) (hU : ∀ p, p < m → ∀ a, U p = some a → a < p) (hD : ∀ p, p < m → ∀ a, D p = some a → a < p) (hS : ∀ p, p < m → sets (60 * s + p) = qI (Sg p))
    (K : ∀ W, qq m W (qw_W m U D pl Sg) → post (nI m, tl, ol, ups, los, cts, sets, met, pile, tx, oth, W)) :
    wpY_findWays post (nI m, tl, ol, ups, los, cts, sets, met, pile, tx, oth, W) (nI s) := by
  simp only [wpY_findWays]
  exact ⟨m + 1, qy_fw2 hm hs hups hlos hU hD hS K (m + 1) 0 W (by omega) (by omega) (fun i hi => by omega)⟩
end
end
section
/-! Y: the text -/
theorem qo_Yeq {o : Option Nat} {a : Nat} (ho : ∀ b, o = some b → b < 2 ^ 31) (ha : a < 2 ^ 31) : (qo_Y o = nI a) = (o = some a) := by
  cases o with
  | none =>
    rw [qo_Yn]
    refine propext ⟨fun e => ?_, fun e => nomatch e⟩
    have e2 := congrArg Int32.toInt e
    rw [nI_toInt ha, show (-1 : Int32).toInt = -1 from by decide] at e2
    omega
  | some b =>
    rw [qo_Ys, qn_eq (ho b rfl) ha]
    exact propext ⟨fun e => by rw [e], fun e => Option.some.inj e⟩
section
variable {m s : Nat} {U D : Nat → Option Nat} {pl Sg : Nat → Bool} {ups los cts sets met pile tx oth : Nat → Int32} {W : Nat → Int64} {mc tl ol : Int32}
theorem qy_leads {post : Int32 → Prop} {a b : Nat} (ha : a < 60) (hb : b < 60) : wpY_leads post (mc, tl, ol, ups, los, cts, sets, met, pile, tx, oth, W) (nI a) (nI b) = post (qI (qb_t (W a) b)) := by
  have fa : vp_in (nI a) 60 = True := qn_in ha (by omega)
  simp only [wpY_leads, fa, nI_clamp (show a < 2 ^ 31 by omega), qb_in1 (show b < 64 by omega), true_and]
  cases qb_t (W a) b <;> simp [qI]
theorem qy_bef {post : Int32 → Prop} {a b : Nat} (ha : a < 60) (hb : b < 60) : wpY_isBefore post (mc, tl, ol, ups, los, cts, sets, met, pile, tx, oth, W) (nI a) (nI b) = post (qI (qt_bef W a b)) := by
  simp only [wpY_isBefore, qy_leads ha hb, qy_leads hb ha, qI_0]
  unfold qt_bef
  cases qb_t (W a) b <;> cases qb_t (W b) a <;> simp [qI]
theorem qy_open21 {post : Int32 → Prop} {a : Nat} (hm : m ≤ 60) (hs : s < 3) (hups : ∀ p, p < m → ups p = qo_Y (U p)) (hlos : ∀ p, p < m → los p = (bif pl p then qo_Y (D p) else -2)) (hU : ∀ p, p < m → ∀ a, U p = some a → a < p) (hD : ∀ p, p < m → ∀ a, D p = some a → a < p) (hS : ∀ p, p < m → sets (60 * s + p) = qI (Sg p)) (ha : a < m)
    (K : post (qI (!qe (fun q => Sg q && (!pl q && decide (U q = some a))) m))) :
    ∀ n i, i ≤ m → m - i < n → (∀ j, j < i → (Sg j && (!pl j && decide (U j = some a))) = false) → wY_isOpen_21 post (nI s) (nI a) (nI m) tl ol ups los cts sets met pile tx oth W n (nI i) := by
  intro n
  induction n with
  | zero => intro i hi hn; omega
  | succ n ih =>
    intro i hi hn hI
    simp only [wY_isOpen_21]
    rcases Nat.lt_or_ge i m with hlt | hge
    · refine br_f (nI_ge hlt (by omega)) ?_
      have IH : (Sg i && (!pl i && decide (U i = some a))) = false → wY_isOpen_21 post (nI s) (nI a) (nI m) tl ol ups los cts sets met pile tx oth W n (nI (i + 1)) := fun h => ih (i + 1) (by omega) (by omega) (fun j hj => by
        rcases Nat.lt_or_ge j i with z | z
        · exact hI j z
        · rw [show j = i by omega]; exact h)
      have fi : vp_in (nI i) 60 = True := qn_in (by omega) (by omega)
      rw [qy_hasIt hs (by omega) (hS i hlt), qy_isLine hm hlt (hlos i hlt) (hD i hlt)]
      simp only [fi, nI_clamp (show i < 2 ^ 31 by omega), hups i hlt, qo_Yeq (fun b hb => Nat.lt_trans (hU i hlt b hb) (by omega)) (show a < 2 ^ 31 by omega), true_and, nI_1, forall_eq, qI_0]
      cases h2 : Sg i
      · exact ⟨fun _ => IH (by rw [h2, Bool.false_and]), fun z => absurd rfl z⟩
      · refine ⟨(fun z => nomatch z), fun _ => ?_⟩
        cases h1 : pl i
        · refine ⟨fun _ => br_c (fun h3 => ?_) (fun h3 => IH (by rw [decide_eq_false h3, Bool.and_false, Bool.and_false])), fun z => absurd rfl z⟩
          have e : qe (fun q => Sg q && (!pl q && decide (U q = some a))) m = true := qe_t.mpr ⟨i, hlt, by rw [h1, h2, decide_eq_true h3]; rfl⟩
          rw [e] at K; exact K
        · exact ⟨(fun z => nomatch z), fun _ => IH (by rw [h1]; simp)⟩
    · have e : i = m := by omega
      subst e
      have e : qe (fun q => Sg q && (!pl q && decide (U q = some a))) i = false := qe_f.mpr hI
      rw [e] at K
      exact br_t (nI_le (Nat.le_refl _) (by omega)) K
theorem qy_open {post : Int32 → Prop} {a : Nat} (hm : m ≤ 60) (hs : s < 3) (hups : ∀ p, p < m → ups p = qo_Y (U p)) (hlos : ∀ p, p < m → los p = (bif pl p then qo_Y (D p) else -2)) (hU : ∀ p, p < m → ∀ a, U p = some a → a < p) (hD : ∀ p, p < m → ∀ a, D p = some a → a < p) (hS : ∀ p, p < m → sets (60 * s + p) = qI (Sg p)) (ha : a < m) (K : post (qI (qt_op m U pl Sg a))) : wpY_isOpen post (nI m, tl, ol, ups, los, cts, sets, met, pile, tx, oth, W) (nI s) (nI a) := by
  simp only [wpY_isOpen]
  rw [qy_hasIt hs (by omega) (hS a ha), qy_isLine hm ha (hlos a ha) (hD a ha)]
  unfold qt_op at K
  rw [decide_eq_true ha] at K
  simp only [qI_0]
  cases h2 : Sg a
  · rw [h2] at K
    exact ⟨fun _ => K, fun z => absurd rfl z⟩
  · refine ⟨(fun z => nomatch z), fun _ => ?_⟩
    cases h1 : pl a
    · rw [h1, h2] at K
      exact ⟨fun _ => K, fun z => absurd rfl z⟩
    · rw [h1, h2] at K
      exact ⟨(fun z => nomatch z), fun _ => ⟨m + 1, qy_open21 hm hs hups hlos hU hD hS ha K (m + 1) 0 (by omega) (by omega) (fun j hj => by omega)⟩⟩
theorem qt_self (W : Nat → Int64) (a : Nat) : qt_bef W a a = false := by
  unfold qt_bef
  cases qb_t (W a) a <;> rfl
theorem qy_ff19 {post : Int32 → Prop} {J : Int32 → Prop} {l : Nat → Bool} {a : Nat} (hm : m ≤ 60) (ha : a < m) (hl : ∀ j, j < m → met j = qI (l j)) (K1 : qt_fr m W l a = true → post (nI a)) (K0 : qt_fr m W l a = false → J (nI (a + 1))) :
    ∀ n i, i ≤ m → m - i < n → wY_firstFree_19 post J (nI a) (nI m) tl ol ups los cts sets met pile tx oth W n (qI (l a && !qe (fun b => l b && qt_bef W b a) i)) (nI i) := by
  intro n
  induction n with
  | zero => intro i hi hn; omega
  | succ n ih =>
    intro i hi hn
    simp only [wY_firstFree_19]
    rcases Nat.lt_or_ge i m with hlt | hge
    · refine br_f (nI_ge hlt (by omega)) ?_
      have IH := ih (i + 1) (by omega) (by omega)
      simp only [qe] at IH
      have fi : vp_in (nI i) 60 = True := qn_in (by omega) (by omega)
      simp only [fi, nI_clamp (show i < 2 ^ 31 by omega), hl i hlt, qn_eq (show i < 2 ^ 31 by omega) (show a < 2 ^ 31 by omega), qy_bef (show i < 60 by omega) (show a < 60 by omega), true_and, nI_1, forall_eq, qI_0]
      cases h0 : l a && !qe (fun b => l b && qt_bef W b a) i
      · refine ⟨fun _ => ?_, fun z => absurd rfl z⟩
        have e : (l a && !(qe (fun b => l b && qt_bef W b a) i || l i && qt_bef W i a)) = false := by
          revert h0
          cases l a <;> cases qe (fun b => l b && qt_bef W b a) i <;> simp
        rw [e] at IH; exact IH
      · have hh : l a = true ∧ qe (fun b => l b && qt_bef W b a) i = false := by
          revert h0
          cases l a <;> cases qe (fun b => l b && qt_bef W b a) i <;> simp
        rw [hh.1, hh.2, Bool.true_and, Bool.false_or] at IH
        refine ⟨(fun z => nomatch z), fun _ => ?_⟩
        cases h1 : l i
        · rw [h1] at IH
          exact ⟨fun _ => IH, fun z => absurd rfl z⟩
        · rw [h1, Bool.true_and] at IH
          refine ⟨(fun z => nomatch z), fun _ => br_c (fun z => ?_) (fun z => ?_)⟩
          · rw [z, qt_self] at IH
            rw [z]; exact IH
          · cases h2 : qt_bef W i a
            · rw [h2] at IH
              exact ⟨fun _ => IH, fun z => absurd rfl z⟩
            · rw [h2] at IH
              exact ⟨(fun z => nomatch z), fun _ => IH⟩
    · have e : i = m := by omega
      subst e
      refine br_t (nI_le (Nat.le_refl _) (by omega)) ?_
      simp only [qI_0, nI_1, forall_eq]
      have e : (l a && !qe (fun b => l b && qt_bef W b a) i) = qt_fr i W l a := rfl
      rw [e]
      exact br_c K0 (fun z => K1 (by cases h : qt_fr i W l a; exact absurd h z; rfl))
theorem qy_ff2 {post : Int32 → Prop} {l : Nat → Bool} (hm : m ≤ 60) (hl : ∀ j, j < m → met j = qI (l j)) :
    ∀ n i, i ≤ m → m - i < n → post (nI (qf (qt_fr m W l) (m - i) i)) → wY_firstFree_2 post (nI m) tl ol ups los cts sets met pile tx oth W n (nI i) := by
  intro n
  induction n with
  | zero => intro i hi hn; omega
  | succ n ih =>
    intro i hi hn K
    simp only [wY_firstFree_2]
    rcases Nat.lt_or_ge i m with hlt | hge
    · refine br_f (nI_ge hlt (by omega)) ⟨vp_in_nI (by omega) (by omega), ?_⟩
      rw [show m - i = (m - (i + 1)) + 1 by omega] at K
      simp only [qf] at K
      simp only [nI_clamp (show i < 2 ^ 31 by omega), hl i hlt, forall_eq]
      have T := qy_ff19 (post := post) (J := wY_firstFree_2 post (nI m) tl ol ups los cts sets met pile tx oth W n) (tl := tl) (ol := ol) (ups := ups) (los := los) (cts := cts) (sets := sets) (pile := pile) (tx := tx) (oth := oth) (W := W) hm hlt hl
        (fun h => by rw [h] at K; exact K) (fun h => by rw [h] at K; exact ih (i + 1) (by omega) (by omega) K) (m + 1) 0 (by omega) (by omega)
      simp only [qe, Bool.not_false, Bool.and_true] at T
      exact ⟨m + 1, T⟩
    · have e : i = m := by omega
      subst e
      rw [Nat.sub_self] at K
      exact br_t (nI_le (Nat.le_refl _) (by omega)) K
theorem qy_ff {post : Int32 → Prop} {l : Nat → Bool} (hm : m ≤ 60) (hl : ∀ j, j < m → met j = qI (l j)) (K : post (nI (qt_nx m W l))) : wpY_firstFree post (nI m, tl, ol, ups, los, cts, sets, met, pile, tx, oth, W) := by
  simp only [wpY_firstFree]
  exact ⟨m + 1, qy_ff2 hm hl (m + 1) 0 (by omega) (by omega) K⟩
theorem qy_ft57 {post : SY → Prop} {M : Nat → Int64} {l : Nat → Bool} (hm : m ≤ 60) (hW : qq m W M)
    (K : ∀ met tx, (∀ i, i < qt_n m l → tx i = nI (qt_T m M l i)) → post (nI m, nI (qt_n m l), ol, ups, los, cts, sets, met, pile, tx, oth, W)) :
    ∀ n k met tx, k ≤ qt_n m l → qt_n m l - k < n → (∀ j, j < m → met j = qI (qt_lf m M l k j)) → (∀ i, i < k → tx i = nI (qt_T m M l i)) → wY_findText_57 post (nI (qt_n m l)) (nI m) ol n (nI k) ups los cts sets met pile tx oth W := by
  have hc := qt_nl m l
  intro n
  induction n with
  | zero => intro k met tx hk hn; omega
  | succ n ih =>
    intro k met tx hk hn hl ht
    simp only [wY_findText_57]
    rcases Nat.lt_or_ge k (qt_n m l) with hlt | hge
    · refine br_f (nI_ge hlt (by omega)) (qy_ff hm hl ?_)
      have e : qt_nx m W (qt_lf m M l k) = qt_T m M l k := qt_nxc hW (fun j _ => rfl)
      have hT := qt_Tm (W := M) hlt
      simp only [e]
      refine ⟨vp_in_nI (by omega) (by omega), ?_⟩
      simp only [nI_clamp (show qt_T m M l k < 2 ^ 31 by omega), nI_clamp (show k < 2 ^ 31 by omega), qI_nar0, forall_eq, nI_1]
      refine ⟨vp_in_nI (by omega) (by omega), ih (k + 1) _ _ (by omega) (by omega) (fun j hj => ?_) (fun i hi => ?_)⟩
      · by_cases z : j = qt_T m M l k
        · rw [z, qu_s]
          show 0 = qI (qt_lf m M l k (qt_T m M l k) && !decide (qt_T m M l k = qt_nx m M (qt_lf m M l k)))
          rw [decide_eq_true (show qt_T m M l k = qt_nx m M (qt_lf m M l k) from rfl), Bool.not_true, Bool.and_false]; rfl
        · rw [qu_n z, hl j hj]
          show _ = qI (qt_lf m M l k j && !decide (j = qt_nx m M (qt_lf m M l k)))
          rw [decide_eq_false (show ¬ j = qt_nx m M (qt_lf m M l k) from z), Bool.not_false, Bool.and_true]
      · by_cases z : i = k
        · rw [z, qu_s]
        · rw [qu_n z]; exact ht i (by omega)
    · have e : k = qt_n m l := by omega
      subst e
      exact br_t (nI_le (Nat.le_refl _) (by omega)) (K _ _ ht)
theorem qy_ft9 {post : SY → Prop} (hm : m ≤ 60) (hs : s < 3) (hups : ∀ p, p < m → ups p = qo_Y (U p)) (hlos : ∀ p, p < m → los p = (bif pl p then qo_Y (D p) else -2)) (hU : ∀ p, p < m → ∀ a, U p = some a → a < p) (hD : ∀ p, p < m → ∀ a, D p = some a → a < p) (hS : ∀ p, p < m → sets (60 * s + p) = qI (Sg p)) (hW : qq m W (qw_W m U D pl Sg))
    (K : ∀ met tx, (∀ i, i < qd_n m U pl Sg → tx i = nI (qd_T m U D pl Sg i)) → post (nI m, nI (qd_n m U pl Sg), ol, ups, los, cts, sets, met, pile, tx, oth, W)) :
    ∀ n p met, p ≤ m → m - p < n → (∀ j, j < p → met j = qI (qt_op m U pl Sg j)) → wY_findText_9 post (nI s) (nI m) tl ol n (nI (qs (fun i => (qt_op m U pl Sg i).toNat) p)) (nI p) ups los cts sets met pile tx oth W := by
  intro n
  induction n with
  | zero => intro p met hp hn; omega
  | succ n ih =>
    intro p met hp hn hl
    simp only [wY_findText_9]
    rcases Nat.lt_or_ge p m with hlt | hge
    · refine br_f (nI_ge hlt (by omega)) (qy_open hm hs hups hlos hU hD hS hlt ?_)
      have fi : vp_in (nI p) 60 = True := qn_in (by omega) (by omega)
      have IH := ih (p + 1) (upd met p (qI (qt_op m U pl Sg p))) (by omega) (by omega) (fun j hj => by
        by_cases z : j = p
        · rw [z, qu_s]
        · rw [qu_n z]; exact hl j (by omega))
      simp only [qs] at IH
      simp only [fi, nI_clamp (show p < 2 ^ 31 by omega), qI_nar, true_and, forall_eq, nI_1, qu_s, qI_0]
      cases h : qt_op m U pl Sg p
      · rw [h] at IH
        exact ⟨fun _ => IH, fun z => absurd rfl z⟩
      · rw [h] at IH
        exact ⟨(fun z => nomatch z), fun _ => IH⟩
    · have e : p = m := by omega
      subst e
      exact br_t (nI_le (Nat.le_refl _) (by omega)) ⟨p + 1, qy_ft57 hm hW K (p + 1) 0 met tx (by omega) (by have := qt_nl p (qt_op p U pl Sg); omega) hl (fun i hi => by omega)⟩
theorem qy_text {post : SY → Prop} (hm : m ≤ 60) (hs : s < 3) (hups : ∀ p, p < m → ups p = qo_Y (U p)) (hlos : ∀ p, p < m → los p = (bif pl p then qo_Y (D p) else -2)) (hU : ∀ p, p < m → ∀ a, U p = some a → a < p) (hD : ∀ p, p < m → ∀ a, D p = some a → a < p) (hS : ∀ p, p < m → sets (60 * s + p) = qI (Sg p))
    (K : ∀ met tx W, qq m W (qw_W m U D pl Sg) → (∀ i, i < qd_n m U pl Sg → tx i = nI (qd_T m U D pl Sg i)) → post (nI m, nI (qd_n m U pl Sg), ol, ups, los, cts, sets, met, pile, tx, oth, W)) :
    wpY_findText post (nI m, tl, ol, ups, los, cts, sets, met, pile, tx, oth, W) (nI s) := by
  simp only [wpY_findText]
  refine qy_findWays hm hs hups hlos hU hD hS (fun W hW => ?_)
  exact ⟨m + 1, qy_ft9 hm hs hups hlos hU hD hS hW (fun met tx ht => K met tx W hW ht) (m + 1) 0 met (by omega) (by omega) (fun j hj => by omega)⟩
end
end
section
/-! what a patch needs: N p is the mask of the patches that p needs -/
def qn_th (N : Nat → Int64) (o : Option Nat) (j : Nat) : Bool := match o with | none => false | some a => qb_t (N a) j || decide (j = a)
def qR (m : Nat) (U D : Nat → Option Nat) (pl : Nat → Bool) (S : Nat → Nat → Bool) (N : Nat → Int64) : Prop :=
  m ≤ 60 ∧ (∀ p, p < m → ∀ a, U p = some a → a < p) ∧ (∀ p, p < m → ∀ a, D p = some a → a < p) ∧ (∀ p, p < m → pl p = false → ∃ a, U p = some a) ∧ (∀ p, p < m → pl p = false → D p = none) ∧ (∀ p, p < m → ∀ j, qb_t (N p) j = (qn_th N (U p) j || qn_th N (D p) j)) ∧ (∀ s, s < 3 → ∀ q, q < m → S s q = true → ∀ j, qb_t (N q) j = true → j = 0 ∨ S s j = true)
def qX (m : Nat) (U D : Nat → Option Nat) (pl : Nat → Bool) (C : Nat → Int32) (S : Nat → Nat → Bool) (P : Nat → Int64) (pu up lo ct : Nat → Int32) : Prop :=
  (∀ p, p < m → pu p = qI (pl p)) ∧ (∀ p, p < m → up p = qo_X (U p)) ∧ (∀ p, p < m → lo p = qo_X (D p)) ∧ (∀ p, p < m → ct p = C p) ∧ (∀ s, s < 3 → ∀ j, qb_t (P s) j = (decide (j < m) && S s j))
def qY (m : Nat) (U D : Nat → Option Nat) (pl : Nat → Bool) (C : Nat → Int32) (S : Nat → Nat → Bool) (ups los cts sets : Nat → Int32) : Prop :=
  (∀ p, p < m → ups p = qo_Y (U p)) ∧ (∀ p, p < m → los p = (bif pl p then qo_Y (D p) else -2)) ∧ (∀ p, p < m → cts p = C p) ∧ (∀ s, s < 3 → ∀ p, p < m → sets (60 * s + p) = qI (S s p))
theorem qN_d {m : Nat} {U D : Nat → Option Nat} {N : Nat → Int64} (hN : ∀ p, p < m → ∀ j, qb_t (N p) j = (qn_th N (U p) j || qn_th N (D p) j)) {p a : Nat} (hp : p < m) (h : U p = some a ∨ D p = some a) : ∀ j, (j = a ∨ qb_t (N a) j = true) → qb_t (N p) j = true := by
  intro j hj
  have e : qn_th N (some a) j = true := by
    show (qb_t (N a) j || decide (j = a)) = true
    rcases hj with z | z
    · rw [decide_eq_true z, Bool.or_true]
    · rw [z, Bool.true_or]
  rw [hN p hp j]
  rcases h with h | h
  · rw [h, e, Bool.true_or]
  · rw [h, e, Bool.or_true]
theorem qN_c {m : Nat} {U D : Nat → Option Nat} {N : Nat → Int64} (hN : ∀ p, p < m → ∀ j, qb_t (N p) j = (qn_th N (U p) j || qn_th N (D p) j)) {p j : Nat} (hp : p < m) (h : qb_t (N p) j = true) : ∃ a, (U p = some a ∨ D p = some a) ∧ (j = a ∨ qb_t (N a) j = true) := by
  rw [hN p hp j, Bool.or_eq_true] at h
  have e : ∀ o, qn_th N o j = true → ∃ a, o = some a ∧ (j = a ∨ qb_t (N a) j = true) := by
    intro o ho
    cases o with
    | none => cases ho
    | some a =>
      have ho : (qb_t (N a) j || decide (j = a)) = true := ho
      rw [Bool.or_eq_true] at ho
      rcases ho with z | z
      · exact ⟨a, rfl, Or.inr z⟩
      · exact ⟨a, rfl, Or.inl (of_decide_eq_true z)⟩
  rcases h with h | h
  · obtain ⟨a, e1, e2⟩ := e _ h
    exact ⟨a, Or.inl e1, e2⟩
  · obtain ⟨a, e1, e2⟩ := e _ h
    exact ⟨a, Or.inr e1, e2⟩
section
variable {m : Nat} {U D : Nat → Option Nat} {pl : Nat → Bool} {S : Nat → Nat → Bool} {N : Nat → Int64}
theorem qN_lt' {p a : Nat} (R : qR m U D pl S N) (hp : p < m) (h : U p = some a ∨ D p = some a) : a < p := by
  obtain ⟨hm, hU, hD, hst, hsd, hN, hC⟩ := R
  rcases h with h | h
  · exact hU p hp a h
  · exact hD p hp a h
theorem qN_lt (R : qR m U D pl S N) : ∀ p, p < m → ∀ j, qb_t (N p) j = true → j < p := by
  intro p
  induction p using Nat.strongRecOn with
  | ind p ih =>
    intro hp j hj
    obtain ⟨a, ha, e⟩ := qN_c R.2.2.2.2.2.1 hp hj
    have l := qN_lt' R hp ha
    rcases e with e | e
    · omega
    · have := ih a l (by omega) j e
      omega
theorem qN_tr (R : qR m U D pl S N) : ∀ p, p < m → ∀ a b, qb_t (N p) a = true → qb_t (N a) b = true → qb_t (N p) b = true := by
  intro p
  induction p using Nat.strongRecOn with
  | ind p ih =>
    intro hp a b ha hb
    obtain ⟨c, hc, e⟩ := qN_c R.2.2.2.2.2.1 hp ha
    have l := qN_lt' R hp hc
    refine qN_d R.2.2.2.2.2.1 hp hc b (Or.inr ?_)
    rcases e with e | e
    · rw [← e]; exact hb
    · exact ih c l (by omega) a b e hb
theorem qN_nd (R : qR m U D pl S N) {s : Nat} (hs : s < 3) (p : Nat) : qe (fun q => S s q && qb_t (N q) p) m = qe (fun q => S s q && (decide (U q = some p) || decide (D q = some p))) m := by
  have fw : ∀ q, q < m → S s q = true → qb_t (N q) p = true → ∃ q', q' < m ∧ (S s q' && (decide (U q' = some p) || decide (D q' = some p))) = true := by
    intro q
    induction q using Nat.strongRecOn with
    | ind q ih =>
      intro hq hSq hN
      obtain ⟨a, ha, e⟩ := qN_c R.2.2.2.2.2.1 hq hN
      have l := qN_lt' R hq ha
      rcases e with e | e
      · subst e
        refine ⟨q, hq, ?_⟩
        rw [hSq]
        rcases ha with ha | ha
        · rw [decide_eq_true ha]; rfl
        · rw [decide_eq_true ha, Bool.or_true]; rfl
      · have t : qb_t (N q) a = true := qN_d R.2.2.2.2.2.1 hq ha a (Or.inl rfl)
        rcases R.2.2.2.2.2.2 s hs q hq hSq a t with z | z
        · subst z
          have := qN_lt R 0 (by omega) p e
          omega
        · exact ih a l (by omega) z e
  cases h : qe (fun q => S s q && (decide (U q = some p) || decide (D q = some p))) m
  · refine qe_f.mpr (fun q hq => ?_)
    cases z : S s q && qb_t (N q) p
    · rfl
    · rw [Bool.and_eq_true] at z
      obtain ⟨q', h1, h2⟩ := fw q hq z.1 z.2
      rw [qe_f.mp h q' h1] at h2
      cases h2
  · obtain ⟨q, hq, e⟩ := qe_t.mp h
    rw [Bool.and_eq_true, Bool.or_eq_true] at e
    refine qe_t.mpr ⟨q, hq, ?_⟩
    rw [e.1, qN_d R.2.2.2.2.2.1 hq (a := p) (e.2.imp of_decide_eq_true of_decide_eq_true) p (Or.inl rfl)]
    rfl
end
theorem qs_put {Z : Nat → Bool} {q : Nat} (hz : Z q = false) : ∀ m, q < m → qs (fun j => (Z j || decide (j = q)).toNat) m = qs (fun j => (Z j).toNat) m + 1 := by
  intro m
  induction m with
  | zero => intro h; omega
  | succ m ih =>
    intro h
    show qs (fun j => (Z j || decide (j = q)).toNat) m + (Z m || decide (m = q)).toNat = qs (fun j => (Z j).toNat) m + (Z m).toNat + 1
    by_cases e : m = q
    · rw [decide_eq_true e, e, hz, qs_congr (g := fun j => (Z j).toNat) q (fun i hi => by rw [decide_eq_false (by omega), Bool.or_false])]
      rfl
    · rw [decide_eq_false e, Bool.or_false, ih (by omega)]
      omega
/-! X: neededIn; Y: count, isNeeded -/
section
variable {m s : Nat} {U D : Nat → Option Nat} {pl Sg : Nat → Bool} {P N L : Nat → Int64} {pu up lo ct tx ot : Nat → Int32}
theorem qx_need5 {post : Int64 → Prop} (hm : m ≤ 60) (hs : s < 3) (hP : ∀ j, j < m → qb_t (P s) j = Sg j)
    (K : ∀ w, (∀ j, qb_t w j = qe (fun q => Sg q && qb_t (N q) j) m) → post w) :
    ∀ n p y, p ≤ m → m - p < n → (∀ j, qb_t y j = qe (fun q => Sg q && qb_t (N q) j) p) → wX_neededIn_5 post (nI s) (nI m) P N pu up lo ct L tx ot n y (nI p) := by
  intro n
  induction n with
  | zero => intro p y hp hn; omega
  | succ n ih =>
    intro p y hp hn hy
    simp only [wX_neededIn_5]
    rcases Nat.lt_or_ge p m with hlt | hge
    · refine br_f (nI_ge hlt (by omega)) ?_
      have fi : vp_in (nI p) 60 = True := qn_in (by omega) (by omega)
      have fs : vp_in (nI s) 3 = True := qn_in (by omega) (by omega)
      simp only [fi, fs, nI_clamp (show p < 2 ^ 31 by omega), nI_clamp (show s < 2 ^ 31 by omega), hP p hlt, qx_isIn (show p < 64 by omega), qI_0, nI_1, forall_eq, true_and]
      cases h2 : Sg p
      · refine ⟨fun _ => ih (p + 1) y (by omega) (by omega) (fun j => ?_), fun z => absurd rfl z⟩
        rw [hy j]; simp [qe, h2]
      · refine ⟨(fun z => nomatch z), fun _ => ih (p + 1) _ (by omega) (by omega) (fun j => ?_)⟩
        rw [qb_or, hy j]; simp [qe, h2]
    · have e : p = m := by omega
      subst e
      exact br_t (nI_le (Nat.le_refl _) (by omega)) (K _ hy)
theorem qx_need {post : Int64 → Prop} (hm : m ≤ 60) (hs : s < 3) (hP : ∀ j, j < m → qb_t (P s) j = Sg j)
    (K : ∀ w, (∀ j, qb_t w j = qe (fun q => Sg q && qb_t (N q) j) m) → post w) : wpX_neededIn post (nI m, P, N, pu, up, lo, ct, L, tx, ot) (nI s) := by
  simp only [wpX_neededIn]
  exact ⟨m + 1, qx_need5 hm hs hP K (m + 1) 0 0 (by omega) (by omega) (fun j => by rw [qb_0]; rfl)⟩
end
section
variable {m s : Nat} {U D : Nat → Option Nat} {pl Sg : Nat → Bool} {ups los cts sets met pile tx oth : Nat → Int32} {W : Nat → Int64} {mc tl ol : Int32}
theorem qy_count4 {post : Int32 → Prop} (hm : m ≤ 60) (hs : s < 3) (hS : ∀ p, p < m → sets (60 * s + p) = qI (Sg p)) (K : post (nI (qs (fun i => (Sg i).toNat) m))) :
    ∀ n i, i ≤ m → m - i < n → wY_count_4 post (nI s) (nI m) tl ol ups los cts sets met pile tx oth W n (nI (qs (fun i => (Sg i).toNat) i)) (nI i) := by
  intro n
  induction n with
  | zero => intro i hi hn; omega
  | succ n ih =>
    intro i hi hn
    simp only [wY_count_4]
    rcases Nat.lt_or_ge i m with hlt | hge
    · refine br_f (nI_ge hlt (by omega)) ?_
      have IH := ih (i + 1) (by omega) (by omega)
      rw [qy_hasIt hs (by omega) (hS i hlt)]
      simp only [qI_0, nI_1, forall_eq]
      simp only [qs] at IH
      cases h : Sg i
      · rw [h] at IH; exact ⟨fun _ => IH, fun z => absurd rfl z⟩
      · rw [h] at IH; exact ⟨(fun z => nomatch z), fun _ => IH⟩
    · have e : i = m := by omega
      subst e
      exact br_t (nI_le (Nat.le_refl _) (by omega)) K
theorem qy_count {post : Int32 → Prop} (hm : m ≤ 60) (hs : s < 3) (hS : ∀ p, p < m → sets (60 * s + p) = qI (Sg p)) (K : post (nI (qs (fun i => (Sg i).toNat) m))) : wpY_count post (nI m, tl, ol, ups, los, cts, sets, met, pile, tx, oth, W) (nI s) := by
  simp only [wpY_count]
  exact ⟨m + 1, qy_count4 hm hs hS K (m + 1) 0 (by omega) (by omega)⟩
theorem qo_Leq {o : Option Nat} {b : Bool} {a : Nat} (ho : ∀ b, o = some b → b < 2 ^ 31) (hb : b = false → o = none) (ha : a < 2 ^ 31) : ((bif b then qo_Y o else -2) = nI a) = (o = some a) := by
  cases b
  · rw [hb rfl]
    refine propext ⟨fun e => ?_, fun e => nomatch e⟩
    exact (cast (qn_m2 ha) (Eq.symm e)).elim
  · exact qo_Yeq ho ha
theorem qy_needed2 {post : Int32 → Prop} {a : Nat} (hm : m ≤ 60) (hs : s < 3) (ha : a < m) (hups : ∀ p, p < m → ups p = qo_Y (U p)) (hlos : ∀ p, p < m → los p = (bif pl p then qo_Y (D p) else -2)) (hU : ∀ p, p < m → ∀ a, U p = some a → a < p) (hD : ∀ p, p < m → ∀ a, D p = some a → a < p) (hsd : ∀ p, p < m → pl p = false → D p = none) (hS : ∀ p, p < m → sets (60 * s + p) = qI (Sg p))
    (K : post (qI (qe (fun q => Sg q && (decide (U q = some a) || decide (D q = some a))) m))) :
    ∀ n i, i ≤ m → m - i < n → (∀ j, j < i → (Sg j && (decide (U j = some a) || decide (D j = some a))) = false) → wY_isNeeded_2 post (nI s) (nI a) (nI m) tl ol ups los cts sets met pile tx oth W n (nI i) := by
  intro n
  induction n with
  | zero => intro i hi hn; omega
  | succ n ih =>
    intro i hi hn hI
    simp only [wY_isNeeded_2]
    rcases Nat.lt_or_ge i m with hlt | hge
    · refine br_f (nI_ge hlt (by omega)) ?_
      have IH : (Sg i && (decide (U i = some a) || decide (D i = some a))) = false → wY_isNeeded_2 post (nI s) (nI a) (nI m) tl ol ups los cts sets met pile tx oth W n (nI (i + 1)) := fun h => ih (i + 1) (by omega) (by omega) (fun j hj => by
        rcases Nat.lt_or_ge j i with z | z
        · exact hI j z
        · rw [show j = i by omega]; exact h)
      have fi : vp_in (nI i) 60 = True := qn_in (by omega) (by omega)
      rw [qy_hasIt hs (by omega) (hS i hlt)]
      simp only [fi, nI_clamp (show i < 2 ^ 31 by omega), hups i hlt, hlos i hlt, qo_Yeq (fun b hb => Nat.lt_trans (hU i hlt b hb) (by omega)) (show a < 2 ^ 31 by omega), qo_Leq (fun b hb => Nat.lt_trans (hD i hlt b hb) (by omega)) (hsd i hlt) (show a < 2 ^ 31 by omega), true_and, nI_1, forall_eq, qI_0]
      have yes : (Sg i && (decide (U i = some a) || decide (D i = some a))) = true → post 1 := fun h => by
        have e : qe (fun q => Sg q && (decide (U q = some a) || decide (D q = some a))) m = true := qe_t.mpr ⟨i, hlt, h⟩
        rw [e] at K; exact K
      cases h2 : Sg i
      · exact ⟨fun _ => IH (by rw [h2, Bool.false_and]), fun z => absurd rfl z⟩
      · refine ⟨(fun z => nomatch z), fun _ => br_c (fun h3 => yes (by rw [h2, decide_eq_true h3]; rfl)) (fun h3 => br_c (fun h4 => yes (by rw [h2, decide_eq_true h4, Bool.or_true]; rfl)) (fun h4 => IH (by rw [decide_eq_false h3, decide_eq_false h4]; simp)))⟩
    · have e : i = m := by omega
      subst e
      have e : qe (fun q => Sg q && (decide (U q = some a) || decide (D q = some a))) i = false := qe_f.mpr hI
      rw [e] at K
      exact br_t (nI_le (Nat.le_refl _) (by omega)) K
theorem qy_needed {post : Int32 → Prop} {a : Nat} (hm : m ≤ 60) (hs : s < 3) (ha : a < m) (hups : ∀ p, p < m → ups p = qo_Y (U p)) (hlos : ∀ p, p < m → los p = (bif pl p then qo_Y (D p) else -2)) (hU : ∀ p, p < m → ∀ a, U p = some a → a < p) (hD : ∀ p, p < m → ∀ a, D p = some a → a < p) (hsd : ∀ p, p < m → pl p = false → D p = none) (hS : ∀ p, p < m → sets (60 * s + p) = qI (Sg p))
    (K : post (qI (qe (fun q => Sg q && (decide (U q = some a) || decide (D q = some a))) m))) : wpY_isNeeded post (nI m, tl, ol, ups, los, cts, sets, met, pile, tx, oth, W) (nI s) (nI a) := by
  simp only [wpY_isNeeded]
  exact ⟨m + 1, qy_needed2 hm hs ha hups hlos hU hD hsd hS K (m + 1) 0 (by omega) (by omega) (fun j hj => by omega)⟩
end
end
section
/-! Y: gather -/
theorem qm_1 (n : Nat) : nI (n + 1) + (-1) = nI n := by
  rw [← nI_1, Int32.add_assoc, show (1 : Int32) + (-1) = 0 from rfl, Int32.add_zero]
theorem qo_Yneg {o : Option Nat} (ho : ∀ b, o = some b → b < 2 ^ 31) : (qo_Y o < 0) = (o = none) := by
  cases o with
  | none => rw [qo_Yn, qz_n1]; simp
  | some b => rw [qo_Ys, qn_neg (ho b rfl)]; simp
theorem qo_Lneg {o : Option Nat} {b : Bool} (ho : ∀ b, o = some b → b < 2 ^ 31) (hb : b = false → o = none) : ((bif b then qo_Y o else -2) < 0) = (o = none) := by
  cases b
  · rw [hb rfl, cond_false, qz_n2]; simp
  · exact qo_Yneg ho
section
variable {m p : Nat} {U D : Nat → Option Nat} {pl : Nat → Bool} {S : Nat → Nat → Bool} {N : Nat → Int64} {ups los cts sets met pile tx oth : Nat → Int32} {W : Nat → Int64} {mc tl ol : Int32}
theorem qg_cl (R : qR m U D pl S N) {Z : Nat → Bool} (hc : ∀ j, j < m → Z j = true → ∀ a, (U j = some a ∨ D j = some a) → Z a = true) : ∀ q, q < m → Z q = true → ∀ j, qb_t (N q) j = true → Z j = true := by
  intro q
  induction q using Nat.strongRecOn with
  | ind q ih =>
    intro hq hz j hj
    obtain ⟨a, ha, e⟩ := qN_c R.2.2.2.2.2.1 hq hj
    have l := qN_lt' R hq ha
    have za := hc q hq hz a ha
    rcases e with e | e
    · rw [e]; exact za
    · exact ih a l (by omega) za j e
theorem qy_g32 {post : SY → Prop} (R : qR m U D pl S N) (hups : ∀ p, p < m → ups p = qo_Y (U p)) (hlos : ∀ p, p < m → los p = (bif pl p then qo_Y (D p) else -2)) (hp : p < m)
    (K : ∀ met pile, (∀ j, j < m → met j = qI (decide (j = p) || qb_t (N p) j)) → post (nI m, tl, ol, ups, los, cts, sets, met, pile, tx, oth, W)) :
    ∀ n c (Z : Nat → Bool) met pile, c ≤ 1 + qs (fun j => (Z j).toNat) m → c + 3 * (m - qs (fun j => (Z j).toNat) m) < n → (∀ j, j < m → met j = qI (Z j)) → (∀ i, i < c → ∃ a, a < m ∧ (a = p ∨ qb_t (N p) a = true) ∧ pile i = nI a) → (∀ j, j < m → Z j = true → (j = p ∨ qb_t (N p) j = true)) → (∀ j, j < m → Z j = true → ∀ a, (U j = some a ∨ D j = some a) → Z a = true ∨ ∃ i, i < c ∧ pile i = nI a) → (Z p = true ∨ ∃ i, i < c ∧ pile i = nI p) →
      wY_gather_32 post (nI m) tl ol n (nI c) ups los cts sets met pile tx oth W := by
  obtain ⟨hm, hU, hD, hst, hsd, hN, hC⟩ := id R
  intro n
  induction n with
  | zero => intro c Z met pile h1 h2; omega
  | succ n ih =>
    intro c Z met pile hc1 hc2 hmet hpile hZ hcl hzp
    have hcm := qs_le (f := Z) m
    simp only [wY_gather_32]
    cases c with
    | zero =>
      refine br_t (nI_le (b := 0) (Nat.le_refl _) (by decide)) (K _ _ (fun j hj => ?_))
      rw [hmet j hj]
      have hzp : Z p = true := by
        rcases hzp with z | ⟨i, hi, _⟩
        · exact z
        · omega
      have hcl : ∀ j, j < m → Z j = true → ∀ a, (U j = some a ∨ D j = some a) → Z a = true := by
        intro j hj hz a ha
        rcases hcl j hj hz a ha with z | ⟨i, hi, _⟩
        · exact z
        · omega
      congr 1
      cases h : Z j
      · cases h2 : decide (j = p) || qb_t (N p) j
        · rfl
        · rw [Bool.or_eq_true] at h2
          rcases h2 with z | z
          · rw [of_decide_eq_true z, hzp] at h; cases h
          · rw [qg_cl R hcl p hp hzp j z] at h; cases h
      · rcases hZ j hj h with z | z
        · rw [decide_eq_true z]; rfl
        · rw [z, Bool.or_true]
    | succ c =>
      obtain ⟨q, hq, hgq, eq⟩ := hpile c (by omega)
      have fi : vp_in (nI q) 60 = True := qn_in (by omega) (by omega)
      have fc : vp_in (nI c) 130 = True := qn_in (by omega) (by omega)
      have gc : (nI c).toNatClampNeg = c := nI_clamp (by omega)
      refine br_f (nI_nle (by omega) (by omega)) ?_
      simp only [qm_1, forall_eq, fc, gc, true_and, eq, fi, nI_clamp (show q < 2 ^ 31 by omega), hmet q hq, qI_0, qI_nar1]
      cases hz : Z q
      · refine ⟨fun _ => ?_, fun z => absurd rfl z⟩
        have hput := qs_put hz m hq
        have step : ∀ c2 (pile2 : Nat → Int32), c ≤ c2 → c2 ≤ c + 2 → (∀ i, i < c → pile2 i = pile i) → (∀ i, c ≤ i → i < c2 → ∃ a, (U q = some a ∨ D q = some a) ∧ pile2 i = nI a) → (∀ a, (U q = some a ∨ D q = some a) → ∃ i, i < c2 ∧ pile2 i = nI a) → wY_gather_32 post (nI m) tl ol n (nI c2) ups los cts sets (upd met q 1) pile2 tx oth W := by
          intro c2 pile2 a1 a2 a3 a4 a5
          have hcm2 := qs_le (f := fun j => Z j || decide (j = q)) m
          have gd : ∀ a, (U q = some a ∨ D q = some a) → a < m ∧ qb_t (N p) a = true := by
            intro a ha
            have l := qN_lt' R hq ha
            refine ⟨by omega, ?_⟩
            have t : qb_t (N q) a = true := qN_d hN hq ha a (Or.inl rfl)
            rcases hgq with z | z
            · rw [← z]; exact t
            · exact qN_tr R p hp q a z t
          refine ih c2 (fun j => Z j || decide (j = q)) _ pile2 (by omega) (by omega) (fun j hj => ?_) (fun i hi => ?_) (fun j hj h => ?_) (fun j hj h a ha => ?_) ?_
          · by_cases z : j = q
            · rw [z, qu_s, decide_eq_true rfl, Bool.or_true]; rfl
            · rw [qu_n z, hmet j hj, decide_eq_false z, Bool.or_false]
          · rcases Nat.lt_or_ge i c with z | z
            · obtain ⟨a, b1, b2, b3⟩ := hpile i (by omega)
              exact ⟨a, b1, b2, by rw [a3 i z]; exact b3⟩
            · obtain ⟨a, b1, b2⟩ := a4 i z hi
              exact ⟨a, (gd a b1).1, Or.inr (gd a b1).2, b2⟩
          · rw [Bool.or_eq_true] at h
            rcases h with z | z
            · exact hZ j hj z
            · rw [of_decide_eq_true z]; exact hgq
          · rw [Bool.or_eq_true] at h
            show (Z a || decide (a = q)) = true ∨ _
            rcases h with z | z
            · rcases hcl j hj z a ha with y | ⟨i, hi, y⟩
              · rw [y]; exact Or.inl rfl
              · rcases Nat.lt_or_ge i c with x | x
                · exact Or.inr ⟨i, by omega, by rw [a3 i x]; exact y⟩
                · have ei : i = c := by omega
                  rw [ei, eq] at y
                  have l := qN_lt' R hj ha
                  have e2 : q = a := (nI_eq (by omega) (by omega)).mp y
                  rw [decide_eq_true e2.symm, Bool.or_true]; exact Or.inl rfl
            · have e2 : j = q := of_decide_eq_true z
              rw [e2] at ha
              exact Or.inr (a5 a ha)
          · show (Z p || decide (p = q)) = true ∨ _
            rcases hzp with z | ⟨i, hi, y⟩
            · rw [z]; exact Or.inl rfl
            · rcases Nat.lt_or_ge i c with x | x
              · exact Or.inr ⟨i, by omega, by rw [a3 i x]; exact y⟩
              · have ei : i = c := by omega
                rw [ei, eq] at y
                have e2 : q = p := (nI_eq (by omega) (by omega)).mp y
                rw [decide_eq_true e2.symm, Bool.or_true]; exact Or.inl rfl
        have hq31 : ∀ b, (U q = some b ∨ D q = some b) → b < 2 ^ 31 := fun b hb => by have := qN_lt' R hq hb; omega
        simp only [wY_gather_86, fi, nI_clamp (show q < 2 ^ 31 by omega), hups q hq, hlos q hq, qo_Yneg (fun b hb => hq31 b (Or.inl hb)), qo_Lneg (fun b hb => hq31 b (Or.inr hb)) (hsd q hq), true_and, nI_1, forall_eq, fc, gc]
        have hv : ∀ a, D q = some a → (bif pl q then qo_Y (D q) else -2) = nI a := by
          intro a ha
          cases h : pl q
          · rw [hsd q hq h] at ha; cases ha
          · rw [ha]; rfl
        cases h3 : U q with
        | none =>
          refine ⟨fun _ => ?_, fun z => absurd rfl z⟩
          cases h4 : D q with
          | none =>
            refine ⟨fun _ => step c pile (by omega) (by omega) (fun _ _ => rfl) (fun i h1 h2 => by omega) (fun a ha => ?_), fun z => absurd rfl z⟩
            rw [h3, h4] at ha
            rcases ha with ha | ha <;> cases ha
          | some b =>
            refine ⟨(fun z => nomatch z), fun _ => ?_⟩
            have hvb := hv b h4
            rw [h4] at hvb
            rw [hvb]
            refine step (c + 1) _ (by omega) (by omega) (fun i hi => qu_n (by omega)) (fun i h1 h2 => ?_) (fun a ha => ?_)
            · exact ⟨b, Or.inr h4, by rw [show i = c by omega, qu_s]⟩
            · rw [h3, h4] at ha
              rcases ha with ha | ha
              · cases ha
              · cases ha
                exact ⟨c, by omega, qu_s⟩
        | some a =>
          refine ⟨(fun z => nomatch z), fun _ => ?_⟩
          have fc1 : vp_in (nI (c + 1)) 130 = True := qn_in (by omega) (by omega)
          simp only [fc1, nI_clamp (show c + 1 < 2 ^ 31 by omega), true_and, qo_Ys]
          cases h4 : D q with
          | none =>
            refine ⟨fun _ => step (c + 1) _ (by omega) (by omega) (fun i hi => qu_n (by omega)) (fun i h1 h2 => ?_) (fun a' ha => ?_), fun z => absurd rfl z⟩
            · exact ⟨a, Or.inl h3, by rw [show i = c by omega, qu_s]⟩
            · rw [h3, h4] at ha
              rcases ha with ha | ha
              · cases ha
                exact ⟨c, by omega, qu_s⟩
              · cases ha
          | some b =>
            refine ⟨(fun z => nomatch z), fun _ => ?_⟩
            have hvb := hv b h4
            rw [h4] at hvb
            rw [hvb]
            refine step (c + 1 + 1) _ (by omega) (by omega) (fun i hi => by rw [qu_n (by omega), qu_n (by omega)]) (fun i h1 h2 => ?_) (fun a' ha => ?_)
            · by_cases z : i = c
              · exact ⟨a, Or.inl h3, by rw [z, qu_n (by omega), qu_s]⟩
              · exact ⟨b, Or.inr h4, by rw [show i = c + 1 by omega, qu_s]⟩
            · rw [h3, h4] at ha
              rcases ha with ha | ha
              · cases ha
                exact ⟨c, by omega, by rw [qu_n (by omega), qu_s]⟩
              · cases ha
                exact ⟨c + 1, by omega, qu_s⟩
      · refine ⟨(fun z => nomatch z), fun _ => ?_⟩
        refine ih c Z met pile (by omega) (by omega) hmet (fun i hi => hpile i (by omega)) hZ (fun j hj h a ha => ?_) ?_
        · rcases hcl j hj h a ha with y | ⟨i, hi, y⟩
          · exact Or.inl y
          · rcases Nat.lt_or_ge i c with x | x
            · exact Or.inr ⟨i, x, y⟩
            · have ei : i = c := by omega
              rw [ei, eq] at y
              have l := qN_lt' R hj ha
              have e2 : q = a := (nI_eq (by omega) (by omega)).mp y
              rw [← e2]; exact Or.inl hz
        · rcases hzp with z | ⟨i, hi, y⟩
          · exact Or.inl z
          · rcases Nat.lt_or_ge i c with x | x
            · exact Or.inr ⟨i, x, y⟩
            · have ei : i = c := by omega
              rw [ei, eq] at y
              have e2 : q = p := (nI_eq (by omega) (by omega)).mp y
              rw [← e2]; exact Or.inl hz
theorem qy_g2 {post : SY → Prop} (R : qR m U D pl S N) (hups : ∀ p, p < m → ups p = qo_Y (U p)) (hlos : ∀ p, p < m → los p = (bif pl p then qo_Y (D p) else -2)) (hp : p < m)
    (K : ∀ met pile, (∀ j, j < m → met j = qI (decide (j = p) || qb_t (N p) j)) → post (nI m, tl, ol, ups, los, cts, sets, met, pile, tx, oth, W)) :
    ∀ n i met, i ≤ m → m - i < n → (∀ j, j < i → met j = 0) → wY_gather_2 post (nI p) (nI m) tl ol n (nI i) ups los cts sets met pile tx oth W := by
  have hm : m ≤ 60 := R.1
  intro n
  induction n with
  | zero => intro i met hi hn; omega
  | succ n ih =>
    intro i met hi hn h
    simp only [wY_gather_2]
    rcases Nat.lt_or_ge i m with hlt | hge
    · refine br_f (nI_ge hlt (by omega)) ⟨vp_in_nI (by omega) (by omega), ?_⟩
      simp only [nI_clamp (show i < 2 ^ 31 by omega), qI_nar0, nI_1, forall_eq]
      refine ih (i + 1) _ (by omega) (by omega) (fun j hj => ?_)
      by_cases z : j = i
      · rw [z, qu_s]
      · rw [qu_n z]; exact h j (by omega)
    · have e : i = m := by omega
      subst e
      refine br_t (nI_le (Nat.le_refl _) (by omega)) ?_
      simp only [forall_eq]
      have hz : qs (fun j => ((fun _ => false : Nat → Bool) j).toNat) i = 0 := qs_zero i (fun _ _ => rfl)
      refine ⟨3 * i + 2, qy_g32 R hups hlos hp K (3 * i + 2) 1 (fun _ => false) met _ (by omega) (by rw [hz]; omega) h (fun k hk => ?_) (fun j hj hh => nomatch hh) (fun j hj hh => nomatch hh) (Or.inr ⟨0, by omega, qu_s⟩)⟩
      exact ⟨p, hp, Or.inl rfl, by rw [show k = 0 by omega, qu_s]⟩
theorem qy_gather {post : SY → Prop} (R : qR m U D pl S N) (hups : ∀ p, p < m → ups p = qo_Y (U p)) (hlos : ∀ p, p < m → los p = (bif pl p then qo_Y (D p) else -2)) (hp : p < m)
    (K : ∀ met pile, (∀ j, j < m → met j = qI (decide (j = p) || qb_t (N p) j)) → post (nI m, tl, ol, ups, los, cts, sets, met, pile, tx, oth, W)) :
    wpY_gather post (nI m, tl, ol, ups, los, cts, sets, met, pile, tx, oth, W) (nI p) := by
  simp only [wpY_gather]
  exact ⟨m + 1, qy_g2 R hups hlos hp K (m + 1) 0 met (by omega) (by omega) (fun j hj => by omega)⟩
end
end
section
/-! the relation -/
def i_Rel (_ : Nat) (u : SX) (v : SY) : Prop :=
  ∃ (m : Nat) (U D : Nat → Option Nat) (pl : Nat → Bool) (C : Nat → Int32) (S : Nat → Nat → Bool) (P N : Nat → Int64) (pu up lo ct : Nat → Int32) (L : Nat → Int64) (tx ot : Nat → Int32) (tl ol : Int32) (ups los cts sets met pile ty oth : Nat → Int32) (W : Nat → Int64),
    u = (nI m, P, N, pu, up, lo, ct, L, tx, ot) ∧ v = (nI m, tl, ol, ups, los, cts, sets, met, pile, ty, oth, W) ∧ qR m U D pl S N ∧ qX m U D pl C S P pu up lo ct ∧ qY m U D pl C S ups los cts sets
theorem q_rel {k m : Nat} {U D : Nat → Option Nat} {pl : Nat → Bool} {C : Nat → Int32} {S : Nat → Nat → Bool} {P N : Nat → Int64} {pu up lo ct : Nat → Int32} {L : Nat → Int64} {tx ot : Nat → Int32} {tl ol : Int32} {ups los cts sets met pile ty oth : Nat → Int32} {W : Nat → Int64}
    (R : qR m U D pl S N) (X : qX m U D pl C S P pu up lo ct) (Y : qY m U D pl C S ups los cts sets) : i_Rel k (nI m, P, N, pu, up, lo, ct, L, tx, ot) (nI m, tl, ol, ups, los, cts, sets, met, pile, ty, oth, W) :=
  ⟨m, U, D, pl, C, S, P, N, pu, up, lo, ct, L, tx, ot, tl, ol, ups, los, cts, sets, met, pile, ty, oth, W, rfl, rfl, R, X, Y⟩
theorem i_up {k : Nat} {u : SX} {v : SY} (h : i_Rel k u v) : i_Rel (k + 4) u v := h
theorem i_vc0 : wpX_init (fun u => wpY_init (fun v => i_Rel 0 u v)) := by
  refine q_rel (k := 0) (m := 0) (U := fun _ => none) (D := fun _ => none) (pl := fun _ => true) (C := fun _ => 0) (S := fun _ _ => false) ?_ ?_ ?_
  · exact ⟨by decide, fun p hp => by omega, fun p hp => by omega, fun p hp => by omega, fun p hp => by omega, fun p hp => by omega, fun s hs q hq => by omega⟩
  · refine ⟨fun p hp => by omega, fun p hp => by omega, fun p hp => by omega, fun p hp => by omega, fun s hs j => ?_⟩
    show qb_t 0 j = _
    rw [qb_0]; simp
  · exact ⟨fun p hp => by omega, fun p hp => by omega, fun p hp => by omega, fun s hs p hp => by omega⟩
/-! is it a store, is it a patch -/
def q_bad (n : Nat) (x : Int32) : Prop := x < 0 ∨ nI n ≤ x
theorem q_ix (x : Int32) {n : Nat} (hn : n < 2 ^ 31) : q_bad n x ∨ ∃ j : Nat, j < n ∧ x = nI j := by
  by_cases h : x < 0
  · exact Or.inl (Or.inl h)
  · obtain ⟨j, hj, rfl⟩ := nI_of h
    by_cases h2 : j < n
    · exact Or.inr ⟨j, h2, rfl⟩
    · exact Or.inl (Or.inr (nI_le (by omega) hj))
theorem qx_sg {post : Int32 → Prop} {s : Nat} (hs : s < 3) : wpX_isStore post (nI s) = post 1 := by
  have a : (nI s < 0) = False := qn_neg (by omega)
  have b : ((3 : Int32) ≤ nI s) = False := by rw [qn_3, qn_le (by omega) (by omega)]; exact eq_false (by omega)
  simp only [wpX_isStore, a, b, false_implies, not_false_iff, true_implies, true_and]
theorem qx_sb {post : Int32 → Prop} {x : Int32} (h : q_bad 3 x) : wpX_isStore post x = post 0 := by
  by_cases h0 : x < 0
  · simp only [wpX_isStore, h0, true_implies, not_true, false_implies, and_true]
  · obtain ⟨j, hj, rfl⟩ := nI_of h0
    have h3 : nI 3 ≤ nI j := h.resolve_left h0
    have b : ((3 : Int32) ≤ nI j) = True := eq_true h3
    simp only [wpX_isStore, qn_neg hj, b, true_implies, not_true, not_false_iff, false_implies, and_true, true_and]
section
variable {m : Nat} {P N L : Nat → Int64} {pu up lo ct tx ot : Nat → Int32} {ups los cts sets met pile ty oth : Nat → Int32} {W : Nat → Int64} {mc tl ol : Int32}
theorem qy_sg {post : Int32 → Prop} {s : Nat} (hs : s < 3) : wpY_isStore post (mc, tl, ol, ups, los, cts, sets, met, pile, ty, oth, W) (nI s) = post 1 := by
  have a : (nI s < 0) = False := qn_neg (by omega)
  have b : ((2 : Int32) < nI s) = False := by rw [qn_2, qn_lt (by omega) (by omega)]; exact eq_false (by omega)
  simp only [wpY_isStore, a, b, false_implies, not_false_iff, true_implies, true_and]
theorem qy_sb {post : Int32 → Prop} {x : Int32} (h : q_bad 3 x) : wpY_isStore post (mc, tl, ol, ups, los, cts, sets, met, pile, ty, oth, W) x = post 0 := by
  by_cases h0 : x < 0
  · simp only [wpY_isStore, h0, true_implies, not_true, false_implies, and_true]
  · obtain ⟨j, hj, rfl⟩ := nI_of h0
    have h3 : nI 3 ≤ nI j := h.resolve_left h0
    rw [qn_le (by omega) hj] at h3
    have b : ((2 : Int32) < nI j) = True := by rw [qn_2, qn_lt (by omega) hj]; exact eq_true (by omega)
    simp only [wpY_isStore, qn_neg hj, b, true_implies, not_true, not_false_iff, false_implies, and_true, true_and]
theorem qx_pg {post : Int32 → Prop} {p : Nat} (hm : m ≤ 60) (hp : p < m) : wpX_isPatch post (nI m, P, N, pu, up, lo, ct, L, tx, ot) (nI p) = post 1 := by
  have a : (nI p < 0) = False := qn_neg (by omega)
  have b : (nI m ≤ nI p) = False := by rw [qn_le (by omega) (by omega)]; exact eq_false (by omega)
  simp only [wpX_isPatch, a, b, false_implies, not_false_iff, true_implies, true_and]
theorem qx_pb {post : Int32 → Prop} {x : Int32} (h : q_bad m x) : wpX_isPatch post (nI m, P, N, pu, up, lo, ct, L, tx, ot) x = post 0 := by
  by_cases h0 : x < 0
  · simp only [wpX_isPatch, h0, true_implies, not_true, false_implies, and_true]
  · have b : (nI m ≤ x) = True := eq_true (h.resolve_left h0)
    simp only [wpX_isPatch, h0, b, true_implies, not_true, not_false_iff, false_implies, and_true, true_and]
theorem qy_pg {post : Int32 → Prop} {p : Nat} (hm : m ≤ 60) (hp : p < m) : wpY_isPatch post (nI m, tl, ol, ups, los, cts, sets, met, pile, ty, oth, W) (nI p) = post 1 := by
  have a : (nI p < 0) = False := qn_neg (by omega)
  have b : (nI m ≤ nI p) = False := by rw [qn_le (by omega) (by omega)]; exact eq_false (by omega)
  simp only [wpY_isPatch, a, b, false_implies, not_false_iff, true_implies, true_and]
theorem qy_pb {post : Int32 → Prop} {x : Int32} (h : q_bad m x) : wpY_isPatch post (nI m, tl, ol, ups, los, cts, sets, met, pile, ty, oth, W) x = post 0 := by
  by_cases h0 : x < 0
  · simp only [wpY_isPatch, h0, true_implies, not_true, false_implies, and_true]
  · have b : (nI m ≤ x) = True := eq_true (h.resolve_left h0)
    simp only [wpY_isPatch, h0, b, true_implies, not_true, not_false_iff, false_implies, and_true, true_and]
end
theorem q_60 {m : Nat} {w : Int64} {F : Nat → Bool} (hm : m ≤ 60) (h : ∀ j, qb_t w j = (decide (j < m) && F j)) : qs (fun i => (qb_t w i).toNat) 60 = qs (fun i => (F i).toNat) m := by
  rw [show 60 = m + (60 - m) by omega, qs_ext (60 - m) (fun i hi => by rw [h i, decide_eq_false (by omega)]; rfl)]
  exact qs_congr m (fun i hi => by rw [h i, decide_eq_true hi, Bool.true_and])
theorem q_hP {m s : Nat} {S : Nat → Nat → Bool} {P : Nat → Int64} (hs : s < 3) (h : ∀ s, s < 3 → ∀ j, qb_t (P s) j = (decide (j < m) && S s j)) : ∀ j, j < m → qb_t (P s) j = S s j := by
  intro j hj
  rw [h s hs j, decide_eq_true hj, Bool.true_and]
theorem i_vc_made {k : Nat} {u : SX} {v : SY} (I : i_Rel k u v) (hk : k + 4 ≤ 2048) : wpX_made (fun r => wpY_made (fun r' => r' = r ∧ i_Rel (k + 4) u v) v) u := by
  obtain ⟨m, U, D, pl, C, S, P, N, pu, up, lo, ct, L, tx, ot, tl, ol, ups, los, cts, sets, met, pile, ty, oth, W, rfl, rfl, R, X, Y⟩ := I
  suffices H : ∀ Q : Int32 → Int32 → Prop, (∀ r, Q r r) → wpX_made (fun r => wpY_made (fun r' => Q r r') (nI m, tl, ol, ups, los, cts, sets, met, pile, ty, oth, W)) (nI m, P, N, pu, up, lo, ct, L, tx, ot) from H (fun r r' => r' = r ∧ i_Rel (k + 4) (nI m, P, N, pu, up, lo, ct, L, tx, ot) (nI m, tl, ol, ups, los, cts, sets, met, pile, ty, oth, W)) (fun r => ⟨rfl, q_rel R X Y⟩)
  intro Q HQ
  obtain ⟨hm, hU, hD, hst, hsd, hN, hC⟩ := id R
  obtain ⟨hpu, hup, hlo, hct, hP⟩ := id X
  obtain ⟨hups, hlos, hcts, hS⟩ := id Y
  simp only [wpX_made, wpY_made]
  exact HQ _
theorem i_vc_patches {k : Nat} {u : SX} {v : SY} (I : i_Rel k u v) (hk : k + 4 ≤ 2048) (v1 : Int32) : wpX_patches (fun r => wpY_patches (fun r' => r' = r ∧ i_Rel (k + 4) u v) v v1) u v1 := by
  obtain ⟨m, U, D, pl, C, S, P, N, pu, up, lo, ct, L, tx, ot, tl, ol, ups, los, cts, sets, met, pile, ty, oth, W, rfl, rfl, R, X, Y⟩ := I
  suffices H : ∀ Q : Int32 → Int32 → Prop, (∀ r, Q r r) → wpX_patches (fun r => wpY_patches (fun r' => Q r r') (nI m, tl, ol, ups, los, cts, sets, met, pile, ty, oth, W) v1) (nI m, P, N, pu, up, lo, ct, L, tx, ot) v1 from H (fun r r' => r' = r ∧ i_Rel (k + 4) (nI m, P, N, pu, up, lo, ct, L, tx, ot) (nI m, tl, ol, ups, los, cts, sets, met, pile, ty, oth, W)) (fun r => ⟨rfl, q_rel R X Y⟩)
  intro Q HQ
  obtain ⟨hm, hU, hD, hst, hsd, hN, hC⟩ := id R
  obtain ⟨hpu, hup, hlo, hct, hP⟩ := id X
  obtain ⟨hups, hlos, hcts, hS⟩ := id Y
  rcases q_ix v1 (n := 3) (by omega) with b | ⟨s, hs, rfl⟩
  · simp only [wpX_patches, wpY_patches, qx_sb b, qy_sb b, qz_0, qz_1, true_implies, not_true, not_false_iff, false_implies, and_true, true_and]
    exact HQ _
  · simp only [wpX_patches, wpY_patches, qx_sg hs, qy_sg hs, qn_in hs (show 3 < 2 ^ 31 by omega), nI_clamp (show s < 2 ^ 31 by omega), qz_0, qz_1, true_implies, not_true, not_false_iff, false_implies, and_true, true_and]
    refine qx_size (qy_count hm hs (hS s hs) ?_)
    rw [q_60 hm (hP s hs)]
    exact HQ _
theorem i_vc_has {k : Nat} {u : SX} {v : SY} (I : i_Rel k u v) (hk : k + 4 ≤ 2048) (v1 : Int32) (v2 : Int32) : wpX_has (fun r => wpY_has (fun r' => r' = r ∧ i_Rel (k + 4) u v) v v1 v2) u v1 v2 := by
  obtain ⟨m, U, D, pl, C, S, P, N, pu, up, lo, ct, L, tx, ot, tl, ol, ups, los, cts, sets, met, pile, ty, oth, W, rfl, rfl, R, X, Y⟩ := I
  suffices H : ∀ Q : Int32 → Int32 → Prop, (∀ r, Q r r) → wpX_has (fun r => wpY_has (fun r' => Q r r') (nI m, tl, ol, ups, los, cts, sets, met, pile, ty, oth, W) v1 v2) (nI m, P, N, pu, up, lo, ct, L, tx, ot) v1 v2 from H (fun r r' => r' = r ∧ i_Rel (k + 4) (nI m, P, N, pu, up, lo, ct, L, tx, ot) (nI m, tl, ol, ups, los, cts, sets, met, pile, ty, oth, W)) (fun r => ⟨rfl, q_rel R X Y⟩)
  intro Q HQ
  obtain ⟨hm, hU, hD, hst, hsd, hN, hC⟩ := id R
  obtain ⟨hpu, hup, hlo, hct, hP⟩ := id X
  obtain ⟨hups, hlos, hcts, hS⟩ := id Y
  rcases q_ix v1 (n := 3) (by omega) with b | ⟨s, hs, rfl⟩
  · simp only [wpX_has, wpY_has, qx_sb b, qy_sb b, qz_0, qz_1, true_implies, not_true, not_false_iff, false_implies, and_true, true_and]
    exact HQ _
  · rcases q_ix v2 (n := m) (by omega) with b | ⟨p, hp, rfl⟩
    · simp only [wpX_has, wpY_has, qx_sg hs, qy_sg hs, qn_in hs (show 3 < 2 ^ 31 by omega), nI_clamp (show s < 2 ^ 31 by omega), qx_pb b, qy_pb b, qz_0, qz_1, true_implies, not_true, not_false_iff, false_implies, and_true, true_and]
      exact HQ _
    · simp only [wpX_has, wpY_has, qx_sg hs, qy_sg hs, qn_in hs (show 3 < 2 ^ 31 by omega), nI_clamp (show s < 2 ^ 31 by omega), qx_pg hm hp, qy_pg hm hp, qx_isIn (show p < 64 by omega), qy_hasIt hs (show p < 60 by omega) (hS s hs p hp), q_hP hs hP p hp, qI_0, qz_0, qz_1, true_implies, not_true, not_false_iff, false_implies, and_true, true_and]
      cases S s p
      · exact ⟨fun _ => ⟨fun _ => HQ _, fun z => absurd rfl z⟩, fun z => absurd rfl z⟩
      · exact ⟨(fun z => nomatch z), fun _ => ⟨(fun z => nomatch z), fun _ => HQ _⟩⟩
theorem i_vc_patch {k : Nat} {u : SX} {v : SY} (I : i_Rel k u v) (hk : k + 4 ≤ 2048) (v1 : Int32) (v2 : Int32) : wpX_patch (fun r => wpY_patch (fun r' => r' = r ∧ i_Rel (k + 4) u v) v v1 v2) u v1 v2 := by
  obtain ⟨m, U, D, pl, C, S, P, N, pu, up, lo, ct, L, tx, ot, tl, ol, ups, los, cts, sets, met, pile, ty, oth, W, rfl, rfl, R, X, Y⟩ := I
  suffices H : ∀ Q : Int32 → Int32 → Prop, (∀ r, Q r r) → wpX_patch (fun r => wpY_patch (fun r' => Q r r') (nI m, tl, ol, ups, los, cts, sets, met, pile, ty, oth, W) v1 v2) (nI m, P, N, pu, up, lo, ct, L, tx, ot) v1 v2 from H (fun r r' => r' = r ∧ i_Rel (k + 4) (nI m, P, N, pu, up, lo, ct, L, tx, ot) (nI m, tl, ol, ups, los, cts, sets, met, pile, ty, oth, W)) (fun r => ⟨rfl, q_rel R X Y⟩)
  intro Q HQ
  obtain ⟨hm, hU, hD, hst, hsd, hN, hC⟩ := id R
  obtain ⟨hpu, hup, hlo, hct, hP⟩ := id X
  obtain ⟨hups, hlos, hcts, hS⟩ := id Y
  simp only [wpX_patch, wpY_patch]
  by_cases h0 : v2 < 0
  · simp only [h0, qz_0, qz_1, true_implies, not_true, not_false_iff, false_implies, and_true, true_and]
    exact HQ _
  · by_cases h2 : v2 ≤ 2
    · simp only [h0, h2, qz_0, qz_1, true_implies, not_true, not_false_iff, false_implies, and_true, true_and]
      rcases q_ix v1 (n := m) (by omega) with b | ⟨p, hp, rfl⟩
      · simp only [qx_pb b, qy_pb b, qz_0, qz_1, true_implies, not_true, not_false_iff, false_implies, and_true, true_and]
        exact HQ _
      · simp only [qx_pg hm hp, qy_pg hm hp, qn_in (show p < 60 by omega) (show 60 < 2 ^ 31 by omega), nI_clamp (show p < 2 ^ 31 by omega), qy_isLine hm hp (hlos p hp) (hD p hp), hpu p hp, hup p hp, hlo p hp, hups p hp, hlos p hp, qI_0, wY_patch_61, qz_0, qz_1, true_implies, not_true, not_false_iff, false_implies, and_true, true_and]
        have key : ∀ (o : Option Nat) (y : Int32), (∀ b, o = some b → b < 2 ^ 31) → (y < 0) = (o = none) → (∀ b, o = some b → y = nI b) → ((0 ≤ y → Q (qo_X o) y) ∧ (¬ 0 ≤ y → Q (qo_X o) (-1000000003))) := by
          intro o y h1 h2 h3
          cases o with
          | none =>
            have hy : y < 0 := by rw [h2]
            exact ⟨fun z => absurd hy (Int32.not_lt.mpr z), fun _ => HQ _⟩
          | some b =>
            rw [h3 b rfl]
            exact ⟨fun _ => HQ _, fun z => absurd (nI_pos' (h1 b rfl)) z⟩
        refine br_c (fun h3 => ?_) (fun h3 => br_c (fun h4 => ?_) (fun h4 => ?_))
        · simp only [h3, qz_0, qz_1, true_implies, not_true, not_false_iff, false_implies, and_true, true_and]
          cases pl p
          · exact ⟨fun _ => ⟨fun _ => HQ _, fun z => absurd rfl z⟩, fun z => absurd rfl z⟩
          · exact ⟨(fun z => nomatch z), fun _ => ⟨(fun z => nomatch z), fun _ => HQ _⟩⟩
        · simp only [h4, qz_0, qz_1, true_implies, not_true, not_false_iff, false_implies, and_true, true_and]
          exact key (U p) _ (fun b hb => by have := hU p hp b hb; omega) (qo_Yneg (fun b hb => by have := hU p hp b hb; omega)) (fun b hb => by rw [hb]; rfl)
        · simp only [h3, h4, qz_0, qz_1, true_implies, not_true, not_false_iff, false_implies, and_true, true_and]
          exact key (D p) _ (fun b hb => by have := hD p hp b hb; omega) (qo_Lneg (fun b hb => by have := hD p hp b hb; omega) (hsd p hp)) (fun b hb => by
            cases h : pl p
            · rw [hsd p hp h] at hb; cases hb
            · rw [hb]; rfl)
    · simp only [h0, h2, qz_0, qz_1, true_implies, not_true, not_false_iff, false_implies, and_true, true_and]
      exact HQ _
end
section
/-! needs, needed, loose, agree, before -/
section
variable {m s t p : Nat} {U D : Nat → Option Nat} {pl Sg Tg : Nat → Bool} {S : Nat → Nat → Bool} {N : Nat → Int64} {ups los cts sets met pile ty oth : Nat → Int32} {W : Nat → Int64} {mc tl ol : Int32}
theorem qy_nd20 {post : Int32 → SY → Prop} {Z : Nat → Bool} (hm : m ≤ 60) (hz : ∀ j, j < m → met j = qI (Z j)) (K : post (nI (qs (fun i => (Z i).toNat) m) + (-1)) (nI m, tl, ol, ups, los, cts, sets, met, pile, ty, oth, W)) :
    ∀ n i, i ≤ m → m - i < n → wY_needed_20 post (nI m) tl ol ups los cts sets met pile ty oth W n (nI (qs (fun i => (Z i).toNat) i) + (-1)) (nI i) := by
  intro n
  induction n with
  | zero => intro i hi hn; omega
  | succ n ih =>
    intro i hi hn
    simp only [wY_needed_20]
    rcases Nat.lt_or_ge i m with hlt | hge
    · refine br_f (nI_ge hlt (by omega)) ?_
      have IH := ih (i + 1) (by omega) (by omega)
      have a1 : ∀ c : Nat, nI c + (-1) + 1 = nI (c + 1) + (-1) := fun c => by
        rw [Int32.add_assoc, Int32.add_comm (-1) 1, ← Int32.add_assoc, nI_1]
      simp only [qn_in (show i < 60 by omega) (show 60 < 2 ^ 31 by omega), nI_clamp (show i < 2 ^ 31 by omega), hz i hlt, qI_0, a1, nI_1, forall_eq, true_and]
      simp only [qs] at IH
      cases h : Z i
      · rw [h] at IH; exact ⟨fun _ => IH, fun z => absurd rfl z⟩
      · rw [h] at IH; exact ⟨(fun z => nomatch z), fun _ => IH⟩
    · have e : i = m := by omega
      subst e
      exact br_t (nI_le (Nat.le_refl _) (by omega)) K
theorem qy_ls15 {post : Int32 → Prop} (hm : m ≤ 60) (hs : s < 3) (hups : ∀ p, p < m → ups p = qo_Y (U p)) (hlos : ∀ p, p < m → los p = (bif pl p then qo_Y (D p) else -2)) (hU : ∀ p, p < m → ∀ a, U p = some a → a < p) (hD : ∀ p, p < m → ∀ a, D p = some a → a < p) (hsd : ∀ p, p < m → pl p = false → D p = none) (hS : ∀ p, p < m → sets (60 * s + p) = qI (Sg p))
    (K : post (nI (qs (fun i => (Sg i && !qe (fun q => Sg q && (decide (U q = some i) || decide (D q = some i))) m).toNat) m))) :
    ∀ n i, i ≤ m → m - i < n → wY_loose_15 post (nI s) (nI m) tl ol ups los cts sets met pile ty oth W n (nI (qs (fun i => (Sg i && !qe (fun q => Sg q && (decide (U q = some i) || decide (D q = some i))) m).toNat) i)) (nI i) := by
  intro n
  induction n with
  | zero => intro i hi hn; omega
  | succ n ih =>
    intro i hi hn
    simp only [wY_loose_15]
    rcases Nat.lt_or_ge i m with hlt | hge
    · refine br_f (nI_ge hlt (by omega)) ?_
      have IH := ih (i + 1) (by omega) (by omega)
      rw [qy_hasIt hs (by omega) (hS i hlt)]
      simp only [qI_0, nI_1, forall_eq]
      simp only [qs] at IH
      cases h : Sg i
      · rw [h] at IH; exact ⟨fun _ => IH, fun z => absurd rfl z⟩
      · refine ⟨(fun z => nomatch z), fun _ => qy_needed hm hs hlt hups hlos hU hD hsd hS ?_⟩
        rw [h, Bool.true_and] at IH
        simp only [qI_0]
        cases h2 : qe (fun q => Sg q && (decide (U q = some i) || decide (D q = some i))) m
        · rw [h2] at IH; exact ⟨fun _ => IH, fun z => absurd rfl z⟩
        · rw [h2] at IH; exact ⟨(fun z => nomatch z), fun _ => IH⟩
    · have e : i = m := by omega
      subst e
      exact br_t (nI_le (Nat.le_refl _) (by omega)) K
theorem qy_ag20 {post : Int32 → Prop} (hm : m ≤ 60) (hs : s < 3) (ht : t < 3) (hS : ∀ p, p < m → sets (60 * s + p) = qI (Sg p)) (hT : ∀ p, p < m → sets (60 * t + p) = qI (Tg p))
    (K : post (qI (!qe (fun j => !decide (Sg j = Tg j)) m))) :
    ∀ n i, i ≤ m → m - i < n → (∀ j, j < i → Sg j = Tg j) → wY_agree_20 post (nI s) (nI t) (nI m) tl ol ups los cts sets met pile ty oth W n (nI i) := by
  intro n
  induction n with
  | zero => intro i hi hn; omega
  | succ n ih =>
    intro i hi hn hI
    simp only [wY_agree_20]
    rcases Nat.lt_or_ge i m with hlt | hge
    · refine br_f (nI_ge hlt (by omega)) ?_
      rw [qy_hasIt hs (by omega) (hS i hlt), qy_hasIt ht (by omega) (hT i hlt)]
      simp only [qI_inj, nI_1, forall_eq]
      refine br_c (fun h => ih (i + 1) (by omega) (by omega) (fun j hj => ?_)) (fun h => ?_)
      · rcases Nat.lt_or_ge j i with z | z
        · exact hI j z
        · rw [show j = i by omega]; exact h
      · have e : qe (fun j => !decide (Sg j = Tg j)) m = true := qe_t.mpr ⟨i, hlt, by rw [decide_eq_false h]; rfl⟩
        rw [e] at K; exact K
    · have e : i = m := by omega
      subst e
      have e : qe (fun j => !decide (Sg j = Tg j)) i = false := qe_f.mpr (fun j hj => by rw [decide_eq_true (hI j hj)]; rfl)
      rw [e] at K
      exact br_t (nI_le (Nat.le_refl _) (by omega)) K
end
theorem i_vc_needs {k : Nat} {u : SX} {v : SY} (I : i_Rel k u v) (hk : k + 4 ≤ 2048) (v1 : Int32) (v2 : Int32) : wpX_needs (fun r => wpY_needs (fun r' v' => r' = r ∧ i_Rel (k + 4) u v') v v1 v2) u v1 v2 := by
  obtain ⟨m, U, D, pl, C, S, P, N, pu, up, lo, ct, L, tx, ot, tl, ol, ups, los, cts, sets, met, pile, ty, oth, W, rfl, rfl, R, X, Y⟩ := I
  suffices H : ∀ Q : Int32 → Int32 → SY → Prop, (∀ r v', i_Rel (k + 4) (nI m, P, N, pu, up, lo, ct, L, tx, ot) v' → Q r r v') → wpX_needs (fun r => wpY_needs (fun r' v' => Q r r' v') (nI m, tl, ol, ups, los, cts, sets, met, pile, ty, oth, W) v1 v2) (nI m, P, N, pu, up, lo, ct, L, tx, ot) v1 v2 from H (fun r r' v' => r' = r ∧ i_Rel (k + 4) (nI m, P, N, pu, up, lo, ct, L, tx, ot) v') (fun r v' h => ⟨rfl, h⟩)
  intro Q HQ
  obtain ⟨hm, hU, hD, hst, hsd, hN, hC⟩ := id R
  obtain ⟨hpu, hup, hlo, hct, hP⟩ := id X
  obtain ⟨hups, hlos, hcts, hS⟩ := id Y
  have J := q_rel (k := k + 4) (L := L) (tx := tx) (ot := ot) (tl := tl) (ol := ol) (met := met) (pile := pile) (ty := ty) (oth := oth) (W := W) R X Y
  rcases q_ix v1 (n := m) (by omega) with b | ⟨p, hp, rfl⟩
  · simp only [wpX_needs, wpY_needs, qx_pb b, qy_pb b, qz_0, qz_1, true_implies, not_true, not_false_iff, false_implies, and_true, true_and]
    exact HQ _ _ J
  · rcases q_ix v2 (n := m) (by omega) with b | ⟨q, hq, rfl⟩
    · simp only [wpX_needs, wpY_needs, qx_pb b, qy_pb b, qx_pg hm hp, qy_pg hm hp, qz_0, qz_1, true_implies, not_true, not_false_iff, false_implies, and_true, true_and]
      exact HQ _ _ J
    · simp only [wpX_needs, wpY_needs, qx_pg hm hp, qy_pg hm hp, qx_pg hm hq, qy_pg hm hq, qn_in (show p < 60 by omega) (show 60 < 2 ^ 31 by omega), qn_in (show q < 60 by omega) (show 60 < 2 ^ 31 by omega), nI_clamp (show p < 2 ^ 31 by omega), nI_clamp (show q < 2 ^ 31 by omega), qx_isIn (show q < 64 by omega), qn_eq (show p < 2 ^ 31 by omega) (show q < 2 ^ 31 by omega), qI_0, qz_0, qz_1, true_implies, not_true, not_false_iff, false_implies, and_true, true_and]
      have main : ∀ b, b = qb_t (N p) q → (p = q → Q (qI b) 0 (nI m, tl, ol, ups, los, cts, sets, met, pile, ty, oth, W)) ∧ (¬ p = q → wpY_gather (fun u => match u with | (f_made, f_textLength, f_otherLength, a_uppers, a_lowers, a_contents, a_sets, a_met, a_pile, a_text, a_others, a_ways) => (narrow .boolean (.int (a_met q)) = .int (a_met q) ∧ Q (qI b) (a_met q) (f_made, f_textLength, f_otherLength, a_uppers, a_lowers, a_contents, a_sets, a_met, a_pile, a_text, a_others, a_ways))) (nI m, tl, ol, ups, los, cts, sets, met, pile, ty, oth, W) (nI p)) := by
        intro b hb
        refine br_c (fun e => ?_) (fun e => qy_gather R hups hlos hp (fun met' pile' hmet => ?_))
        · have z : b = false := by
            cases h : b
            · rfl
            · rw [h, e] at hb
              have := qN_lt R q hq q hb.symm
              omega
          rw [z]; exact HQ _ _ J
        · have z : met' q = qI b := by rw [hmet q hq, decide_eq_false (Ne.symm e), Bool.false_or, hb]
          show narrow .boolean (.int (met' q)) = .int (met' q) ∧ Q (qI b) (met' q) _
          rw [z]
          exact ⟨qI_fit b, HQ _ _ (q_rel R X Y)⟩
      cases h : qb_t (N p) q
      · exact ⟨fun _ => main false h.symm, fun z => absurd rfl z⟩
      · exact ⟨(fun z => nomatch z), fun _ => main true h.symm⟩
theorem i_vc_needed {k : Nat} {u : SX} {v : SY} (I : i_Rel k u v) (hk : k + 4 ≤ 2048) (v1 : Int32) : wpX_needed (fun r => wpY_needed (fun r' v' => r' = r ∧ i_Rel (k + 4) u v') v v1) u v1 := by
  obtain ⟨m, U, D, pl, C, S, P, N, pu, up, lo, ct, L, tx, ot, tl, ol, ups, los, cts, sets, met, pile, ty, oth, W, rfl, rfl, R, X, Y⟩ := I
  suffices H : ∀ Q : Int32 → Int32 → SY → Prop, (∀ r v', i_Rel (k + 4) (nI m, P, N, pu, up, lo, ct, L, tx, ot) v' → Q r r v') → wpX_needed (fun r => wpY_needed (fun r' v' => Q r r' v') (nI m, tl, ol, ups, los, cts, sets, met, pile, ty, oth, W) v1) (nI m, P, N, pu, up, lo, ct, L, tx, ot) v1 from H (fun r r' v' => r' = r ∧ i_Rel (k + 4) (nI m, P, N, pu, up, lo, ct, L, tx, ot) v') (fun r v' h => ⟨rfl, h⟩)
  intro Q HQ
  obtain ⟨hm, hU, hD, hst, hsd, hN, hC⟩ := id R
  obtain ⟨hpu, hup, hlo, hct, hP⟩ := id X
  obtain ⟨hups, hlos, hcts, hS⟩ := id Y
  have J := q_rel (k := k + 4) (L := L) (tx := tx) (ot := ot) (tl := tl) (ol := ol) (met := met) (pile := pile) (ty := ty) (oth := oth) (W := W) R X Y
  rcases q_ix v1 (n := m) (by omega) with b | ⟨p, hp, rfl⟩
  · simp only [wpX_needed, wpY_needed, qx_pb b, qy_pb b, qz_0, qz_1, true_implies, not_true, not_false_iff, false_implies, and_true, true_and]
    exact HQ _ _ J
  · simp only [wpX_needed, wpY_needed, qx_pg hm hp, qy_pg hm hp, qn_in (show p < 60 by omega) (show 60 < 2 ^ 31 by omega), nI_clamp (show p < 2 ^ 31 by omega), qz_0, qz_1, true_implies, not_true, not_false_iff, false_implies, and_true, true_and]
    refine qx_size (qy_gather R hups hlos hp (fun met' pile' hmet => ?_))
    have e1 : qs (fun i => (qb_t (N p) i).toNat) 60 = qs (fun i => (qb_t (N p) i).toNat) m := q_60 hm (fun j => by
      by_cases z : j < m
      · rw [decide_eq_true z, Bool.true_and]
      · rw [decide_eq_false z, Bool.false_and]
        cases h : qb_t (N p) j
        · rfl
        · have := qN_lt R p hp j h
          omega)
    have z : qb_t (N p) p = false := by
      cases h : qb_t (N p) p
      · rfl
      · have := qN_lt R p hp p h
        omega
    have e2 : qs (fun i => (decide (i = p) || qb_t (N p) i).toNat) m = qs (fun i => (qb_t (N p) i).toNat) m + 1 := by
      rw [← qs_put z m hp]
      exact qs_congr m (fun i _ => by rw [Bool.or_comm])
    have T := qy_nd20 (post := fun r' v' => Q (nI (qs (fun i => (qb_t (N p) i).toNat) 60)) r' v') (tl := tl) (ol := ol) (ups := ups) (los := los) (cts := cts) (sets := sets) (pile := pile') (ty := ty) (oth := oth) (W := W) hm hmet (by
      rw [e2, qm_1, e1]
      exact HQ _ _ (q_rel R X Y)) (m + 1) 0 (by omega) (by omega)
    rw [show nI (qs (fun i => (decide (i = p) || qb_t (N p) i).toNat) 0) + (-1) = -1 from by show nI 0 + (-1) = -1; decide] at T
    exact ⟨m + 1, T⟩
theorem i_vc_loose {k : Nat} {u : SX} {v : SY} (I : i_Rel k u v) (hk : k + 4 ≤ 2048) (v1 : Int32) : wpX_loose (fun r => wpY_loose (fun r' => r' = r ∧ i_Rel (k + 4) u v) v v1) u v1 := by
  obtain ⟨m, U, D, pl, C, S, P, N, pu, up, lo, ct, L, tx, ot, tl, ol, ups, los, cts, sets, met, pile, ty, oth, W, rfl, rfl, R, X, Y⟩ := I
  suffices H : ∀ Q : Int32 → Int32 → Prop, (∀ r, Q r r) → wpX_loose (fun r => wpY_loose (fun r' => Q r r') (nI m, tl, ol, ups, los, cts, sets, met, pile, ty, oth, W) v1) (nI m, P, N, pu, up, lo, ct, L, tx, ot) v1 from H (fun r r' => r' = r ∧ i_Rel (k + 4) (nI m, P, N, pu, up, lo, ct, L, tx, ot) (nI m, tl, ol, ups, los, cts, sets, met, pile, ty, oth, W)) (fun r => ⟨rfl, q_rel R X Y⟩)
  intro Q HQ
  obtain ⟨hm, hU, hD, hst, hsd, hN, hC⟩ := id R
  obtain ⟨hpu, hup, hlo, hct, hP⟩ := id X
  obtain ⟨hups, hlos, hcts, hS⟩ := id Y
  rcases q_ix v1 (n := 3) (by omega) with b | ⟨s, hs, rfl⟩
  · simp only [wpX_loose, wpY_loose, qx_sb b, qy_sb b, qz_0, qz_1, true_implies, not_true, not_false_iff, false_implies, and_true, true_and]
    exact HQ _
  · simp only [wpX_loose, wpY_loose, qx_sg hs, qy_sg hs, qn_in hs (show 3 < 2 ^ 31 by omega), nI_clamp (show s < 2 ^ 31 by omega), qz_0, qz_1, true_implies, not_true, not_false_iff, false_implies, and_true, true_and]
    refine qx_need hm hs (q_hP hs hP) (fun w hw => qx_size ?_)
    have e : qs (fun i => (qb_t (P s &&& (w ^^^ (-1))) i).toNat) 60 = qs (fun i => (S s i && !qe (fun q => S s q && (decide (U q = some i) || decide (D q = some i))) m).toNat) m := q_60 (F := fun i => S s i && !qe (fun q => S s q && (decide (U q = some i) || decide (D q = some i))) m) hm (fun j => by
      rw [qb_not, hP s hs j, hw j, qN_nd R hs j, Bool.and_assoc])
    rw [e]
    exact ⟨m + 1, qy_ls15 hm hs hups hlos hU hD hsd (hS s hs) (HQ _) (m + 1) 0 (by omega) (by omega)⟩
theorem i_vc_agree {k : Nat} {u : SX} {v : SY} (I : i_Rel k u v) (hk : k + 4 ≤ 2048) (v1 : Int32) (v2 : Int32) : wpX_agree (fun r => wpY_agree (fun r' => r' = r ∧ i_Rel (k + 4) u v) v v1 v2) u v1 v2 := by
  obtain ⟨m, U, D, pl, C, S, P, N, pu, up, lo, ct, L, tx, ot, tl, ol, ups, los, cts, sets, met, pile, ty, oth, W, rfl, rfl, R, X, Y⟩ := I
  suffices H : ∀ Q : Int32 → Int32 → Prop, (∀ r, Q r r) → wpX_agree (fun r => wpY_agree (fun r' => Q r r') (nI m, tl, ol, ups, los, cts, sets, met, pile, ty, oth, W) v1 v2) (nI m, P, N, pu, up, lo, ct, L, tx, ot) v1 v2 from H (fun r r' => r' = r ∧ i_Rel (k + 4) (nI m, P, N, pu, up, lo, ct, L, tx, ot) (nI m, tl, ol, ups, los, cts, sets, met, pile, ty, oth, W)) (fun r => ⟨rfl, q_rel R X Y⟩)
  intro Q HQ
  obtain ⟨hm, hU, hD, hst, hsd, hN, hC⟩ := id R
  obtain ⟨hpu, hup, hlo, hct, hP⟩ := id X
  obtain ⟨hups, hlos, hcts, hS⟩ := id Y
  rcases q_ix v1 (n := 3) (by omega) with b | ⟨s, hs, rfl⟩
  · simp only [wpX_agree, wpY_agree, qx_sb b, qy_sb b, qz_0, qz_1, true_implies, not_true, not_false_iff, false_implies, and_true, true_and]
    exact HQ _
  · rcases q_ix v2 (n := 3) (by omega) with b | ⟨t, ht, rfl⟩
    · simp only [wpX_agree, wpY_agree, qx_sg hs, qy_sg hs, qn_in hs (show 3 < 2 ^ 31 by omega), nI_clamp (show s < 2 ^ 31 by omega), qx_sb b, qy_sb b, qz_0, qz_1, true_implies, not_true, not_false_iff, false_implies, and_true, true_and]
      exact HQ _
    · simp only [wpX_agree, wpY_agree, qx_sg hs, qy_sg hs, qn_in hs (show 3 < 2 ^ 31 by omega), nI_clamp (show s < 2 ^ 31 by omega), qx_sg ht, qy_sg ht, qn_in ht (show 3 < 2 ^ 31 by omega), nI_clamp (show t < 2 ^ 31 by omega), qz_0, qz_1, true_implies, not_true, not_false_iff, false_implies, and_true, true_and]
      have main : ∀ b, b = !qe (fun j => !decide (S s j = S t j)) m → ∃ n20 : Nat, wY_agree_20 (fun r' => Q (qI b) r') (nI s) (nI t) (nI m) tl ol ups los cts sets met pile ty oth W n20 0 := fun b hb =>
        ⟨m + 1, qy_ag20 hm hs ht (hS s hs) (hS t ht) (by rw [← hb]; exact HQ _) (m + 1) 0 (by omega) (by omega) (fun j hj => by omega)⟩
      refine br_c (fun e => main true ?_) (fun e => main false ?_)
      · rw [qe_f.mpr (fun j hj => ?_)]
        · rfl
        · rw [← q_hP hs hP j hj, ← q_hP ht hP j hj, e, decide_eq_true rfl]; rfl
      · cases h : qe (fun j => !decide (S s j = S t j)) m
        · refine absurd (qb_ext (fun j _ => ?_)) e
          rw [hP s hs j, hP t ht j]
          by_cases z : j < m
          · have := qe_f.mp h j z
            by_cases y : S s j = S t j
            · rw [y]
            · rw [decide_eq_false y] at this; cases this
          · rw [decide_eq_false z, Bool.false_and, Bool.false_and]
        · rfl
end
section
/-! length, line, content, before -/
theorem i_vc_length {k : Nat} {u : SX} {v : SY} (I : i_Rel k u v) (hk : k + 4 ≤ 2048) (v1 : Int32) : wpX_length (fun r u' => wpY_length (fun r' v' => r' = r ∧ i_Rel (k + 4) u' v') v v1) u v1 := by
  obtain ⟨m, U, D, pl, C, S, P, N, pu, up, lo, ct, L, tx, ot, tl, ol, ups, los, cts, sets, met, pile, ty, oth, W, rfl, rfl, R, X, Y⟩ := I
  suffices H : ∀ Q : Int32 → SX → Int32 → SY → Prop, (∀ r u' v', i_Rel (k + 4) u' v' → Q r u' r v') → wpX_length (fun r u' => wpY_length (fun r' v' => Q r u' r' v') (nI m, tl, ol, ups, los, cts, sets, met, pile, ty, oth, W) v1) (nI m, P, N, pu, up, lo, ct, L, tx, ot) v1 from H (fun r u' r' v' => r' = r ∧ i_Rel (k + 4) u' v') (fun r u' v' h => ⟨rfl, h⟩)
  intro Q HQ
  obtain ⟨hm, hU, hD, hst, hsd, hN, hC⟩ := id R
  obtain ⟨hpu, hup, hlo, hct, hP⟩ := id X
  obtain ⟨hups, hlos, hcts, hS⟩ := id Y
  have J := q_rel (k := k + 4) (L := L) (tx := tx) (ot := ot) (tl := tl) (ol := ol) (met := met) (pile := pile) (ty := ty) (oth := oth) (W := W) R X Y
  rcases q_ix v1 (n := 3) (by omega) with b | ⟨s, hs, rfl⟩
  · simp only [wpX_length, wpY_length, qx_sb b, qy_sb b, qz_0, qz_1, true_implies, not_true, not_false_iff, false_implies, and_true, true_and]
    exact HQ _ _ _ J
  · simp only [wpX_length, wpY_length, qx_sg hs, qy_sg hs, qn_in hs (show 3 < 2 ^ 31 by omega), nI_clamp (show s < 2 ^ 31 by omega), qz_0, qz_1, true_implies, not_true, not_false_iff, false_implies, and_true, true_and]
    refine qx_text hm hs hpu hup hlo hU hD hst (q_hP hs hP) (fun L' tx' hL ht => ?_)
    refine qy_text hm hs hups hlos hU hD (hS s hs) (fun met' ty' W' hW hty => ?_)
    exact HQ _ _ _ (q_rel R X Y)
theorem i_vc_line {k : Nat} {u : SX} {v : SY} (I : i_Rel k u v) (hk : k + 4 ≤ 2048) (v1 : Int32) (v2 : Int32) : wpX_line (fun r u' => wpY_line (fun r' v' => r' = r ∧ i_Rel (k + 4) u' v') v v1 v2) u v1 v2 := by
  obtain ⟨m, U, D, pl, C, S, P, N, pu, up, lo, ct, L, tx, ot, tl, ol, ups, los, cts, sets, met, pile, ty, oth, W, rfl, rfl, R, X, Y⟩ := I
  suffices H : ∀ Q : Int32 → SX → Int32 → SY → Prop, (∀ r u' v', i_Rel (k + 4) u' v' → Q r u' r v') → wpX_line (fun r u' => wpY_line (fun r' v' => Q r u' r' v') (nI m, tl, ol, ups, los, cts, sets, met, pile, ty, oth, W) v1 v2) (nI m, P, N, pu, up, lo, ct, L, tx, ot) v1 v2 from H (fun r u' r' v' => r' = r ∧ i_Rel (k + 4) u' v') (fun r u' v' h => ⟨rfl, h⟩)
  intro Q HQ
  obtain ⟨hm, hU, hD, hst, hsd, hN, hC⟩ := id R
  obtain ⟨hpu, hup, hlo, hct, hP⟩ := id X
  obtain ⟨hups, hlos, hcts, hS⟩ := id Y
  have J := q_rel (k := k + 4) (L := L) (tx := tx) (ot := ot) (tl := tl) (ol := ol) (met := met) (pile := pile) (ty := ty) (oth := oth) (W := W) R X Y
  rcases q_ix v1 (n := 3) (by omega) with b | ⟨s, hs, rfl⟩
  · simp only [wpX_line, wpY_line, qx_sb b, qy_sb b, qz_0, qz_1, true_implies, not_true, not_false_iff, false_implies, and_true, true_and]
    exact HQ _ _ _ J
  · have hc := qd_nm m U pl (S s)
    simp only [wpX_line, wpY_line, qx_sg hs, qy_sg hs, qn_in hs (show 3 < 2 ^ 31 by omega), nI_clamp (show s < 2 ^ 31 by omega), qz_0, qz_1, true_implies, not_true, not_false_iff, false_implies, and_true, true_and]
    refine qx_text hm hs hpu hup hlo hU hD hst (q_hP hs hP) (fun L' tx' hL ht => ?_)
    rcases q_ix v2 (n := qd_n m U pl (S s)) (by omega) with b | ⟨j, hj, rfl⟩
    · by_cases h0 : v2 < 0
      · simp only [h0, qz_0, qz_1, true_implies, not_true, not_false_iff, false_implies, and_true, true_and]
        refine qy_text hm hs hups hlos hU hD (hS s hs) (fun met' ty' W' hW hty => ?_)
        exact HQ _ _ _ (q_rel R X Y)
      · have h1 := b.resolve_left h0
        have h2 : ¬ v2 < nI (qd_n m U pl (S s)) := Int32.not_lt.mpr h1
        simp only [h0, h2, qz_0, qz_1, true_implies, not_true, not_false_iff, false_implies, and_true, true_and]
        refine qy_text hm hs hups hlos hU hD (hS s hs) (fun met' ty' W' hW hty => ?_)
        simp only [h1, qz_0, qz_1, true_implies, not_true, not_false_iff, false_implies, and_true, true_and]
        exact HQ _ _ _ (q_rel R X Y)
    · have hT := qd_Tm (D := D) hj
      have h2 : (nI j < nI (qd_n m U pl (S s))) = True := eq_true (nI_lt hj (by omega))
      have h3 : (nI (qd_n m U pl (S s)) ≤ nI j) = False := eq_false (nI_ge hj (by omega))
      simp only [qn_neg (show j < 2 ^ 31 by omega), h2, qn_in (show j < 60 by omega) (show 60 < 2 ^ 31 by omega), nI_clamp (show j < 2 ^ 31 by omega), ht j hj, qz_0, qz_1, true_implies, not_true, not_false_iff, false_implies, and_true, true_and]
      refine qy_text hm hs hups hlos hU hD (hS s hs) (fun met' ty' W' hW hty => ?_)
      simp only [h3, hty j hj, qz_0, qz_1, true_implies, not_true, not_false_iff, false_implies, and_true, true_and]
      exact HQ _ _ _ (q_rel R X Y)
theorem i_vc_content {k : Nat} {u : SX} {v : SY} (I : i_Rel k u v) (hk : k + 4 ≤ 2048) (v1 : Int32) (v2 : Int32) : wpX_content (fun r u' => wpY_content (fun r' v' => r' = r ∧ i_Rel (k + 4) u' v') v v1 v2) u v1 v2 := by
  obtain ⟨m, U, D, pl, C, S, P, N, pu, up, lo, ct, L, tx, ot, tl, ol, ups, los, cts, sets, met, pile, ty, oth, W, rfl, rfl, R, X, Y⟩ := I
  suffices H : ∀ Q : Int32 → SX → Int32 → SY → Prop, (∀ r u' v', i_Rel (k + 4) u' v' → Q r u' r v') → wpX_content (fun r u' => wpY_content (fun r' v' => Q r u' r' v') (nI m, tl, ol, ups, los, cts, sets, met, pile, ty, oth, W) v1 v2) (nI m, P, N, pu, up, lo, ct, L, tx, ot) v1 v2 from H (fun r u' r' v' => r' = r ∧ i_Rel (k + 4) u' v') (fun r u' v' h => ⟨rfl, h⟩)
  intro Q HQ
  obtain ⟨hm, hU, hD, hst, hsd, hN, hC⟩ := id R
  obtain ⟨hpu, hup, hlo, hct, hP⟩ := id X
  obtain ⟨hups, hlos, hcts, hS⟩ := id Y
  have J := q_rel (k := k + 4) (L := L) (tx := tx) (ot := ot) (tl := tl) (ol := ol) (met := met) (pile := pile) (ty := ty) (oth := oth) (W := W) R X Y
  rcases q_ix v1 (n := 3) (by omega) with b | ⟨s, hs, rfl⟩
  · simp only [wpX_content, wpY_content, qx_sb b, qy_sb b, qz_0, qz_1, true_implies, not_true, not_false_iff, false_implies, and_true, true_and]
    exact HQ _ _ _ J
  · have hc := qd_nm m U pl (S s)
    simp only [wpX_content, wpY_content, qx_sg hs, qy_sg hs, qn_in hs (show 3 < 2 ^ 31 by omega), nI_clamp (show s < 2 ^ 31 by omega), qz_0, qz_1, true_implies, not_true, not_false_iff, false_implies, and_true, true_and]
    refine qx_text hm hs hpu hup hlo hU hD hst (q_hP hs hP) (fun L' tx' hL ht => ?_)
    rcases q_ix v2 (n := qd_n m U pl (S s)) (by omega) with b | ⟨j, hj, rfl⟩
    · by_cases h0 : v2 < 0
      · simp only [h0, qz_0, qz_1, true_implies, not_true, not_false_iff, false_implies, and_true, true_and]
        refine qy_text hm hs hups hlos hU hD (hS s hs) (fun met' ty' W' hW hty => ?_)
        exact HQ _ _ _ (q_rel R X Y)
      · have h1 := b.resolve_left h0
        have h2 : ¬ v2 < nI (qd_n m U pl (S s)) := Int32.not_lt.mpr h1
        simp only [h0, h2, qz_0, qz_1, true_implies, not_true, not_false_iff, false_implies, and_true, true_and]
        refine qy_text hm hs hups hlos hU hD (hS s hs) (fun met' ty' W' hW hty => ?_)
        simp only [h1, qz_0, qz_1, true_implies, not_true, not_false_iff, false_implies, and_true, true_and]
        exact HQ _ _ _ (q_rel R X Y)
    · have hT := qd_Tm (D := D) hj
      have h2 : (nI j < nI (qd_n m U pl (S s))) = True := eq_true (nI_lt hj (by omega))
      have h3 : (nI (qd_n m U pl (S s)) ≤ nI j) = False := eq_false (nI_ge hj (by omega))
      simp only [qn_neg (show j < 2 ^ 31 by omega), h2, qn_in (show j < 60 by omega) (show 60 < 2 ^ 31 by omega), nI_clamp (show j < 2 ^ 31 by omega), ht j hj, qn_in (show qd_T m U D pl (S s) j < 60 by omega) (show 60 < 2 ^ 31 by omega), nI_clamp (show qd_T m U D pl (S s) j < 2 ^ 31 by omega), hct _ hT, hcts _ hT, qz_0, qz_1, true_implies, not_true, not_false_iff, false_implies, and_true, true_and]
      refine qy_text hm hs hups hlos hU hD (hS s hs) (fun met' ty' W' hW hty => ?_)
      simp only [h3, hty j hj, qn_in (show qd_T m U D pl (S s) j < 60 by omega) (show 60 < 2 ^ 31 by omega), nI_clamp (show qd_T m U D pl (S s) j < 2 ^ 31 by omega), hct _ hT, hcts _ hT, qz_0, qz_1, true_implies, not_true, not_false_iff, false_implies, and_true, true_and]
      exact HQ _ _ _ (q_rel R X Y)
theorem i_vc_before {k : Nat} {u : SX} {v : SY} (I : i_Rel k u v) (hk : k + 4 ≤ 2048) (v1 : Int32) (v2 : Int32) (v3 : Int32) : wpX_before (fun r u' => wpY_before (fun r' v' => r' = r ∧ i_Rel (k + 4) u' v') v v1 v2 v3) u v1 v2 v3 := by
  obtain ⟨m, U, D, pl, C, S, P, N, pu, up, lo, ct, L, tx, ot, tl, ol, ups, los, cts, sets, met, pile, ty, oth, W, rfl, rfl, R, X, Y⟩ := I
  suffices H : ∀ Q : Int32 → SX → Int32 → SY → Prop, (∀ r u' v', i_Rel (k + 4) u' v' → Q r u' r v') → wpX_before (fun r u' => wpY_before (fun r' v' => Q r u' r' v') (nI m, tl, ol, ups, los, cts, sets, met, pile, ty, oth, W) v1 v2 v3) (nI m, P, N, pu, up, lo, ct, L, tx, ot) v1 v2 v3 from H (fun r u' r' v' => r' = r ∧ i_Rel (k + 4) u' v') (fun r u' v' h => ⟨rfl, h⟩)
  intro Q HQ
  obtain ⟨hm, hU, hD, hst, hsd, hN, hC⟩ := id R
  obtain ⟨hpu, hup, hlo, hct, hP⟩ := id X
  obtain ⟨hups, hlos, hcts, hS⟩ := id Y
  have J := q_rel (k := k + 4) (L := L) (tx := tx) (ot := ot) (tl := tl) (ol := ol) (met := met) (pile := pile) (ty := ty) (oth := oth) (W := W) R X Y
  simp only [wpX_before, wpY_before, wpX_isLineOf]
  rcases q_ix v1 (n := 3) (by omega) with b | ⟨s, hs, rfl⟩
  · simp only [qx_sb b, qy_sb b, qz_0, qz_1, true_implies, not_true, not_false_iff, false_implies, and_true, true_and]
    exact HQ _ _ _ J
  · rcases q_ix v2 (n := m) (by omega) with b | ⟨a, ha, rfl⟩
    · simp only [qx_sg hs, qy_sg hs, qn_in hs (show 3 < 2 ^ 31 by omega), nI_clamp (show s < 2 ^ 31 by omega), qx_pb b, qy_pb b, qz_0, qz_1, true_implies, not_true, not_false_iff, false_implies, and_true, true_and]
      exact HQ _ _ _ J
    · simp only [qx_sg hs, qy_sg hs, qn_in hs (show 3 < 2 ^ 31 by omega), nI_clamp (show s < 2 ^ 31 by omega), qx_pg hm ha, qy_pg hm ha, qn_in (show a < 60 by omega) (show 60 < 2 ^ 31 by omega), nI_clamp (show a < 2 ^ 31 by omega), hpu a ha, qx_isIn (show a < 64 by omega), q_hP hs hP a ha, qI_0, qz_0, qz_1, true_implies, not_true, not_false_iff, false_implies, and_true, true_and]
      rcases q_ix v3 (n := m) (by omega) with b | ⟨c, hc, rfl⟩
      · simp only [qx_pb b, qy_pb b, qz_0, qz_1, true_implies, not_true, not_false_iff, false_implies, and_true, true_and]
        cases pl a <;> cases S s a <;> simp only [reduceCtorEq, qz_0, qz_1, true_implies, not_true, not_false_iff, false_implies, and_true, true_and] <;> exact HQ _ _ _ J
      · simp only [qx_pg hm hc, qy_pg hm hc, qn_in (show c < 60 by omega) (show 60 < 2 ^ 31 by omega), nI_clamp (show c < 2 ^ 31 by omega), hpu c hc, qx_isIn (show c < 64 by omega), q_hP hs hP c hc, qn_eq (show a < 2 ^ 31 by omega) (show c < 2 ^ 31 by omega), qy_hasIt hs (show a < 60 by omega) (hS s hs a ha), qy_hasIt hs (show c < 60 by omega) (hS s hs c hc), qy_isLine hm ha (hlos a ha) (hD a ha), qy_isLine hm hc (hlos c hc) (hD c hc), qI_0, qz_0, qz_1, true_implies, not_true, not_false_iff, false_implies, and_true, true_and]
        cases h1 : pl a
        · cases S s a <;> cases S s c <;> simp only [reduceCtorEq, qz_0, qz_1, true_implies, not_true, not_false_iff, false_implies, and_true, true_and] <;> exact br_c (fun _ => HQ _ _ _ J) (fun _ => HQ _ _ _ J)
        · cases h2 : S s a
          · cases S s c <;> simp only [reduceCtorEq, qz_0, qz_1, true_implies, not_true, not_false_iff, false_implies, and_true, true_and] <;> exact br_c (fun _ => HQ _ _ _ J) (fun _ => HQ _ _ _ J)
          · cases h3 : pl c
            · cases S s c <;> simp only [reduceCtorEq, qz_0, qz_1, true_implies, not_true, not_false_iff, false_implies, and_true, true_and] <;> exact br_c (fun _ => HQ _ _ _ J) (fun _ => HQ _ _ _ J)
            · cases h4 : S s c
              · simp only [reduceCtorEq, qz_0, qz_1, true_implies, not_true, not_false_iff, false_implies, and_true, true_and]
                exact br_c (fun _ => HQ _ _ _ J) (fun _ => HQ _ _ _ J)
              · simp only [reduceCtorEq, qz_0, qz_1, true_implies, not_true, not_false_iff, false_implies, and_true, true_and]
                refine qx_findWays hm hs hpu hup hlo hU hD (q_hP hs hP) (fun L' hL => ?_)
                simp only [qx_bef (show a < 60 by omega) (show c < 60 by omega), qI_fit, qz_0, qz_1, true_implies, not_true, not_false_iff, false_implies, and_true, true_and]
                have e1 : qt_bef L' a c = qt_bef (qw_W m U D pl (S s)) a c := by unfold qt_bef; rw [hL a ha, hL c hc]
                rw [e1]
                refine br_c (fun e => ?_) (fun e => ?_)
                · rw [e, qt_self]
                  exact HQ _ _ _ (q_rel R X Y)
                · refine qy_findWays hm hs hups hlos hU hD (hS s hs) (fun W' hW => ?_)
                  have e2 : qt_bef W' a c = qt_bef (qw_W m U D pl (S s)) a c := by unfold qt_bef; rw [hW a ha, hW c hc]
                  simp only [qy_bef (show a < 60 by omega) (show c < 60 by omega), qI_fit, e2, qz_0, qz_1, true_implies, not_true, not_false_iff, false_implies, and_true, true_and]
                  exact HQ _ _ _ (q_rel R X Y)
end
section
/-! conflicts, rings: pairs of places of the text -/
def qp_g (fl : Bool) (M : Nat → Int64) (a b : Nat) : Bool := bif fl then (qb_t (M a) b && qb_t (M b) a) else (!qt_bef M a b && !qt_bef M b a)
def qp_h (fl : Bool) (M : Nat → Int64) (T : Nat → Nat) (i j : Nat) : Nat := (decide (i < j) && qp_g fl M (T i) (T j)).toNat
section
variable {m c : Nat} {T : Nat → Nat} {M : Nat → Int64} {P N L : Nat → Int64} {pu up lo ct tx ot : Nat → Int32}
theorem qx_conflicts37 {post : Int32 → SX → Prop} {J : Int32 → Int32 → Prop} {i A : Nat} (hm : m ≤ 60) (hc : c ≤ m) (hT : ∀ i, i < c → tx i = nI (T i)) (hTm : ∀ i, i < c → T i < m) (hL : qq m L M) (hi : i < c) (K : J (nI (A + qs (qp_h false M T i) c)) (nI (i + 1))) :
    ∀ n j, i < j → j ≤ c → c - j < n → wX_conflicts_37 post J (nI c) (nI i) (nI m) P N pu up lo ct L tx ot n (nI (A + qs (qp_h false M T i) j)) (nI j) := by
  intro n
  induction n with
  | zero => intro j h1 h2 hn; omega
  | succ n ih =>
    intro j hij hj hn
    simp only [wX_conflicts_37]
    rcases Nat.lt_or_ge j c with hlt | hge
    · refine br_f (nI_ge hlt (by omega)) ?_
      have ti := hTm i hi
      have tj := hTm j hlt
      have IH := ih (j + 1) (by omega) (by omega) (by omega)
      simp only [qs] at IH
      rw [← Nat.add_assoc] at IH
      have e : qp_h false M T i j = (qp_g false L (T i) (T j)).toNat := by
        unfold qp_h qp_g qt_bef
        rw [hL _ ti, hL _ tj, decide_eq_true hij, Bool.true_and]
      rw [e] at IH
      simp only [qp_g, cond_true, cond_false] at IH
      simp only [qn_in (show i < 60 by omega) (show 60 < 2 ^ 31 by omega), qn_in (show j < 60 by omega) (show 60 < 2 ^ 31 by omega), nI_clamp (show i < 2 ^ 31 by omega), nI_clamp (show j < 2 ^ 31 by omega), hT i hi, hT j hlt, qx_bef (show T i < 60 by omega) (show T j < 60 by omega), qx_bef (show T j < 60 by omega) (show T i < 60 by omega), qI_0, nI_1, forall_eq, true_and]
      cases h1 : qt_bef L (T i) (T j)
      · refine ⟨fun _ => ?_, fun z => absurd rfl z⟩
        cases h2 : qt_bef L (T j) (T i)
        · rw [h1, h2] at IH
          exact ⟨fun _ => IH, fun z => absurd rfl z⟩
        · rw [h1, h2] at IH
          exact ⟨(fun z => nomatch z), fun _ => IH⟩
      · rw [h1] at IH
        exact ⟨(fun z => nomatch z), fun _ => IH⟩
    · have e : j = c := by omega
      subst e
      refine br_t (nI_le (Nat.le_refl _) (by omega)) ?_
      simp only [nI_1, forall_eq]
      exact K
theorem qx_conflicts25 {post : Int32 → SX → Prop} (hm : m ≤ 60) (hc : c ≤ m) (hT : ∀ i, i < c → tx i = nI (T i)) (hTm : ∀ i, i < c → T i < m) (hL : qq m L M) (K : post (nI (qs (fun i => qs (qp_h false M T i) c) c)) (nI m, P, N, pu, up, lo, ct, L, tx, ot)) :
    ∀ n i, i ≤ c → c - i < n → wX_conflicts_25 post (nI c) (nI m) P N pu up lo ct L tx ot n (nI (qs (fun i => qs (qp_h false M T i) c) i)) (nI i) := by
  intro n
  induction n with
  | zero => intro i hi hn; omega
  | succ n ih =>
    intro i hi hn
    simp only [wX_conflicts_25]
    rcases Nat.lt_or_ge i c with hlt | hge
    · refine br_f (nI_ge hlt (by omega)) ?_
      simp only [nI_1, forall_eq]
      have T := qx_conflicts37 (post := post) (P := P) (N := N) (pu := pu) (up := up) (lo := lo) (ct := ct) (ot := ot) (A := qs (fun i => qs (qp_h false M T i) c) i) hm hc hT hTm hL hlt (ih (i + 1) (by omega) (by omega)) (c + 1) (i + 1) (by omega) (by omega) (by omega)
      rw [qs_zero (i + 1) (fun j hj => by unfold qp_h; rw [decide_eq_false (by omega), Bool.false_and]; rfl), Nat.add_zero] at T
      exact ⟨c + 1, T⟩
    · have e : i = c := by omega
      subst e
      exact br_t (nI_le (Nat.le_refl _) (by omega)) K
theorem qx_rings37 {post : Int32 → SX → Prop} {J : Int32 → Int32 → Prop} {i A : Nat} (hm : m ≤ 60) (hc : c ≤ m) (hT : ∀ i, i < c → tx i = nI (T i)) (hTm : ∀ i, i < c → T i < m) (hL : qq m L M) (hi : i < c) (K : J (nI (A + qs (qp_h true M T i) c)) (nI (i + 1))) :
    ∀ n j, i < j → j ≤ c → c - j < n → wX_rings_37 post J (nI c) (nI i) (nI m) P N pu up lo ct L tx ot n (nI (A + qs (qp_h true M T i) j)) (nI j) := by
  intro n
  induction n with
  | zero => intro j h1 h2 hn; omega
  | succ n ih =>
    intro j hij hj hn
    simp only [wX_rings_37]
    rcases Nat.lt_or_ge j c with hlt | hge
    · refine br_f (nI_ge hlt (by omega)) ?_
      have ti := hTm i hi
      have tj := hTm j hlt
      have IH := ih (j + 1) (by omega) (by omega) (by omega)
      simp only [qs] at IH
      rw [← Nat.add_assoc] at IH
      have e : qp_h true M T i j = (qp_g true L (T i) (T j)).toNat := by
        unfold qp_h qp_g qt_bef
        rw [hL _ ti, hL _ tj, decide_eq_true hij, Bool.true_and]
      rw [e] at IH
      simp only [qp_g, cond_true, cond_false] at IH
      simp only [qn_in (show i < 60 by omega) (show 60 < 2 ^ 31 by omega), qn_in (show j < 60 by omega) (show 60 < 2 ^ 31 by omega), nI_clamp (show i < 2 ^ 31 by omega), nI_clamp (show j < 2 ^ 31 by omega), hT i hi, hT j hlt, qx_each (show T i < 60 by omega) (show T j < 60 by omega), qI_0, nI_1, forall_eq, true_and]
      cases h1 : qb_t (L (T i)) (T j) && qb_t (L (T j)) (T i)
      · rw [h1] at IH
        exact ⟨fun _ => IH, fun z => absurd rfl z⟩
      · rw [h1] at IH
        exact ⟨(fun z => nomatch z), fun _ => IH⟩
    · have e : j = c := by omega
      subst e
      refine br_t (nI_le (Nat.le_refl _) (by omega)) ?_
      simp only [nI_1, forall_eq]
      exact K
theorem qx_rings25 {post : Int32 → SX → Prop} (hm : m ≤ 60) (hc : c ≤ m) (hT : ∀ i, i < c → tx i = nI (T i)) (hTm : ∀ i, i < c → T i < m) (hL : qq m L M) (K : post (nI (qs (fun i => qs (qp_h true M T i) c) c)) (nI m, P, N, pu, up, lo, ct, L, tx, ot)) :
    ∀ n i, i ≤ c → c - i < n → wX_rings_25 post (nI c) (nI m) P N pu up lo ct L tx ot n (nI (qs (fun i => qs (qp_h true M T i) c) i)) (nI i) := by
  intro n
  induction n with
  | zero => intro i hi hn; omega
  | succ n ih =>
    intro i hi hn
    simp only [wX_rings_25]
    rcases Nat.lt_or_ge i c with hlt | hge
    · refine br_f (nI_ge hlt (by omega)) ?_
      simp only [nI_1, forall_eq]
      have T := qx_rings37 (post := post) (P := P) (N := N) (pu := pu) (up := up) (lo := lo) (ct := ct) (ot := ot) (A := qs (fun i => qs (qp_h true M T i) c) i) hm hc hT hTm hL hlt (ih (i + 1) (by omega) (by omega)) (c + 1) (i + 1) (by omega) (by omega) (by omega)
      rw [qs_zero (i + 1) (fun j hj => by unfold qp_h; rw [decide_eq_false (by omega), Bool.false_and]; rfl), Nat.add_zero] at T
      exact ⟨c + 1, T⟩
    · have e : i = c := by omega
      subst e
      exact br_t (nI_le (Nat.le_refl _) (by omega)) K
end
section
variable {m c : Nat} {T : Nat → Nat} {M : Nat → Int64} {ups los cts sets met pile ty oth : Nat → Int32} {W : Nat → Int64} {ol : Int32}
theorem qy_cp22 {post : Int32 → SY → Prop} {J : Int32 → Int32 → Prop} {i A : Nat} {fl : Bool} (hm : m ≤ 60) (hc : c ≤ m) (hT : ∀ i, i < c → ty i = nI (T i)) (hTm : ∀ i, i < c → T i < m) (hW : qq m W M) (hi : i < c) (K : J (nI (A + qs (fun k => qp_h fl M T k i) i)) (nI (i + 1))) :
    ∀ n j, j ≤ i → i - j < n → wY_countPairs_22 post J (qI fl) (nI i) (nI m) (nI c) ol ups los cts sets met pile ty oth W n (nI (A + qs (fun k => qp_h fl M T k i) j)) (nI j) := by
  intro n
  induction n with
  | zero => intro j h1 hn; omega
  | succ n ih =>
    intro j hj hn
    simp only [wY_countPairs_22]
    rcases Nat.lt_or_ge j i with hlt | hge
    · refine br_f (nI_ge hlt (by omega)) ?_
      have ti := hTm i hi
      have tj := hTm j (by omega)
      have IH := ih (j + 1) (by omega) (by omega)
      simp only [qs] at IH
      rw [← Nat.add_assoc] at IH
      have e : qp_h fl M T j i = (qp_g fl W (T j) (T i)).toNat := by
        unfold qp_h qp_g qt_bef
        rw [hW _ ti, hW _ tj, decide_eq_true hlt, Bool.true_and]
      rw [e] at IH
      simp only [qn_in (show i < 60 by omega) (show 60 < 2 ^ 31 by omega), qn_in (show j < 60 by omega) (show 60 < 2 ^ 31 by omega), nI_clamp (show i < 2 ^ 31 by omega), nI_clamp (show j < 2 ^ 31 by omega), hT i hi, hT j (by omega), qy_leads (show T i < 60 by omega) (show T j < 60 by omega), qy_leads (show T j < 60 by omega) (show T i < 60 by omega), qI_0, qI_inj, nI_1, forall_eq, true_and]
      unfold qp_g qt_bef at IH
      cases fl <;> cases h1 : qb_t (W (T i)) (T j) <;> cases h2 : qb_t (W (T j)) (T i) <;> rw [h1, h2] at IH <;> simp only [reduceCtorEq, true_implies, not_true, not_false_iff, false_implies, and_true, true_and] <;> exact IH
    · have e : j = i := by omega
      subst e
      refine br_t (nI_le (Nat.le_refl _) (by omega)) ?_
      simp only [nI_1, forall_eq]
      exact K
theorem qy_cp10 {post : Int32 → SY → Prop} {fl : Bool} (hm : m ≤ 60) (hc : c ≤ m) (hT : ∀ i, i < c → ty i = nI (T i)) (hTm : ∀ i, i < c → T i < m) (hW : qq m W M) (K : post (nI (qs (fun i => qs (fun k => qp_h fl M T k i) c) c)) (nI m, nI c, ol, ups, los, cts, sets, met, pile, ty, oth, W)) :
    ∀ n i, i ≤ c → c - i < n → wY_countPairs_10 post (qI fl) (nI m) (nI c) ol ups los cts sets met pile ty oth W n (nI (qs (fun i => qs (fun k => qp_h fl M T k i) c) i)) (nI i) := by
  intro n
  induction n with
  | zero => intro i hi hn; omega
  | succ n ih =>
    intro i hi hn
    simp only [wY_countPairs_10]
    rcases Nat.lt_or_ge i c with hlt | hge
    · refine br_f (nI_ge hlt (by omega)) ?_
      have e : qs (fun k => qp_h fl M T k i) c = qs (fun k => qp_h fl M T k i) i := by
        have := qs_ext (f := fun k => qp_h fl M T k i) (n := i) (c - i) (fun k hk => by unfold qp_h; rw [decide_eq_false (by omega), Bool.false_and]; rfl)
        rw [show i + (c - i) = c by omega] at this
        exact this
      have IH := ih (i + 1) (by omega) (by omega)
      simp only [qs] at IH
      rw [e] at IH
      exact ⟨i + 1, qy_cp22 hm hc hT hTm hW hlt IH (i + 1) 0 (by omega) (by omega)⟩
    · have e : i = c := by omega
      subst e
      exact br_t (nI_le (Nat.le_refl _) (by omega)) K
end
theorem i_vc_conflicts {k : Nat} {u : SX} {v : SY} (I : i_Rel k u v) (hk : k + 4 ≤ 2048) (v1 : Int32) : wpX_conflicts (fun r u' => wpY_conflicts (fun r' v' => r' = r ∧ i_Rel (k + 4) u' v') v v1) u v1 := by
  obtain ⟨m, U, D, pl, C, S, P, N, pu, up, lo, ct, L, tx, ot, tl, ol, ups, los, cts, sets, met, pile, ty, oth, W, rfl, rfl, R, X, Y⟩ := I
  suffices H : ∀ Q : Int32 → SX → Int32 → SY → Prop, (∀ r u' v', i_Rel (k + 4) u' v' → Q r u' r v') → wpX_conflicts (fun r u' => wpY_conflicts (fun r' v' => Q r u' r' v') (nI m, tl, ol, ups, los, cts, sets, met, pile, ty, oth, W) v1) (nI m, P, N, pu, up, lo, ct, L, tx, ot) v1 from H (fun r u' r' v' => r' = r ∧ i_Rel (k + 4) u' v') (fun r u' v' h => ⟨rfl, h⟩)
  intro Q HQ
  obtain ⟨hm, hU, hD, hst, hsd, hN, hC⟩ := id R
  obtain ⟨hpu, hup, hlo, hct, hP⟩ := id X
  obtain ⟨hups, hlos, hcts, hS⟩ := id Y
  have J := q_rel (k := k + 4) (L := L) (tx := tx) (ot := ot) (tl := tl) (ol := ol) (met := met) (pile := pile) (ty := ty) (oth := oth) (W := W) R X Y
  rcases q_ix v1 (n := 3) (by omega) with b | ⟨s, hs, rfl⟩
  · simp only [wpX_conflicts, wpY_conflicts, qx_sb b, qy_sb b, qz_0, qz_1, true_implies, not_true, not_false_iff, false_implies, and_true, true_and]
    exact HQ _ _ _ J
  · have hc := qd_nm m U pl (S s)
    simp only [wpX_conflicts, wpY_conflicts, wpY_countPairs, qx_sg hs, qy_sg hs, qn_in hs (show 3 < 2 ^ 31 by omega), nI_clamp (show s < 2 ^ 31 by omega), qz_0, qz_1, true_implies, not_true, not_false_iff, false_implies, and_true, true_and]
    refine qx_text hm hs hpu hup hlo hU hD hst (q_hP hs hP) (fun L' tx' hL ht => ?_)
    refine ⟨qd_n m U pl (S s) + 1, qx_conflicts25 (T := qd_T m U D pl (S s)) hm hc ht (fun i hi => qd_Tm hi) hL ?_ (qd_n m U pl (S s) + 1) 0 (by omega) (by omega)⟩
    refine qy_text hm hs hups hlos hU hD (hS s hs) (fun met' ty' W' hW hty => ?_)
    refine ⟨qd_n m U pl (S s) + 1, qy_cp10 (fl := false) (T := qd_T m U D pl (S s)) hm hc hty (fun i hi => qd_Tm hi) hW ?_ (qd_n m U pl (S s) + 1) 0 (by omega) (by omega)⟩
    rw [← qs_swap]
    exact HQ _ _ _ (q_rel R X Y)
theorem i_vc_rings {k : Nat} {u : SX} {v : SY} (I : i_Rel k u v) (hk : k + 4 ≤ 2048) (v1 : Int32) : wpX_rings (fun r u' => wpY_rings (fun r' v' => r' = r ∧ i_Rel (k + 4) u' v') v v1) u v1 := by
  obtain ⟨m, U, D, pl, C, S, P, N, pu, up, lo, ct, L, tx, ot, tl, ol, ups, los, cts, sets, met, pile, ty, oth, W, rfl, rfl, R, X, Y⟩ := I
  suffices H : ∀ Q : Int32 → SX → Int32 → SY → Prop, (∀ r u' v', i_Rel (k + 4) u' v' → Q r u' r v') → wpX_rings (fun r u' => wpY_rings (fun r' v' => Q r u' r' v') (nI m, tl, ol, ups, los, cts, sets, met, pile, ty, oth, W) v1) (nI m, P, N, pu, up, lo, ct, L, tx, ot) v1 from H (fun r u' r' v' => r' = r ∧ i_Rel (k + 4) u' v') (fun r u' v' h => ⟨rfl, h⟩)
  intro Q HQ
  obtain ⟨hm, hU, hD, hst, hsd, hN, hC⟩ := id R
  obtain ⟨hpu, hup, hlo, hct, hP⟩ := id X
  obtain ⟨hups, hlos, hcts, hS⟩ := id Y
  have J := q_rel (k := k + 4) (L := L) (tx := tx) (ot := ot) (tl := tl) (ol := ol) (met := met) (pile := pile) (ty := ty) (oth := oth) (W := W) R X Y
  rcases q_ix v1 (n := 3) (by omega) with b | ⟨s, hs, rfl⟩
  · simp only [wpX_rings, wpY_rings, qx_sb b, qy_sb b, qz_0, qz_1, true_implies, not_true, not_false_iff, false_implies, and_true, true_and]
    exact HQ _ _ _ J
  · have hc := qd_nm m U pl (S s)
    simp only [wpX_rings, wpY_rings, wpY_countPairs, qx_sg hs, qy_sg hs, qn_in hs (show 3 < 2 ^ 31 by omega), nI_clamp (show s < 2 ^ 31 by omega), qz_0, qz_1, true_implies, not_true, not_false_iff, false_implies, and_true, true_and]
    refine qx_text hm hs hpu hup hlo hU hD hst (q_hP hs hP) (fun L' tx' hL ht => ?_)
    refine ⟨qd_n m U pl (S s) + 1, qx_rings25 (T := qd_T m U D pl (S s)) hm hc ht (fun i hi => qd_Tm hi) hL ?_ (qd_n m U pl (S s) + 1) 0 (by omega) (by omega)⟩
    refine qy_text hm hs hups hlos hU hD (hS s hs) (fun met' ty' W' hW hty => ?_)
    refine ⟨qd_n m U pl (S s) + 1, qy_cp10 (fl := true) (T := qd_T m U D pl (S s)) hm hc hty (fun i hi => qd_Tm hi) hW ?_ (qd_n m U pl (S s) + 1) 0 (by omega) (by omega)⟩
    rw [← qs_swap]
    exact HQ _ _ _ (q_rel R X Y)
end
section
/-! alike -/
section
variable {m c : Nat} {T V : Nat → Nat} {C : Nat → Int32} {P N L : Nat → Int64} {pu up lo ct tx ot : Nat → Int32}
theorem qx_al48 {post : Int32 → SX → Prop} (hm : m ≤ 60) (hc : c ≤ m) (hct : ∀ p, p < m → ct p = C p) (hT : ∀ i, i < c → tx i = nI (T i)) (hTm : ∀ i, i < c → T i < m) (hV : ∀ i, i < c → ot i = nI (V i)) (hVm : ∀ i, i < c → V i < m) (K : post (qI (!qe (fun j => !decide (C (T j) = C (V j))) c)) (nI m, P, N, pu, up, lo, ct, L, tx, ot)) :
    ∀ n i, i ≤ c → c - i < n → (∀ j, j < i → C (T j) = C (V j)) → wX_alike_48 post (nI c) (nI m) P N pu up lo ct L tx ot n (nI i) := by
  intro n
  induction n with
  | zero => intro i hi hn; omega
  | succ n ih =>
    intro i hi hn hI
    simp only [wX_alike_48]
    rcases Nat.lt_or_ge i c with hlt | hge
    · refine br_f (nI_ge hlt (by omega)) ?_
      have ti := hTm i hlt
      have vi := hVm i hlt
      simp only [qn_in (show i < 60 by omega) (show 60 < 2 ^ 31 by omega), nI_clamp (show i < 2 ^ 31 by omega), hT i hlt, hV i hlt, qn_in (show T i < 60 by omega) (show 60 < 2 ^ 31 by omega), nI_clamp (show T i < 2 ^ 31 by omega), qn_in (show V i < 60 by omega) (show 60 < 2 ^ 31 by omega), nI_clamp (show V i < 2 ^ 31 by omega), hct _ ti, hct _ vi, nI_1, forall_eq, true_and]
      refine br_c (fun h => ih (i + 1) (by omega) (by omega) (fun j hj => ?_)) (fun h => ?_)
      · rcases Nat.lt_or_ge j i with z | z
        · exact hI j z
        · rw [show j = i by omega]; exact h
      · have e : qe (fun j => !decide (C (T j) = C (V j))) c = true := qe_t.mpr ⟨i, hlt, by rw [decide_eq_false h]; rfl⟩
        rw [e] at K; exact K
    · have e : i = c := by omega
      subst e
      have e : qe (fun j => !decide (C (T j) = C (V j))) i = false := qe_f.mpr (fun j hj => by rw [decide_eq_true (hI j hj)]; rfl)
      rw [e] at K
      exact br_t (nI_le (Nat.le_refl _) (by omega)) K
end
section
variable {m c : Nat} {T V : Nat → Nat} {C : Nat → Int32} {ups los cts sets met pile ty oth : Nat → Int32} {W : Nat → Int64} {mc tl ol : Int32}
theorem qy_al89 {post : Int32 → SY → Prop} {b : Bool} (hm : m ≤ 60) (hc : c ≤ m) (hcts : ∀ p, p < m → cts p = C p) (hV : ∀ i, i < c → ty i = nI (V i)) (hVm : ∀ i, i < c → V i < m) (hO : b = true → ∀ i, i < c → oth i = C (T i)) (K : post (qI (b && !qe (fun j => !decide (C (T j) = C (V j))) c)) (nI m, nI c, ol, ups, los, cts, sets, met, pile, ty, oth, W)) :
    ∀ n i, i ≤ c → c - i < n → wY_alike_89 post (nI m) (nI c) ol ups los cts sets met pile ty oth W n (qI (b && !qe (fun j => !decide (C (T j) = C (V j))) i)) (nI i) := by
  intro n
  induction n with
  | zero => intro i hi hn; omega
  | succ n ih =>
    intro i hi hn
    simp only [wY_alike_89]
    rcases Nat.lt_or_ge i c with hlt | hge
    · refine br_f (nI_ge hlt (by omega)) ?_
      have vi := hVm i hlt
      have IH := ih (i + 1) (by omega) (by omega)
      simp only [qe] at IH
      simp only [qn_in (show i < 60 by omega) (show 60 < 2 ^ 31 by omega), nI_clamp (show i < 2 ^ 31 by omega), hV i hlt, qn_in (show V i < 60 by omega) (show 60 < 2 ^ 31 by omega), nI_clamp (show V i < 2 ^ 31 by omega), hcts _ vi, nI_1, forall_eq, true_and, qI_0]
      cases h0 : b && !qe (fun j => !decide (C (T j) = C (V j))) i
      · refine ⟨fun _ => ?_, fun z => absurd rfl z⟩
        have e : (b && !(qe (fun j => !decide (C (T j) = C (V j))) i || !decide (C (T i) = C (V i)))) = false := by
          revert h0
          cases b <;> cases qe (fun j => !decide (C (T j) = C (V j))) i <;> simp
        rw [e] at IH; exact IH
      · have hh : b = true ∧ qe (fun j => !decide (C (T j) = C (V j))) i = false := by
          revert h0
          cases b <;> cases qe (fun j => !decide (C (T j) = C (V j))) i <;> simp
        rw [hh.1, hh.2, Bool.true_and, Bool.false_or, Bool.not_not] at IH
        refine ⟨(fun z => nomatch z), fun _ => ?_⟩
        rw [hO hh.1 i hlt]
        refine br_c (fun h => ?_) (fun h => ?_)
        · rw [decide_eq_true h] at IH; exact IH
        · rw [decide_eq_false h] at IH; exact IH
    · have e : i = c := by omega
      subst e
      exact br_t (nI_le (Nat.le_refl _) (by omega)) ⟨qI_fit _, K⟩
theorem qy_al33 {post : Int32 → SY → Prop} {t : Int32} (hm : m ≤ 60) (hc : c ≤ m) (hcts : ∀ p, p < m → cts p = C p) (hT : ∀ i, i < c → ty i = nI (T i)) (hTm : ∀ i, i < c → T i < m)
    (K : ∀ oth, (∀ i, i < c → oth i = C (T i)) → wpY_findText (fun u => match u with | (f_made_44, f_textLength_45, f_otherLength_46, a_uppers_47, a_lowers_48, a_contents_49, a_sets_50, a_met_51, a_pile_52, a_text_53, a_others_54, a_ways_55) => (((f_otherLength_46 = f_textLength_45 → (∃ n89 : Nat, wY_alike_89 post f_made_44 f_textLength_45 f_otherLength_46 a_uppers_47 a_lowers_48 a_contents_49 a_sets_50 a_met_51 a_pile_52 a_text_53 a_others_54 a_ways_55 n89 1 0)) ∧ (¬ f_otherLength_46 = f_textLength_45 → (∃ n89 : Nat, wY_alike_89 post f_made_44 f_textLength_45 f_otherLength_46 a_uppers_47 a_lowers_48 a_contents_49 a_sets_50 a_met_51 a_pile_52 a_text_53 a_others_54 a_ways_55 n89 0 0))))) (nI m, nI c, nI c, ups, los, cts, sets, met, pile, ty, oth, W) t) :
    ∀ n i oth, i ≤ c → c - i < n → (∀ j, j < i → oth j = C (T j)) → wY_alike_33 post t (nI m) (nI c) (nI c) n (nI i) ups los cts sets met pile ty oth W := by
  intro n
  induction n with
  | zero => intro i oth hi hn; omega
  | succ n ih =>
    intro i oth hi hn hO
    simp only [wY_alike_33]
    rcases Nat.lt_or_ge i c with hlt | hge
    · refine br_f (nI_ge hlt (by omega)) ?_
      have ti := hTm i hlt
      simp only [qn_in (show i < 60 by omega) (show 60 < 2 ^ 31 by omega), nI_clamp (show i < 2 ^ 31 by omega), hT i hlt, qn_in (show T i < 60 by omega) (show 60 < 2 ^ 31 by omega), nI_clamp (show T i < 2 ^ 31 by omega), hcts _ ti, nI_1, forall_eq, true_and]
      refine ih (i + 1) _ (by omega) (by omega) (fun j hj => ?_)
      by_cases z : j = i
      · rw [z, qu_s]
      · rw [qu_n z]; exact hO j (by omega)
    · have e : i = c := by omega
      subst e
      exact br_t (nI_le (Nat.le_refl _) (by omega)) (K oth hO)
end
theorem i_vc_alike {k : Nat} {u : SX} {v : SY} (I : i_Rel k u v) (hk : k + 4 ≤ 2048) (v1 : Int32) (v2 : Int32) : wpX_alike (fun r u' => wpY_alike (fun r' v' => r' = r ∧ i_Rel (k + 4) u' v') v v1 v2) u v1 v2 := by
  obtain ⟨m, U, D, pl, C, S, P, N, pu, up, lo, ct, L, tx, ot, tl, ol, ups, los, cts, sets, met, pile, ty, oth, W, rfl, rfl, R, X, Y⟩ := I
  suffices H : ∀ Q : Int32 → SX → Int32 → SY → Prop, (∀ r u' v', i_Rel (k + 4) u' v' → Q r u' r v') → wpX_alike (fun r u' => wpY_alike (fun r' v' => Q r u' r' v') (nI m, tl, ol, ups, los, cts, sets, met, pile, ty, oth, W) v1 v2) (nI m, P, N, pu, up, lo, ct, L, tx, ot) v1 v2 from H (fun r u' r' v' => r' = r ∧ i_Rel (k + 4) u' v') (fun r u' v' h => ⟨rfl, h⟩)
  intro Q HQ
  obtain ⟨hm, hU, hD, hst, hsd, hN, hC⟩ := id R
  obtain ⟨hpu, hup, hlo, hct, hP⟩ := id X
  obtain ⟨hups, hlos, hcts, hS⟩ := id Y
  have J := q_rel (k := k + 4) (L := L) (tx := tx) (ot := ot) (tl := tl) (ol := ol) (met := met) (pile := pile) (ty := ty) (oth := oth) (W := W) R X Y
  rcases q_ix v1 (n := 3) (by omega) with b | ⟨s, hs, rfl⟩
  · simp only [wpX_alike, wpY_alike, qx_sb b, qy_sb b, qz_0, qz_1, true_implies, not_true, not_false_iff, false_implies, and_true, true_and]
    exact HQ _ _ _ J
  · rcases q_ix v2 (n := 3) (by omega) with b | ⟨t, ht, rfl⟩
    · simp only [wpX_alike, wpY_alike, qx_sg hs, qy_sg hs, qn_in hs (show 3 < 2 ^ 31 by omega), nI_clamp (show s < 2 ^ 31 by omega), qx_sb b, qy_sb b, qz_0, qz_1, true_implies, not_true, not_false_iff, false_implies, and_true, true_and]
      exact HQ _ _ _ J
    · have hc := qd_nm m U pl (S s)
      have hd := qd_nm m U pl (S t)
      simp only [wpX_alike, wpY_alike, qx_sg hs, qy_sg hs, qx_sg ht, qy_sg ht, qz_0, qz_1, true_implies, not_true, not_false_iff, false_implies, and_true, true_and]
      refine qx_text hm hs hpu hup hlo hU hD hst (q_hP hs hP) (fun L' tx' hL hx => ?_)
      refine qx_texto hm ht hpu hup hlo hU hD hst (q_hP ht hP) (fun L2 ot' hL2 ho => ?_)
      have yy : ∀ (r : Int32) (L tx ot : _), r = qI (decide (qd_n m U pl (S s) = qd_n m U pl (S t)) && !qe (fun j => !decide (C (qd_T m U D pl (S s) j) = C (qd_T m U D pl (S t) j))) (qd_n m U pl (S t))) → wpY_alike (fun r' v' => Q r (nI m, P, N, pu, up, lo, ct, L, tx, ot) r' v') (nI m, tl, ol, ups, los, cts, sets, met, pile, ty, oth, W) (nI s) (nI t) := by
        intro r L tx ot hr
        simp only [wpY_alike, qy_sg hs, qy_sg ht, qz_0, qz_1, true_implies, not_true, not_false_iff, false_implies, and_true, true_and]
        refine qy_text hm hs hups hlos hU hD (hS s hs) (fun met' ty' W' hW hty => ?_)
        refine ⟨qd_n m U pl (S s) + 1, qy_al33 (T := qd_T m U D pl (S s)) hm hc hcts hty (fun i hi => qd_Tm hi) (fun oth' hoth => ?_) (qd_n m U pl (S s) + 1) 0 oth (by omega) (by omega) (fun j hj => by omega)⟩
        refine qy_text hm ht hups hlos hU hD (hS t ht) (fun met2 ty2 W2 hW2 hty2 => ?_)
        simp only [qn_eq (show qd_n m U pl (S s) < 2 ^ 31 by omega) (show qd_n m U pl (S t) < 2 ^ 31 by omega)]
        refine br_c (fun e => ?_) (fun e => ?_)
        · refine ⟨qd_n m U pl (S t) + 1, qy_al89 (b := true) (T := qd_T m U D pl (S s)) (V := qd_T m U D pl (S t)) hm hd hcts hty2 (fun i hi => qd_Tm hi) (fun _ i hi => hoth i (by omega)) ?_ (qd_n m U pl (S t) + 1) 0 (by omega) (by omega)⟩
          rw [decide_eq_true e] at hr
          rw [← hr]
          exact HQ _ _ _ (q_rel R X Y)
        · refine ⟨qd_n m U pl (S t) + 1, qy_al89 (b := false) (T := qd_T m U D pl (S s)) (V := qd_T m U D pl (S t)) hm hd hcts hty2 (fun i hi => qd_Tm hi) (fun z => nomatch z) ?_ (qd_n m U pl (S t) + 1) 0 (by omega) (by omega)⟩
          rw [decide_eq_false e] at hr
          rw [← hr]
          exact HQ _ _ _ (q_rel R X Y)
      simp only [wpY_alike, qy_sg hs, qy_sg ht, qz_0, qz_1, true_implies, not_true, not_false_iff, false_implies, and_true, true_and] at yy
      simp only [qn_eq (show qd_n m U pl (S s) < 2 ^ 31 by omega) (show qd_n m U pl (S t) < 2 ^ 31 by omega)]
      refine br_c (fun e => ?_) (fun e => ?_)
      · refine ⟨qd_n m U pl (S s) + 1, qx_al48 (T := qd_T m U D pl (S s)) (V := qd_T m U D pl (S t)) hm hc hct hx (fun i hi => qd_Tm hi) (fun i hi => ho i (by omega)) (fun i hi => qd_Tm (by omega)) ?_ (qd_n m U pl (S s) + 1) 0 (by omega) (by omega) (fun j hj => by omega)⟩
        exact yy _ _ _ _ (by rw [decide_eq_true e, Bool.true_and, e])
      · exact yy _ _ _ _ (by rw [decide_eq_false e]; rfl)
end
section
/-! pull, pick, drop: a store is given a set of patches; a patch is taken out -/
def qS_g (S : Nat → Nat → Bool) (t : Nat) (G : Nat → Bool) (i : Nat) (t' q : Nat) : Bool := bif decide (t' = t) then S t q || (decide (q < i) && G q) else S t' q
theorem qS_0 (S : Nat → Nat → Bool) (t : Nat) (G : Nat → Bool) (t' q : Nat) : qS_g S t G 0 t' q = S t' q := by
  unfold qS_g
  by_cases h : t' = t
  · rw [decide_eq_true h, h, decide_eq_false (by omega)]; simp
  · rw [decide_eq_false h]; rfl
theorem qS_s {S : Nat → Nat → Bool} {t : Nat} {G : Nat → Bool} {i : Nat} {t' q : Nat} (h : ¬ (t' = t ∧ q = i) ∨ G i = false ∨ S t i = true) : qS_g S t G (i + 1) t' q = qS_g S t G i t' q := by
  unfold qS_g
  by_cases ht : t' = t
  · rw [decide_eq_true ht]
    show (S t q || (decide (q < i + 1) && G q)) = (S t q || (decide (q < i) && G q))
    by_cases hq : q = i
    · rcases h with h | h | h
      · exact absurd ⟨ht, hq⟩ h
      · rw [hq, h]; simp
      · rw [hq, h]; simp
    · rw [show decide (q < i + 1) = decide (q < i) from decide_eq_decide.mpr (by omega)]
  · rw [decide_eq_false ht]; rfl
theorem qS_t {S : Nat → Nat → Bool} {t : Nat} {G : Nat → Bool} {i : Nat} (h : G i = true) : qS_g S t G (i + 1) t i = true := by
  unfold qS_g
  rw [decide_eq_true rfl, h, decide_eq_true (by omega)]; simp
theorem qS_i (S : Nat → Nat → Bool) (t : Nat) (G : Nat → Bool) (i : Nat) : qS_g S t G i t i = S t i := by
  unfold qS_g
  rw [decide_eq_true rfl, decide_eq_false (by omega)]; simp
theorem qS_o {S : Nat → Nat → Bool} {t s : Nat} {G : Nat → Bool} {i q : Nat} (h : s ≠ t) : qS_g S t G i s q = S s q := by
  unfold qS_g
  rw [decide_eq_false h]; rfl
section
variable {m s t : Nat} {U D : Nat → Option Nat} {pl : Nat → Bool} {C : Nat → Int32} {S : Nat → Nat → Bool} {G : Nat → Bool} {P N L : Nat → Int64} {pu up lo ct tx ot : Nat → Int32} {w : Int64}
theorem qR_give (R : qR m U D pl S N) (hG : ∀ q, q < m → G q = true → ∀ j, qb_t (N q) j = true → j = 0 ∨ G j = true) : qR m U D pl (qS_g S t G m) N := by
  obtain ⟨hm, hU, hD, hst, hsd, hN, hC⟩ := id R
  refine ⟨hm, hU, hD, hst, hsd, hN, fun s hs q hq h j hj => ?_⟩
  have lj := qN_lt R q hq j hj
  unfold qS_g at h ⊢
  by_cases e : s = t
  · subst e
    rw [decide_eq_true rfl] at h ⊢
    have h : (S s q || (decide (q < m) && G q)) = true := h
    show j = 0 ∨ (S s j || (decide (j < m) && G j)) = true
    rw [Bool.or_eq_true, Bool.and_eq_true] at h
    rw [decide_eq_true (show j < m by omega)]
    rcases h with h | h
    · rcases hC s hs q hq h j hj with z | z
      · exact Or.inl z
      · rw [z]; exact Or.inr rfl
    · rcases hG q hq h.2 j hj with z | z
      · exact Or.inl z
      · rw [z]; simp
  · rw [decide_eq_false e] at h ⊢
    exact hC s hs q hq h j hj
theorem qX_give (X : qX m U D pl C S P pu up lo ct) (hw : ∀ j, qb_t w j = (decide (j < m) && G j)) (ht : t < 3) : qX m U D pl C (qS_g S t G m) (vp_updL P t (P t ||| w)) pu up lo ct := by
  obtain ⟨hpu, hup, hlo, hct, hP⟩ := id X
  refine ⟨hpu, hup, hlo, hct, fun s hs j => ?_⟩
  unfold qS_g
  by_cases e : s = t
  · subst e
    rw [qu_Ls, qb_or, hP s hs j, hw j, decide_eq_true rfl]
    show _ = (decide (j < m) && (S s j || (decide (j < m) && G j)))
    cases decide (j < m) <;> simp
  · rw [qu_Ln e, hP s hs j, decide_eq_false e]; rfl
theorem qx_give {post : Int32 → SX → Prop} (hm : m ≤ 60) (ht : t < 3) (hP : ∀ s, s < 3 → ∀ j, qb_t (P s) j = (decide (j < m) && S s j)) (hw : ∀ j, qb_t w j = (decide (j < m) && G j)) (K : post (nI (qs (fun j => (G j && !S t j).toNat) m)) (nI m, vp_updL P t (P t ||| w), N, pu, up, lo, ct, L, tx, ot)) : wpX_giveAll post (nI m, P, N, pu, up, lo, ct, L, tx, ot) (nI t) w := by
  simp only [wpX_giveAll, qn_in ht (show 3 < 2 ^ 31 by omega), nI_clamp (show t < 2 ^ 31 by omega), true_and, forall_eq]
  refine qx_size ?_
  rw [q_60 (F := fun j => G j && !S t j) hm (fun j => by
    rw [qb_not, hw j, hP t ht j]
    cases decide (j < m) <;> simp)]
  exact K
end
section
variable {m s t : Nat} {S : Nat → Nat → Bool} {G : Nat → Bool} {ups los cts sets met pile ty oth : Nat → Int32} {W : Nat → Int64} {mc tl ol : Int32}
theorem qy_up {sets : Nat → Int32} {t i : Nat} (hm : m ≤ 60) (hi : i < m) (h : ∀ t', t' < 3 → ∀ q, q < m → sets (60 * t' + q) = qI (qS_g S t G i t' q)) (hG : G i = true) : ∀ t', t' < 3 → ∀ q, q < m → upd sets (60 * t + i) 1 (60 * t' + q) = qI (qS_g S t G (i + 1) t' q) := by
  intro t' ht' q hq
  by_cases e : t' = t ∧ q = i
  · rw [e.1, e.2, qu_s, qS_t hG]; rfl
  · rw [qu_n (fun z => e (by omega)), h t' ht' q hq, qS_s (Or.inl e)]
theorem qy_pull29 {post : Int32 → SY → Prop} (hm : m ≤ 60) (hs : s < 3) (ht : t < 3) (hst : s ≠ t)
    (K : ∀ sets, (∀ t', t' < 3 → ∀ q, q < m → sets (60 * t' + q) = qI (qS_g S t (S s) m t' q)) → post (nI (qs (fun j => (S s j && !S t j).toNat) m)) (nI m, tl, ol, ups, los, cts, sets, met, pile, ty, oth, W)) :
    ∀ n i sets, i ≤ m → m - i < n → (∀ t', t' < 3 → ∀ q, q < m → sets (60 * t' + q) = qI (qS_g S t (S s) i t' q)) → wY_pull_29 post (nI s) (nI t) (nI m) tl ol n (nI (qs (fun j => (S s j && !S t j).toNat) i)) (nI i) ups los cts sets met pile ty oth W := by
  intro n
  induction n with
  | zero => intro i sets hi hn; omega
  | succ n ih =>
    intro i sets hi hn h
    simp only [wY_pull_29]
    rcases Nat.lt_or_ge i m with hlt | hge
    · refine br_f (nI_ge hlt (by omega)) ?_
      have IH := fun sets => ih (i + 1) sets (by omega) (by omega)
      simp only [qs] at IH
      rw [qy_hasIt hs (show i < 60 by omega) ((h s hs i hlt).trans (by rw [qS_o hst])), qy_hasIt ht (show i < 60 by omega) ((h t ht i hlt).trans (by rw [qS_i]))]
      simp only [qy_ix, qn_in (show 60 * t + i < 180 by omega) (show 180 < 2 ^ 31 by omega), nI_clamp (show 60 * t + i < 2 ^ 31 by omega), qI_0, qI_nar1, nI_1, forall_eq, true_and]
      cases h1 : S s i
      · rw [h1] at IH
        exact ⟨fun _ => IH sets (fun t' ht' q hq => by rw [h t' ht' q hq, qS_s (Or.inr (Or.inl h1))]), fun z => absurd rfl z⟩
      · rw [h1] at IH
        refine ⟨(fun z => nomatch z), fun _ => ?_⟩
        cases h2 : S t i
        · rw [h2] at IH
          exact ⟨fun _ => IH _ (qy_up hm hlt h h1), fun z => absurd rfl z⟩
        · rw [h2] at IH
          exact ⟨(fun z => nomatch z), fun _ => IH sets (fun t' ht' q hq => by rw [h t' ht' q hq, qS_s (Or.inr (Or.inr h2))])⟩
    · have e : i = m := by omega
      subst e
      exact br_t (nI_le (Nat.le_refl _) (by omega)) (K sets h)
theorem qy_pick32 {post : Int32 → SY → Prop} (hm : m ≤ 60) (ht : t < 3) (hmet : ∀ j, j < m → met j = qI (G j))
    (K : ∀ sets, (∀ t', t' < 3 → ∀ q, q < m → sets (60 * t' + q) = qI (qS_g S t G m t' q)) → post (nI (qs (fun j => (G j && !S t j).toNat) m)) (nI m, tl, ol, ups, los, cts, sets, met, pile, ty, oth, W)) :
    ∀ n i sets, i ≤ m → m - i < n → (∀ t', t' < 3 → ∀ q, q < m → sets (60 * t' + q) = qI (qS_g S t G i t' q)) → wY_pick_32 post (nI t) (nI m) tl ol n (nI (qs (fun j => (G j && !S t j).toNat) i)) (nI i) ups los cts sets met pile ty oth W := by
  intro n
  induction n with
  | zero => intro i sets hi hn; omega
  | succ n ih =>
    intro i sets hi hn h
    simp only [wY_pick_32]
    rcases Nat.lt_or_ge i m with hlt | hge
    · refine br_f (nI_ge hlt (by omega)) ?_
      have IH := fun sets => ih (i + 1) sets (by omega) (by omega)
      simp only [qs] at IH
      rw [qy_hasIt ht (show i < 60 by omega) ((h t ht i hlt).trans (by rw [qS_i]))]
      simp only [qy_ix, qn_in (show i < 60 by omega) (show 60 < 2 ^ 31 by omega), nI_clamp (show i < 2 ^ 31 by omega), hmet i hlt, qn_in (show 60 * t + i < 180 by omega) (show 180 < 2 ^ 31 by omega), nI_clamp (show 60 * t + i < 2 ^ 31 by omega), qI_0, qI_nar1, nI_1, forall_eq, true_and]
      cases h1 : G i
      · rw [h1] at IH
        exact ⟨fun _ => IH sets (fun t' ht' q hq => by rw [h t' ht' q hq, qS_s (Or.inr (Or.inl h1))]), fun z => absurd rfl z⟩
      · rw [h1] at IH
        refine ⟨(fun z => nomatch z), fun _ => ?_⟩
        cases h2 : S t i
        · rw [h2] at IH
          exact ⟨fun _ => IH _ (qy_up hm hlt h h1), fun z => absurd rfl z⟩
        · rw [h2] at IH
          exact ⟨(fun z => nomatch z), fun _ => IH sets (fun t' ht' q hq => by rw [h t' ht' q hq, qS_s (Or.inr (Or.inr h2))])⟩
    · have e : i = m := by omega
      subst e
      exact br_t (nI_le (Nat.le_refl _) (by omega)) (K sets h)
end
theorem i_vc_pull {k : Nat} {u : SX} {v : SY} (I : i_Rel k u v) (hk : k + 4 ≤ 2048) (v1 : Int32) (v2 : Int32) : wpX_pull (fun r u' => wpY_pull (fun r' v' => r' = r ∧ i_Rel (k + 4) u' v') v v1 v2) u v1 v2 := by
  obtain ⟨m, U, D, pl, C, S, P, N, pu, up, lo, ct, L, tx, ot, tl, ol, ups, los, cts, sets, met, pile, ty, oth, W, rfl, rfl, R, X, Y⟩ := I
  suffices H : ∀ Q : Int32 → SX → Int32 → SY → Prop, (∀ r u' v', i_Rel (k + 4) u' v' → Q r u' r v') → wpX_pull (fun r u' => wpY_pull (fun r' v' => Q r u' r' v') (nI m, tl, ol, ups, los, cts, sets, met, pile, ty, oth, W) v1 v2) (nI m, P, N, pu, up, lo, ct, L, tx, ot) v1 v2 from H (fun r u' r' v' => r' = r ∧ i_Rel (k + 4) u' v') (fun r u' v' h => ⟨rfl, h⟩)
  intro Q HQ
  obtain ⟨hm, hU, hD, hst, hsd, hN, hC⟩ := id R
  obtain ⟨hpu, hup, hlo, hct, hP⟩ := id X
  obtain ⟨hups, hlos, hcts, hS⟩ := id Y
  have J := q_rel (k := k + 4) (L := L) (tx := tx) (ot := ot) (tl := tl) (ol := ol) (met := met) (pile := pile) (ty := ty) (oth := oth) (W := W) R X Y
  rcases q_ix v1 (n := 3) (by omega) with b | ⟨s, hs, rfl⟩
  · simp only [wpX_pull, wpY_pull, qx_sb b, qy_sb b, qz_0, qz_1, true_implies, not_true, not_false_iff, false_implies, and_true, true_and]
    exact HQ _ _ _ J
  · rcases q_ix v2 (n := 3) (by omega) with b | ⟨t, ht, rfl⟩
    · simp only [wpX_pull, wpY_pull, qx_sg hs, qy_sg hs, qn_in hs (show 3 < 2 ^ 31 by omega), nI_clamp (show s < 2 ^ 31 by omega), qx_sb b, qy_sb b, qz_0, qz_1, true_implies, not_true, not_false_iff, false_implies, and_true, true_and]
      exact HQ _ _ _ J
    · simp only [wpX_pull, wpY_pull, qx_sg hs, qy_sg hs, qn_in hs (show 3 < 2 ^ 31 by omega), nI_clamp (show s < 2 ^ 31 by omega), qx_sg ht, qy_sg ht, qn_eq (show s < 2 ^ 31 by omega) (show t < 2 ^ 31 by omega), qz_0, qz_1, true_implies, not_true, not_false_iff, false_implies, and_true, true_and]
      by_cases e : s = t
      · simp only [e, qz_0, qz_1, true_implies, not_true, not_false_iff, false_implies, and_true, true_and]
        exact HQ _ _ _ J
      · simp only [e, qz_0, qz_1, true_implies, not_true, not_false_iff, false_implies, and_true, true_and]
        refine qx_give hm ht hP (hP s hs) ?_
        refine ⟨m + 1, qy_pull29 hm hs ht e (fun sets' hsets => ?_) (m + 1) 0 sets (by omega) (by omega) (fun t' ht' q hq => by rw [hS t' ht' q hq, qS_0])⟩
        exact HQ _ _ _ (q_rel (qR_give R (fun q hq h j hj => hC s hs q hq h j hj)) (qX_give X (hP s hs) ht) ⟨hups, hlos, hcts, hsets⟩)
theorem i_vc_pick {k : Nat} {u : SX} {v : SY} (I : i_Rel k u v) (hk : k + 4 ≤ 2048) (v1 : Int32) (v2 : Int32) : wpX_pick (fun r u' => wpY_pick (fun r' v' => r' = r ∧ i_Rel (k + 4) u' v') v v1 v2) u v1 v2 := by
  obtain ⟨m, U, D, pl, C, S, P, N, pu, up, lo, ct, L, tx, ot, tl, ol, ups, los, cts, sets, met, pile, ty, oth, W, rfl, rfl, R, X, Y⟩ := I
  suffices H : ∀ Q : Int32 → SX → Int32 → SY → Prop, (∀ r u' v', i_Rel (k + 4) u' v' → Q r u' r v') → wpX_pick (fun r u' => wpY_pick (fun r' v' => Q r u' r' v') (nI m, tl, ol, ups, los, cts, sets, met, pile, ty, oth, W) v1 v2) (nI m, P, N, pu, up, lo, ct, L, tx, ot) v1 v2 from H (fun r u' r' v' => r' = r ∧ i_Rel (k + 4) u' v') (fun r u' v' h => ⟨rfl, h⟩)
  intro Q HQ
  obtain ⟨hm, hU, hD, hst, hsd, hN, hC⟩ := id R
  obtain ⟨hpu, hup, hlo, hct, hP⟩ := id X
  obtain ⟨hups, hlos, hcts, hS⟩ := id Y
  have J := q_rel (k := k + 4) (L := L) (tx := tx) (ot := ot) (tl := tl) (ol := ol) (met := met) (pile := pile) (ty := ty) (oth := oth) (W := W) R X Y
  rcases q_ix v2 (n := 3) (by omega) with b | ⟨t, ht, rfl⟩
  · simp only [wpX_pick, wpY_pick, qx_sb b, qy_sb b, qz_0, qz_1, true_implies, not_true, not_false_iff, false_implies, and_true, true_and]
    exact HQ _ _ _ J
  · rcases q_ix v1 (n := m) (by omega) with b | ⟨p, hp, rfl⟩
    · simp only [wpX_pick, wpY_pick, qx_sg ht, qy_sg ht, qx_pb b, qy_pb b, qz_0, qz_1, true_implies, not_true, not_false_iff, false_implies, and_true, true_and]
      exact HQ _ _ _ J
    · simp only [wpX_pick, wpY_pick, qx_sg ht, qy_sg ht, qx_pg hm hp, qy_pg hm hp, qn_in (show p < 60 by omega) (show 60 < 2 ^ 31 by omega), nI_clamp (show p < 2 ^ 31 by omega), qx_only, forall_eq, qz_0, qz_1, true_implies, not_true, not_false_iff, false_implies, and_true, true_and]
      have hw : ∀ j, qb_t (N p ||| qb_on p) j = (decide (j < m) && (decide (j = p) || qb_t (N p) j)) := by
        intro j
        rw [qb_or, qb_one (by omega), Bool.or_comm]
        by_cases z : j < m
        · rw [decide_eq_true z, Bool.true_and]
        · rw [decide_eq_false z, Bool.false_and, decide_eq_false (show ¬ j = p by omega), Bool.false_or]
          cases h : qb_t (N p) j
          · rfl
          · have := qN_lt R p hp j h
            omega
      refine qx_give (G := fun j => decide (j = p) || qb_t (N p) j) hm ht hP hw ?_
      refine qy_gather R hups hlos hp (fun met' pile' hmet => ?_)
      refine ⟨m + 1, qy_pick32 (G := fun j => decide (j = p) || qb_t (N p) j) hm ht hmet (fun sets' hsets => ?_) (m + 1) 0 sets (by omega) (by omega) (fun t' ht' q hq => by rw [hS t' ht' q hq, qS_0])⟩
      refine HQ _ _ _ (q_rel (qR_give R (fun q hq h j hj => ?_)) (qX_give X hw ht) ⟨hups, hlos, hcts, hsets⟩)
      rw [Bool.or_eq_true] at h
      refine Or.inr ?_
      rcases h with h | h
      · rw [of_decide_eq_true h] at hj
        show (decide (j = p) || qb_t (N p) j) = true
        rw [hj, Bool.or_true]
      · show (decide (j = p) || qb_t (N p) j) = true
        rw [qN_tr R p hp q j h hj, Bool.or_true]
theorem i_vc_drop {k : Nat} {u : SX} {v : SY} (I : i_Rel k u v) (hk : k + 4 ≤ 2048) (v1 : Int32) (v2 : Int32) : wpX_drop (fun r u' => wpY_drop (fun r' v' => r' = r ∧ i_Rel (k + 4) u' v') v v1 v2) u v1 v2 := by
  obtain ⟨m, U, D, pl, C, S, P, N, pu, up, lo, ct, L, tx, ot, tl, ol, ups, los, cts, sets, met, pile, ty, oth, W, rfl, rfl, R, X, Y⟩ := I
  suffices H : ∀ Q : Int32 → SX → Int32 → SY → Prop, (∀ r u' v', i_Rel (k + 4) u' v' → Q r u' r v') → wpX_drop (fun r u' => wpY_drop (fun r' v' => Q r u' r' v') (nI m, tl, ol, ups, los, cts, sets, met, pile, ty, oth, W) v1 v2) (nI m, P, N, pu, up, lo, ct, L, tx, ot) v1 v2 from H (fun r u' r' v' => r' = r ∧ i_Rel (k + 4) u' v') (fun r u' v' h => ⟨rfl, h⟩)
  intro Q HQ
  obtain ⟨hm, hU, hD, hst, hsd, hN, hC⟩ := id R
  obtain ⟨hpu, hup, hlo, hct, hP⟩ := id X
  obtain ⟨hups, hlos, hcts, hS⟩ := id Y
  have J := q_rel (k := k + 4) (L := L) (tx := tx) (ot := ot) (tl := tl) (ol := ol) (met := met) (pile := pile) (ty := ty) (oth := oth) (W := W) R X Y
  rcases q_ix v1 (n := 3) (by omega) with b | ⟨s, hs, rfl⟩
  · simp only [wpX_drop, wpY_drop, qx_sb b, qy_sb b, qz_0, qz_1, true_implies, not_true, not_false_iff, false_implies, and_true, true_and]
    exact HQ _ _ _ J
  · rcases q_ix v2 (n := m) (by omega) with b | ⟨p, hp, rfl⟩
    · simp only [wpX_drop, wpY_drop, qx_sg hs, qy_sg hs, qn_in hs (show 3 < 2 ^ 31 by omega), nI_clamp (show s < 2 ^ 31 by omega), qx_pb b, qy_pb b, qz_0, qz_1, true_implies, not_true, not_false_iff, false_implies, and_true, true_and]
      exact HQ _ _ _ J
    · simp only [wpX_drop, wpY_drop, qx_sg hs, qy_sg hs, qn_in hs (show 3 < 2 ^ 31 by omega), nI_clamp (show s < 2 ^ 31 by omega), qx_pg hm hp, qy_pg hm hp, qx_isIn (show p < 64 by omega), q_hP hs hP p hp, qy_hasIt hs (show p < 60 by omega) (hS s hs p hp), qI_0, qz_0, qz_1, true_implies, not_true, not_false_iff, false_implies, and_true, true_and]
      cases h1 : S s p
      · simp only [qz_0, qz_1, true_implies, not_true, not_false_iff, false_implies, and_true, true_and]
        exact HQ _ _ _ J
      · simp only [reduceCtorEq, qz_0, qz_1, true_implies, not_true, not_false_iff, false_implies, and_true, true_and]
        refine qx_need hm hs (q_hP hs hP) (fun w hw => ?_)
        simp only [qx_isIn (show p < 64 by omega), hw p, qI_0]
        rw [qN_nd R hs p]
        cases h2 : qe (fun q => S s q && (decide (U q = some p) || decide (D q = some p))) m
        · simp only [reduceCtorEq, qx_only, forall_eq, qu_Ls, qz_0, qz_1, true_implies, not_true, not_false_iff, false_implies, and_true, true_and]
          refine qx_size ?_
          have hw2 : ∀ j, qb_t (P s &&& (qb_on p ^^^ (-1))) j = (decide (j < m) && (S s j && !decide (j = p))) := by
            intro j
            rw [qb_not, hP s hs j, qb_one (by omega), Bool.and_assoc]
          rw [q_60 (F := fun j => S s j && !decide (j = p)) hm hw2]
          refine qy_needed hm hs hp hups hlos hU hD hsd (hS s hs) ?_
          simp only [h2, qI_f, qy_ix, qn_in (show 60 * s + p < 180 by omega) (show 180 < 2 ^ 31 by omega), nI_clamp (show 60 * s + p < 2 ^ 31 by omega), qI_nar0, forall_eq, qz_0, qz_1, true_implies, not_true, not_false_iff, false_implies, and_true, true_and]
          have hS' : ∀ t, t < 3 → ∀ q, q < m → upd sets (60 * s + p) 0 (60 * t + q) = qI ((fun t q => S t q && !(decide (t = s) && decide (q = p))) t q) := by
            intro t ht q hq
            show _ = qI (S t q && !(decide (t = s) && decide (q = p)))
            by_cases e : t = s ∧ q = p
            · rw [e.1, e.2, qu_s, decide_eq_true rfl, decide_eq_true rfl]; simp [qI]
            · rw [qu_n (fun z => e (by omega)), hS t ht q hq]
              by_cases e1 : t = s
              · rw [decide_eq_false (show ¬ q = p from fun z => e ⟨e1, z⟩)]; simp
              · rw [decide_eq_false e1]; simp
          refine qy_count (Sg := fun j => S s j && !decide (j = p)) hm hs (fun q hq => by
            rw [hS' s hs q hq]
            show qI (S s q && !(decide (s = s) && decide (q = p))) = _
            rw [decide_eq_true rfl, Bool.true_and]) ?_
          refine HQ _ _ _ (q_rel (S := fun t q => S t q && !(decide (t = s) && decide (q = p))) ⟨hm, hU, hD, hst, hsd, hN, fun t ht q hq h j hj => ?_⟩ ⟨hpu, hup, hlo, hct, fun t ht j => ?_⟩ ⟨hups, hlos, hcts, hS'⟩)
          · have h : (S t q && !(decide (t = s) && decide (q = p))) = true := h
            rw [Bool.and_eq_true] at h
            show j = 0 ∨ (S t j && !(decide (t = s) && decide (j = p))) = true
            rcases hC t ht q hq h.1 j hj with z | z
            · exact Or.inl z
            · refine Or.inr ?_
              rw [z, Bool.true_and]
              by_cases e : t = s ∧ j = p
              · exfalso
                rw [← qN_nd R hs p] at h2
                have := qe_f.mp h2 q hq
                rw [← e.1, h.1, ← e.2, hj] at this
                cases this
              · by_cases e1 : t = s
                · rw [decide_eq_false (show ¬ j = p from fun z => e ⟨e1, z⟩)]; simp
                · rw [decide_eq_false e1]; simp
          · show _ = (decide (j < m) && (S t j && !(decide (t = s) && decide (j = p))))
            by_cases e1 : t = s
            · rw [e1, qu_Ls, hw2 j, decide_eq_true rfl, Bool.true_and]
            · rw [qu_Ln e1, hP t ht j, decide_eq_false e1]; simp
        · simp only [reduceCtorEq, qz_0, qz_1, true_implies, not_true, not_false_iff, false_implies, and_true, true_and]
          refine qy_needed hm hs hp hups hlos hU hD hsd (hS s hs) ?_
          simp only [h2, qI_t, qz_0, qz_1, true_implies, not_true, not_false_iff, false_implies, and_true, true_and]
          exact HQ _ _ _ J
end
section
/-! a new patch -/
def qv {α : Type} (f : Nat → α) (m : Nat) (x : α) : Nat → α := fun j => if j = m then x else f j
theorem qv_s {α : Type} {f : Nat → α} {m : Nat} {x : α} : qv f m x m = x := if_pos rfl
theorem qv_n {α : Type} {f : Nat → α} {m j : Nat} {x : α} (h : j ≠ m) : qv f m x j = f j := if_neg h
def qS_n (S : Nat → Nat → Bool) (m s : Nat) (t j : Nat) : Bool := if j = m then decide (t = s) else S t j
theorem qS_ns {S : Nat → Nat → Bool} {m s t : Nat} : qS_n S m s t m = decide (t = s) := if_pos rfl
theorem qS_nn {S : Nat → Nat → Bool} {m s t j : Nat} (h : j ≠ m) : qS_n S m s t j = S t j := if_neg h
def qn_m (N : Nat → Int64) (o : Option Nat) : Int64 := match o with | none => 0 | some a => N a ||| qb_on a
theorem qn_mt {N : Nat → Int64} {o : Option Nat} (ho : ∀ a, o = some a → a < 64) (j : Nat) : qb_t (qn_m N o) j = qn_th N o j := by
  cases o with
  | none => exact qb_0 j
  | some a =>
    show qb_t (N a ||| qb_on a) j = (qb_t (N a) j || decide (j = a))
    rw [qb_or, qb_one (ho a rfl)]
theorem qn_thc {N : Nat → Int64} {m : Nat} {x : Int64} {o : Option Nat} (ho : ∀ a, o = some a → a < m) (j : Nat) : qn_th (vp_updL N m x) o j = qn_th N o j := by
  cases o with
  | none => rfl
  | some a =>
    show (qb_t (vp_updL N m x a) j || decide (j = a)) = (qb_t (N a) j || decide (j = a))
    rw [qu_Ln (by have := ho a rfl; omega)]
section
variable {m s : Nat} {U D : Nat → Option Nat} {pl : Nat → Bool} {C : Nat → Int32} {S : Nat → Nat → Bool} {P N L : Nat → Int64} {pu up lo ct tx ot : Nat → Int32} {ups los cts sets met pile ty oth : Nat → Int32} {W : Nat → Int64} {mc tl ol : Int32} {o1 o2 : Option Nat} {b : Bool} {x : Int32}
theorem qR_make (R : qR m U D pl S N) (h60 : m < 60) (h1 : ∀ a, o1 = some a → a < m ∧ (a = 0 ∨ S s a = true)) (h2 : ∀ a, o2 = some a → a < m ∧ (a = 0 ∨ S s a = true)) (hb1 : b = false → ∃ a, o1 = some a) (hb2 : b = false → o2 = none) : qR (m + 1) (qv U m o1) (qv D m o2) (qv pl m b) (qS_n S m s) (vp_updL N m (qn_m N o1 ||| qn_m N o2)) := by
  obtain ⟨hm, hU, hD, hst, hsd, hN, hC⟩ := id R
  refine ⟨by omega, fun p hp a ha => ?_, fun p hp a ha => ?_, fun p hp hb => ?_, fun p hp hb => ?_, fun p hp j => ?_, fun t ht q hq h j hj => ?_⟩
  · by_cases e : p = m
    · rw [e, qv_s] at ha
      rw [e]; exact (h1 a ha).1
    · rw [qv_n e] at ha
      exact hU p (by omega) a ha
  · by_cases e : p = m
    · rw [e, qv_s] at ha
      rw [e]; exact (h2 a ha).1
    · rw [qv_n e] at ha
      exact hD p (by omega) a ha
  · by_cases e : p = m
    · rw [e, qv_s] at hb ⊢
      exact hb1 hb
    · rw [qv_n e] at hb ⊢
      exact hst p (by omega) hb
  · by_cases e : p = m
    · rw [e, qv_s] at hb ⊢
      exact hb2 hb
    · rw [qv_n e] at hb ⊢
      exact hsd p (by omega) hb
  · by_cases e : p = m
    · rw [e, qv_s, qv_s, qu_Ls, qb_or, qn_mt (fun a ha => by have := (h1 a ha).1; omega), qn_mt (fun a ha => by have := (h2 a ha).1; omega), qn_thc (fun a ha => (h1 a ha).1), qn_thc (fun a ha => (h2 a ha).1)]
    · have hp : p < m := by omega
      rw [qv_n e, qv_n e, qu_Ln e, hN p hp j, qn_thc (fun a ha => by have := hU p hp a ha; omega), qn_thc (fun a ha => by have := hD p hp a ha; omega)]
  · by_cases e : q = m
    · subst e
      rw [qS_ns] at h
      have ht : t = s := of_decide_eq_true h
      subst ht
      rw [qu_Ls, qb_or, qn_mt (fun a ha => by have := (h1 a ha).1; omega), qn_mt (fun a ha => by have := (h2 a ha).1; omega), Bool.or_eq_true] at hj
      have main : ∀ o, (∀ a, o = some a → a < q ∧ (a = 0 ∨ S t a = true)) → qn_th N o j = true → j = 0 ∨ qS_n S q t t j = true := by
        intro o ho hh
        cases o with
        | none => cases hh
        | some a =>
          have hh : (qb_t (N a) j || decide (j = a)) = true := hh
          rw [Bool.or_eq_true] at hh
          obtain ⟨l, z⟩ := ho a rfl
          rcases hh with hh | hh
          · have lj := qN_lt R a l j hh
            rw [qS_nn (by omega)]
            rcases z with z | z
            · omega
            · exact hC t ht a l z j hh
          · have e : j = a := of_decide_eq_true hh
            rw [e, qS_nn (by omega)]
            exact z
      rcases hj with hj | hj
      · exact main o1 h1 hj
      · exact main o2 h2 hj
    · have hq : q < m := by omega
      rw [qS_nn e] at h
      rw [qu_Ln e] at hj
      have lj := qN_lt R q hq j hj
      rw [qS_nn (by omega)]
      exact hC t ht q hq h j hj
theorem qX_make (X : qX m U D pl C S P pu up lo ct) (h60 : m < 60) (hs : s < 3) : qX (m + 1) (qv U m o1) (qv D m o2) (qv pl m b) (qv C m x) (qS_n S m s) (vp_updL P s (P s ||| qb_on m)) (upd pu m (qI b)) (upd up m (qo_X o1)) (upd lo m (qo_X o2)) (upd ct m x) := by
  obtain ⟨hpu, hup, hlo, hct, hP⟩ := id X
  refine ⟨fun p hp => ?_, fun p hp => ?_, fun p hp => ?_, fun p hp => ?_, fun t ht j => ?_⟩
  · by_cases e : p = m
    · rw [e, qu_s, qv_s]
    · rw [qu_n e, qv_n e, hpu p (by omega)]
  · by_cases e : p = m
    · rw [e, qu_s, qv_s]
    · rw [qu_n e, qv_n e, hup p (by omega)]
  · by_cases e : p = m
    · rw [e, qu_s, qv_s]
    · rw [qu_n e, qv_n e, hlo p (by omega)]
  · by_cases e : p = m
    · rw [e, qu_s, qv_s]
    · rw [qu_n e, qv_n e, hct p (by omega)]
  · have e0 : qb_t (vp_updL P s (P s ||| qb_on m) t) j = (qb_t (P t) j || (decide (t = s) && decide (j = m))) := by
      by_cases e : t = s
      · rw [e, qu_Ls, qb_or, qb_one (by omega), decide_eq_true rfl, Bool.true_and]
      · rw [qu_Ln e, decide_eq_false e, Bool.false_and, Bool.or_false]
    rw [e0, hP t ht j]
    by_cases e : j = m
    · rw [e, qS_ns, decide_eq_false (show ¬ m < m by omega), decide_eq_true (show m = m from rfl), decide_eq_true (show m < m + 1 by omega)]; simp
    · rw [qS_nn e, decide_eq_false e, show decide (j < m + 1) = decide (j < m) from decide_eq_decide.mpr (by omega)]; simp
theorem qY_make (Y : qY m U D pl C S ups los cts sets) (hS : ∀ t, t < 3 → ∀ q, q < m + 1 → met (60 * t + q) = qI (qS_n S m s t q)) : qY (m + 1) (qv U m o1) (qv D m o2) (qv pl m b) (qv C m x) (qS_n S m s) (upd ups m (qo_Y o1)) (upd los m (bif b then qo_Y o2 else -2)) (upd cts m x) met := by
  obtain ⟨hups, hlos, hcts, _⟩ := id Y
  refine ⟨fun p hp => ?_, fun p hp => ?_, fun p hp => ?_, hS⟩
  · by_cases e : p = m
    · rw [e, qu_s, qv_s]
    · rw [qu_n e, qv_n e, hups p (by omega)]
  · by_cases e : p = m
    · rw [e, qu_s, qv_s, qv_s]
    · rw [qu_n e, qv_n e, qv_n e, hlos p (by omega)]
  · by_cases e : p = m
    · rw [e, qu_s, qv_s]
    · rw [qu_n e, qv_n e, hcts p (by omega)]
theorem qx_nt {post : Int64 → Prop} {o : Option Nat} (ho : ∀ a, o = some a → a < 60) : wpX_needsThrough post (mc, P, N, pu, up, lo, ct, L, tx, ot) (qo_X o) = post (qn_m N o) := by
  cases o with
  | none => simp only [wpX_needsThrough, qo_Xn, qz_nn, qn_m, true_implies, not_true, false_implies, and_true]
  | some a =>
    have h := ho a rfl
    simp only [wpX_needsThrough, qo_Xs, qn_none (show a < 2 ^ 31 by omega), qn_in h (show 60 < 2 ^ 31 by omega), nI_clamp (show a < 2 ^ 31 by omega), qx_only, qn_m, not_false_iff, true_implies, false_implies, true_and]
theorem qx_make {post : Int32 → SX → Prop} (h60 : m < 60) (hs : s < 3) (h1 : ∀ a, o1 = some a → a < m) (h2 : ∀ a, o2 = some a → a < m)
    (K : post (nI m) (nI (m + 1), vp_updL P s (P s ||| qb_on m), vp_updL N m (qn_m N o1 ||| qn_m N o2), upd pu m (qI b), upd up m (qo_X o1), upd lo m (qo_X o2), upd ct m x, L, tx, ot)) :
    wpX_makePatch post (nI m, P, N, pu, up, lo, ct, L, tx, ot) (nI s) (qI b) (qo_X o1) (qo_X o2) x := by
  simp only [wpX_makePatch, qn_in h60 (show 60 < 2 ^ 31 by omega), nI_clamp (show m < 2 ^ 31 by omega), qn_in hs (show 3 < 2 ^ 31 by omega), nI_clamp (show s < 2 ^ 31 by omega), qI_nar, qx_nt (fun a ha => Nat.lt_trans (h1 a ha) h60), qx_nt (fun a ha => Nat.lt_trans (h2 a ha) h60), qx_only, nI_1, forall_eq, true_and]
  exact K
theorem qy_mk46 {post : Int32 → SY → Prop} (h60 : m < 60) (hs : s < 3)
    (K : ∀ sets, (∀ t, t < 3 → ∀ q, q < m + 1 → sets (60 * t + q) = qI (qS_n S m s t q)) → post (nI m) (nI (m + 1), tl, ol, ups, los, cts, sets, met, pile, ty, oth, W)) :
    ∀ n t sets, t ≤ 3 → 3 - t < n → (∀ t, t < 3 → ∀ q, q < m → sets (60 * t + q) = qI (S t q)) → (∀ t', t' < t → sets (60 * t' + m) = qI (decide (t' = s))) → wY_make_46 post (nI s) (nI m) tl ol n (nI t) ups los cts sets met pile ty oth W := by
  intro n
  induction n with
  | zero => intro t sets ht hn; omega
  | succ n ih =>
    intro t sets ht hn h0 h1
    simp only [wY_make_46]
    rcases Nat.lt_or_ge t 3 with hlt | hge
    · refine br_f (nI_ge (b := 3) hlt (by decide)) ?_
      simp only [qy_ix, qn_in (show 60 * t + m < 180 by omega) (show 180 < 2 ^ 31 by omega), nI_clamp (show 60 * t + m < 2 ^ 31 by omega), qn_eq (show t < 2 ^ 31 by omega) (show s < 2 ^ 31 by omega), qI_nar1, qI_nar0, nI_1, forall_eq, true_and]
      have main : ∀ v, v = qI (decide (t = s)) → wY_make_46 post (nI s) (nI m) tl ol n (nI (t + 1)) ups los cts (upd sets (60 * t + m) v) met pile ty oth W := by
        intro v hv
        refine ih (t + 1) _ (by omega) (by omega) (fun t' ht' q hq => ?_) (fun t' ht' => ?_)
        · rw [qu_n (by omega)]; exact h0 t' ht' q hq
        · by_cases e : t' = t
          · rw [e, qu_s, hv]
          · rw [qu_n (by omega)]; exact h1 t' (by omega)
      exact br_c (fun e => main 1 (by rw [decide_eq_true e]; rfl)) (fun e => main 0 (by rw [decide_eq_false e]; rfl))
    · have e : t = 3 := by omega
      subst e
      refine br_t (nI_le (b := 3) (Nat.le_refl _) (by decide)) ?_
      simp only [nI_1, forall_eq, nI_pred]
      refine K sets (fun t ht q hq => ?_)
      by_cases e : q = m
      · rw [e, qS_ns]; exact h1 t ht
      · rw [qS_nn e]; exact h0 t ht q (by omega)
theorem qy_make {post : Int32 → SY → Prop} {u l : Int32} (hm : m ≤ 60) (hs : s < 3) (hS : ∀ t, t < 3 → ∀ q, q < m → sets (60 * t + q) = qI (S t q))
    (K1 : m < 60 → ∀ sets, (∀ t, t < 3 → ∀ q, q < m + 1 → sets (60 * t + q) = qI (qS_n S m s t q)) → post (nI m) (nI (m + 1), tl, ol, upd ups m u, upd los m l, upd cts m x, sets, met, pile, ty, oth, W))
    (K0 : m = 60 → post (-1000000002) (nI m, tl, ol, ups, los, cts, sets, met, pile, ty, oth, W)) : wpY_make post (nI m, tl, ol, ups, los, cts, sets, met, pile, ty, oth, W) (nI s) u l x := by
  simp only [wpY_make, qn_60, qn_eq (show m < 2 ^ 31 by omega) (show 60 < 2 ^ 31 by omega)]
  refine br_c K0 (fun e => ?_)
  have h60 : m < 60 := by omega
  simp only [qn_in h60 (show 60 < 2 ^ 31 by omega), nI_clamp (show m < 2 ^ 31 by omega), forall_eq, true_and]
  exact ⟨4, qy_mk46 h60 hs (K1 h60) 4 0 sets (by omega) (by omega) hS (fun t' ht' => by omega)⟩
theorem qd_TS {Sg : Nat → Bool} (k : Nat) : qd_T m U D pl Sg k = 0 ∨ Sg (qd_T m U D pl Sg k) = true := by
  rcases qt_Ts (m := m) (W := qw_W m U D pl Sg) (l := qt_op m U pl Sg) k with h | h
  · refine Or.inr ?_
    have e := h.2
    unfold qt_op at e
    rw [Bool.and_eq_true, Bool.and_eq_true, Bool.and_eq_true] at e
    exact e.1.2.1
  · exact Or.inl h
/-! put -/
def qk_1 (T : Nat → Nat) (j : Nat) : Option Nat := match j with | 0 => none | j + 1 => some (T j)
def qk_2 (T : Nat → Nat) (n j : Nat) : Option Nat := if j = n then none else some (T j)
theorem qk_b {T : Nat → Nat} {n j : Nat} {A : Nat → Prop} (hj : j ≤ n) (h : ∀ i, i < n → A (T i)) : (∀ a, qk_1 T j = some a → A a) ∧ (∀ a, qk_2 T n j = some a → A a) := by
  constructor
  · intro a ha
    cases j with
    | zero => cases ha
    | succ j =>
      have e : T j = a := Option.some.inj ha
      rw [← e]; exact h j (by omega)
  · intro a ha
    unfold qk_2 at ha
    by_cases e : j = n
    · rw [if_pos e] at ha; cases ha
    · rw [if_neg e] at ha
      have e : T j = a := Option.some.inj ha
      rw [← e]; exact h j (by omega)
theorem qx_putk {post : Int32 → SX → Prop} {T : Nat → Nat} {n j : Nat} (h60 : m < 60) (hs : s < 3) (hn : n ≤ m) (hj : j ≤ n) (ht : ∀ i, i < n → tx i = nI (T i)) (hT : ∀ i, i < n → T i < m)
    (K : post (nI m) (nI (m + 1), vp_updL P s (P s ||| qb_on m), vp_updL N m (qn_m N (qk_1 T j) ||| qn_m N (qk_2 T n j)), upd pu m (qI true), upd up m (qo_X (qk_1 T j)), upd lo m (qo_X (qk_2 T n j)), upd ct m x, L, tx, ot)) :
    (nI j = 0 → wX_put_63 post (nI s) (nI j) x (nI n) (-1000000003) (nI m) P N pu up lo ct L tx ot) ∧ (¬ nI j = 0 → (vp_in (nI j - 1) 60 ∧ wX_put_63 post (nI s) (nI j) x (nI n) (tx (nI j - 1).toNatClampNeg) (nI m) P N pu up lo ct L tx ot)) := by
  have B := qk_b (A := fun a => a < m) hj hT
  have main : wX_put_63 post (nI s) (nI j) x (nI n) (qo_X (qk_1 T j)) (nI m) P N pu up lo ct L tx ot := by
    simp only [wX_put_63, wX_put_82, qn_eq (show j < 2 ^ 31 by omega) (show n < 2 ^ 31 by omega)]
    refine br_c (fun e => ?_) (fun e => ⟨vp_in_nI (by omega) (by omega), ?_⟩)
    · have h2 : qk_2 T n j = none := if_pos e
      rw [h2] at K
      exact qx_make (b := true) (o2 := none) h60 hs B.1 (fun a ha => nomatch ha) K
    · have h2 : qk_2 T n j = some (T j) := if_neg e
      rw [h2] at K
      rw [nI_clamp (by omega), ht j (by omega)]
      exact qx_make (b := true) (o2 := some (T j)) h60 hs B.1 (fun a ha => by rw [← Option.some.inj ha]; exact hT j (by omega)) K
  cases j with
  | zero => exact br_t rfl main
  | succ j =>
    refine br_f (nI_ne0 (by omega) (by omega)) ?_
    rw [nI_pred, nI_clamp (by omega), ht j (by omega)]
    exact ⟨vp_in_nI (by omega) (by omega), main⟩
theorem qy_putk {post : Int32 → SY → Prop} {T : Nat → Nat} {n j : Nat} (hm : m ≤ 60) (hs : s < 3) (hn : n ≤ m) (hj : j ≤ n) (hS : ∀ t, t < 3 → ∀ q, q < m → sets (60 * t + q) = qI (S t q)) (ht : ∀ i, i < n → ty i = nI (T i)) (hT : ∀ i, i < n → T i < m)
    (K1 : m < 60 → ∀ sets, (∀ t, t < 3 → ∀ q, q < m + 1 → sets (60 * t + q) = qI (qS_n S m s t q)) → post (nI m) (nI (m + 1), nI n, ol, upd ups m (qo_Y (qk_1 T j)), upd los m (qo_Y (qk_2 T n j)), upd cts m x, sets, met, pile, ty, oth, W))
    (K0 : m = 60 → post (-1000000002) (nI m, nI n, ol, ups, los, cts, sets, met, pile, ty, oth, W)) :
    (nI j ≤ 0 → wY_put_49 post (nI j) x (-1) (nI s) (nI m) (nI n) ol ups los cts sets met pile ty oth W) ∧ (¬ nI j ≤ 0 → (vp_in (nI j - 1) 60 ∧ wY_put_49 post (nI j) x (ty (nI j - 1).toNatClampNeg) (nI s) (nI m) (nI n) ol ups los cts sets met pile ty oth W)) := by
  have main : wY_put_49 post (nI j) x (qo_Y (qk_1 T j)) (nI s) (nI m) (nI n) ol ups los cts sets met pile ty oth W := by
    simp only [wY_put_49, wY_put_67, qn_le (show n < 2 ^ 31 by omega) (show j < 2 ^ 31 by omega)]
    refine br_c (fun e => ?_) (fun e => ⟨vp_in_nI (by omega) (by omega), ?_⟩)
    · have h2 : qk_2 T n j = none := if_pos (by omega)
      rw [h2] at K1
      exact qy_make hm hs hS K1 K0
    · have h2 : qk_2 T n j = some (T j) := if_neg (by omega)
      rw [h2] at K1
      rw [nI_clamp (by omega), ht j (by omega)]
      exact qy_make hm hs hS K1 K0
  cases j with
  | zero => exact br_t (nI_le (b := 0) (Nat.le_refl _) (by decide)) main
  | succ j =>
    refine br_f (nI_nle (by omega) (by omega)) ?_
    rw [nI_pred, nI_clamp (by omega), ht j (by omega)]
    exact ⟨vp_in_nI (by omega) (by omega), main⟩
end
theorem i_vc_put {k : Nat} {u : SX} {v : SY} (I : i_Rel k u v) (hk : k + 4 ≤ 2048) (v1 : Int32) (v2 : Int32) (v3 : Int32) : wpX_put (fun r u' => wpY_put (fun r' v' => r' = r ∧ i_Rel (k + 4) u' v') v v1 v2 v3) u v1 v2 v3 := by
  obtain ⟨m, U, D, pl, C, S, P, N, pu, up, lo, ct, L, tx, ot, tl, ol, ups, los, cts, sets, met, pile, ty, oth, W, rfl, rfl, R, X, Y⟩ := I
  suffices H : ∀ Q : Int32 → SX → Int32 → SY → Prop, (∀ r u' v', i_Rel (k + 4) u' v' → Q r u' r v') → wpX_put (fun r u' => wpY_put (fun r' v' => Q r u' r' v') (nI m, tl, ol, ups, los, cts, sets, met, pile, ty, oth, W) v1 v2 v3) (nI m, P, N, pu, up, lo, ct, L, tx, ot) v1 v2 v3 from H (fun r u' r' v' => r' = r ∧ i_Rel (k + 4) u' v') (fun r u' v' h => ⟨rfl, h⟩)
  intro Q HQ
  obtain ⟨hm, hU, hD, hst, hsd, hN, hC⟩ := id R
  obtain ⟨hpu, hup, hlo, hct, hP⟩ := id X
  obtain ⟨hups, hlos, hcts, hS⟩ := id Y
  have J := q_rel (k := k + 4) (L := L) (tx := tx) (ot := ot) (tl := tl) (ol := ol) (met := met) (pile := pile) (ty := ty) (oth := oth) (W := W) R X Y
  rcases q_ix v1 (n := 3) (by omega) with b | ⟨s, hs, rfl⟩
  · simp only [wpX_put, wpY_put, qx_sb b, qy_sb b, qz_0, qz_1, true_implies, not_true, not_false_iff, false_implies, and_true, true_and]
    exact HQ _ _ _ J
  · have hc := qd_nm m U pl (S s)
    have hT : ∀ i, i < qd_n m U pl (S s) → qd_T m U D pl (S s) i < m := fun i hi => qd_Tm hi
    simp only [wpX_put, wpY_put, qx_sg hs, qy_sg hs, qn_in hs (show 3 < 2 ^ 31 by omega), nI_clamp (show s < 2 ^ 31 by omega), qz_0, qz_1, true_implies, not_true, not_false_iff, false_implies, and_true, true_and]
    refine qx_text hm hs hpu hup hlo hU hD hst (q_hP hs hP) (fun L' tx' hL ht => ?_)
    by_cases h0 : v2 < 0
    · simp only [h0, qz_0, qz_1, true_implies, not_true, not_false_iff, false_implies, and_true, true_and]
      refine qy_text hm hs hups hlos hU hD (hS s hs) (fun met' ty' W' hW hty => ?_)
      exact HQ _ _ _ (q_rel R X Y)
    · obtain ⟨j, hj31, rfl⟩ := nI_of h0
      by_cases hj : j ≤ qd_n m U pl (S s)
      · have h1 : (nI j ≤ nI (qd_n m U pl (S s))) = True := eq_true (nI_le hj (by omega))
        simp only [qn_neg hj31, h1, qn_60, qn_lt (show m < 2 ^ 31 by omega) (show 60 < 2 ^ 31 by omega), qz_0, qz_1, true_implies, not_true, not_false_iff, false_implies, and_true, true_and]
        have B := qk_b (T := qd_T m U D pl (S s)) (A := fun a => a < m ∧ (a = 0 ∨ S s a = true)) hj (fun i hi => ⟨hT i hi, qd_TS i⟩)
        refine br_c (fun h60 => ?_) (fun h60 => ?_)
        · refine qx_putk (T := qd_T m U D pl (S s)) h60 hs hc hj ht hT ?_
          refine qy_text hm hs hups hlos hU hD (hS s hs) (fun met' ty' W' hW hty => ?_)
          simp only [h1, qz_0, qz_1, true_implies, not_true, not_false_iff, false_implies, and_true, true_and]
          refine qy_putk (T := qd_T m U D pl (S s)) hm hs hc hj hS hty hT (fun _ sets' hsets => ?_) (fun e => by omega)
          exact HQ _ _ _ (q_rel (qR_make (b := true) R h60 B.1 B.2 (fun z => nomatch z) (fun z => nomatch z)) (qX_make X h60 hs) (qY_make Y hsets))
        · refine qy_text hm hs hups hlos hU hD (hS s hs) (fun met' ty' W' hW hty => ?_)
          simp only [h1, qz_0, qz_1, true_implies, not_true, not_false_iff, false_implies, and_true, true_and]
          refine qy_putk (T := qd_T m U D pl (S s)) hm hs hc hj hS hty hT (fun e => absurd e h60) (fun _ => ?_)
          exact HQ _ _ _ (q_rel R X Y)
      · have h1 : (nI j ≤ nI (qd_n m U pl (S s))) = False := eq_false (nI_ge (by omega) hj31)
        simp only [qn_neg hj31, h1, qz_0, qz_1, true_implies, not_true, not_false_iff, false_implies, and_true, true_and]
        refine qy_text hm hs hups hlos hU hD (hS s hs) (fun met' ty' W' hW hty => ?_)
        simp only [h1, qz_0, qz_1, true_implies, not_true, not_false_iff, false_implies, and_true, true_and]
        exact HQ _ _ _ (q_rel R X Y)
end
section
/-! strike -/
theorem i_vc_strike {k : Nat} {u : SX} {v : SY} (I : i_Rel k u v) (hk : k + 4 ≤ 2048) (v1 : Int32) (v2 : Int32) : wpX_strike (fun r u' => wpY_strike (fun r' v' => r' = r ∧ i_Rel (k + 4) u' v') v v1 v2) u v1 v2 := by
  obtain ⟨m, U, D, pl, C, S, P, N, pu, up, lo, ct, L, tx, ot, tl, ol, ups, los, cts, sets, met, pile, ty, oth, W, rfl, rfl, R, X, Y⟩ := I
  suffices H : ∀ Q : Int32 → SX → Int32 → SY → Prop, (∀ r u' v', i_Rel (k + 4) u' v' → Q r u' r v') → wpX_strike (fun r u' => wpY_strike (fun r' v' => Q r u' r' v') (nI m, tl, ol, ups, los, cts, sets, met, pile, ty, oth, W) v1 v2) (nI m, P, N, pu, up, lo, ct, L, tx, ot) v1 v2 from H (fun r u' r' v' => r' = r ∧ i_Rel (k + 4) u' v') (fun r u' v' h => ⟨rfl, h⟩)
  intro Q HQ
  obtain ⟨hm, hU, hD, hst, hsd, hN, hC⟩ := id R
  obtain ⟨hpu, hup, hlo, hct, hP⟩ := id X
  obtain ⟨hups, hlos, hcts, hS⟩ := id Y
  have J := q_rel (k := k + 4) (L := L) (tx := tx) (ot := ot) (tl := tl) (ol := ol) (met := met) (pile := pile) (ty := ty) (oth := oth) (W := W) R X Y
  rcases q_ix v1 (n := 3) (by omega) with b | ⟨s, hs, rfl⟩
  · simp only [wpX_strike, wpY_strike, qx_sb b, qy_sb b, qz_0, qz_1, true_implies, not_true, not_false_iff, false_implies, and_true, true_and]
    exact HQ _ _ _ J
  · have hc := qd_nm m U pl (S s)
    simp only [wpX_strike, wpY_strike, qx_sg hs, qy_sg hs, qn_in hs (show 3 < 2 ^ 31 by omega), nI_clamp (show s < 2 ^ 31 by omega), qz_0, qz_1, true_implies, not_true, not_false_iff, false_implies, and_true, true_and]
    refine qx_text hm hs hpu hup hlo hU hD hst (q_hP hs hP) (fun L' tx' hL ht => ?_)
    rcases q_ix v2 (n := qd_n m U pl (S s)) (by omega) with b | ⟨j, hj, rfl⟩
    · by_cases h0 : v2 < 0
      · simp only [h0, qz_0, qz_1, true_implies, not_true, not_false_iff, false_implies, and_true, true_and]
        refine qy_text hm hs hups hlos hU hD (hS s hs) (fun met' ty' W' hW hty => ?_)
        exact HQ _ _ _ (q_rel R X Y)
      · have h2 : ¬ v2 < nI (qd_n m U pl (S s)) := Int32.not_lt.mpr (b.resolve_left h0)
        simp only [h0, h2, qz_0, qz_1, true_implies, not_true, not_false_iff, false_implies, and_true, true_and]
        refine qy_text hm hs hups hlos hU hD (hS s hs) (fun met' ty' W' hW hty => ?_)
        simp only [h2, qz_0, qz_1, true_implies, not_true, not_false_iff, false_implies, and_true, true_and]
        exact HQ _ _ _ (q_rel R X Y)
    · have hT := qd_Tm (D := D) hj
      have h2 : (nI j < nI (qd_n m U pl (S s))) = True := eq_true (nI_lt hj (by omega))
      simp only [qn_neg (show j < 2 ^ 31 by omega), h2, qn_in (show j < 60 by omega) (show 60 < 2 ^ 31 by omega), nI_clamp (show j < 2 ^ 31 by omega), ht j hj, qn_60, qn_lt (show m < 2 ^ 31 by omega) (show 60 < 2 ^ 31 by omega), qz_0, qz_1, true_implies, not_true, not_false_iff, false_implies, and_true, true_and]
      refine br_c (fun h60 => ?_) (fun h60 => ?_)
      · refine qx_make (o1 := some (qd_T m U D pl (S s) j)) (o2 := none) (b := false) h60 hs (fun a ha => by rw [← Option.some.inj ha]; exact hT) (fun a ha => nomatch ha) ?_
        refine qy_text hm hs hups hlos hU hD (hS s hs) (fun met' ty' W' hW hty => ?_)
        simp only [h2, hty j hj, qz_0, qz_1, true_implies, not_true, not_false_iff, false_implies, and_true, true_and]
        refine qy_make hm hs hS (fun _ sets' hsets => ?_) (fun e => by omega)
        exact HQ _ _ _ (q_rel (qR_make (o1 := some (qd_T m U D pl (S s) j)) (o2 := none) (b := false) R h60 (fun a ha => by rw [← Option.some.inj ha]; exact ⟨hT, qd_TS j⟩) (fun a ha => nomatch ha) (fun _ => ⟨_, rfl⟩) (fun _ => rfl)) (qX_make X h60 hs) (qY_make Y hsets))
      · refine qy_text hm hs hups hlos hU hD (hS s hs) (fun met' ty' W' hW hty => ?_)
        simp only [h2, hty j hj, qz_0, qz_1, true_implies, not_true, not_false_iff, false_implies, and_true, true_and]
        refine qy_make hm hs hS (fun e => absurd e h60) (fun _ => ?_)
        exact HQ _ _ _ (q_rel R X Y)
end
