/-! ways: the masks that both sides work out in the same order; they are compared below m alone -/
def qq (m : Nat) (L M : Nat → Int64) : Prop := ∀ i, i < m → L i = M i
theorem qq_u {m a : Nat} {L M : Nat → Int64} {x y : Int64} (h : qq m L M) (e : x = y) : qq m (vp_updL L a x) (vp_updL M a y) := by
  intro i hi
  unfold vp_updL
  rw [h i hi, e]
def qw_a (o : Option Nat) (L : Nat → Int64) (p : Nat) : Nat → Int64 := match o with | none => L | some a => vp_updL L a (L a ||| qb_on p)
def qw_b (o : Option Nat) (L : Nat → Int64) (p : Nat) : Nat → Int64 := match o with | none => L | some b => vp_updL L p (L p ||| qb_on b)
def qw_st (U D : Nat → Option Nat) (pl Sg : Nat → Bool) (L : Nat → Int64) (p : Nat) : Nat → Int64 := bif (pl p && Sg p) then qw_b (D p) (qw_a (U p) L p) p else L
def qw_fs (U D : Nat → Option Nat) (pl Sg : Nat → Bool) : Nat → Nat → Int64
  | 0 => fun _ => 0
  | p + 1 => qw_st U D pl Sg (qw_fs U D pl Sg p) p
def qw_ws (L : Nat → Int64) (k a : Nat) : Nat → Int64 := bif qb_t (L a) k then vp_updL L a (L a ||| L k) else L
def qw_wi (L : Nat → Int64) (k : Nat) : Nat → Nat → Int64
  | 0 => L
  | a + 1 => qw_ws (qw_wi L k a) k a
def qw_wo (m : Nat) (L : Nat → Int64) : Nat → Nat → Int64
  | 0 => L
  | k + 1 => qw_wi (qw_wo m L k) k m
def qw_W (m : Nat) (U D : Nat → Option Nat) (pl Sg : Nat → Bool) : Nat → Int64 := qw_wo m (qw_fs U D pl Sg m) m
theorem qq_a {m p : Nat} {o : Option Nat} {L M : Nat → Int64} (h : qq m L M) (ho : ∀ a, o = some a → a < m) : qq m (qw_a o L p) (qw_a o M p) := by
  cases o with
  | none => exact h
  | some a => exact qq_u h (by rw [h a (ho a rfl)])
theorem qq_b {m p : Nat} {o : Option Nat} {L M : Nat → Int64} (h : qq m L M) (hp : p < m) : qq m (qw_b o L p) (qw_b o M p) := by
  cases o with
  | none => exact h
  | some b => exact qq_u h (by rw [h p hp])
theorem qq_st {m p : Nat} {U D : Nat → Option Nat} {pl Sg : Nat → Bool} {L M : Nat → Int64} (h : qq m L M) (hp : p < m) (ho : ∀ a, U p = some a → a < p) : qq m (qw_st U D pl Sg L p) (qw_st U D pl Sg M p) := by
  unfold qw_st
  cases pl p && Sg p
  · exact h
  · exact qq_b (qq_a h (fun a ha => Nat.lt_trans (ho a ha) hp)) hp
theorem qq_ws {m k a : Nat} {L M : Nat → Int64} (h : qq m L M) (hk : k < m) (ha : a < m) : qq m (qw_ws L k a) (qw_ws M k a) := by
  unfold qw_ws
  rw [h a ha, h k hk]
  cases qb_t (M a) k
  · exact h
  · exact qq_u h rfl
/-! the text -/
def qt_bef (W : Nat → Int64) (b a : Nat) : Bool := qb_t (W b) a && !qb_t (W a) b
def qt_fr (m : Nat) (W : Nat → Int64) (l : Nat → Bool) (a : Nat) : Bool := l a && !qe (fun b => l b && qt_bef W b a) m
def qt_nx (m : Nat) (W : Nat → Int64) (l : Nat → Bool) : Nat := qf (qt_fr m W l) m 0
def qt_lf (m : Nat) (W : Nat → Int64) (l : Nat → Bool) : Nat → Nat → Bool
  | 0 => l
  | k + 1 => fun j => qt_lf m W l k j && !decide (j = qt_nx m W (qt_lf m W l k))
def qt_T (m : Nat) (W : Nat → Int64) (l : Nat → Bool) (k : Nat) : Nat := qt_nx m W (qt_lf m W l k)
def qt_op (m : Nat) (U : Nat → Option Nat) (pl Sg : Nat → Bool) (j : Nat) : Bool := (decide (j < m) && (Sg j && pl j)) && !qe (fun q => Sg q && (!pl q && decide (U q = some j))) m
def qt_n (m : Nat) (l : Nat → Bool) : Nat := qs (fun i => (l i).toNat) m
theorem qt_nxc {m : Nat} {L W : Nat → Int64} {l l' : Nat → Bool} (h : qq m L W) (hl : ∀ j, j < m → l j = l' j) : qt_nx m L l = qt_nx m W l' := by
  unfold qt_nx
  apply qf_congr
  intro j hj
  have hj : j < m := by omega
  unfold qt_fr
  rw [hl j hj, qe_congr m (fun b hb => by
    show (l b && qt_bef L b j) = (l' b && qt_bef W b j)
    unfold qt_bef
    rw [hl b hb, h b hb, h j hj])]
theorem qt_nl (m : Nat) (l : Nat → Bool) : qt_n m l ≤ m := qs_le m
theorem qt_lfs {m : Nat} {W : Nat → Int64} {l : Nat → Bool} : ∀ k j, qt_lf m W l k j = true → l j = true := by
  intro k
  induction k with
  | zero => intro j h; exact h
  | succ k ih =>
    intro j h
    have h : (qt_lf m W l k j && !decide (j = qt_nx m W (qt_lf m W l k))) = true := h
    rw [Bool.and_eq_true] at h
    exact ih j h.1
theorem qt_Ts {m : Nat} {W : Nat → Int64} {l : Nat → Bool} (k : Nat) : qt_T m W l k < m ∧ l (qt_T m W l k) = true ∨ qt_T m W l k = 0 := by
  rcases qf_lt (F := qt_fr m W (qt_lf m W l k)) m 0 with h | h
  · refine Or.inl ⟨by have := h.1; unfold qt_T qt_nx; omega, qt_lfs (m := m) (W := W) k _ ?_⟩
    have e := h.2
    unfold qt_fr at e
    rw [Bool.and_eq_true] at e
    exact e.1
  · exact Or.inr h
theorem qt_Tm {m : Nat} {W : Nat → Int64} {l : Nat → Bool} {k : Nat} (hk : k < qt_n m l) : qt_T m W l k < m := by
  have := qt_nl m l
  rcases qt_Ts (m := m) (W := W) (l := l) k with h | h
  · exact h.1
  · omega
