/-! X: the text -/
def qd_n (m : Nat) (U : Nat → Option Nat) (pl Sg : Nat → Bool) : Nat := qt_n m (qt_op m U pl Sg)
def qd_T (m : Nat) (U D : Nat → Option Nat) (pl Sg : Nat → Bool) (k : Nat) : Nat := qt_T m (qw_W m U D pl Sg) (qt_op m U pl Sg) k
theorem qd_nm (m : Nat) (U : Nat → Option Nat) (pl Sg : Nat → Bool) : qd_n m U pl Sg ≤ m := qt_nl m _
theorem qd_Tm {m : Nat} {U D : Nat → Option Nat} {pl Sg : Nat → Bool} {k : Nat} (hk : k < qd_n m U pl Sg) : qd_T m U D pl Sg k < m := qt_Tm hk
theorem qd_l1 {x : Int64} {p : Nat} {F : Nat → Bool} (hx : ∀ j, qb_t x j = (decide (j < p) && F j)) (h : F p = false) : ∀ j, qb_t x j = (decide (j < p + 1) && F j) := by
  intro j
  rw [hx j]
  by_cases z : j = p
  · rw [z, h, Bool.and_false, Bool.and_false]
  · rw [show decide (j < p + 1) = decide (j < p) from decide_eq_decide.mpr (by omega)]
theorem qd_l2 {x : Int64} {p : Nat} {F : Nat → Bool} (hp : p < 64) (hx : ∀ j, qb_t x j = (decide (j < p) && F j)) (h : F p = true) : ∀ j, qb_t (x ||| qb_on p) j = (decide (j < p + 1) && F j) := by
  intro j
  rw [qb_or, hx j, qb_one hp]
  by_cases z : j = p
  · rw [z, h]; simp
  · rw [show decide (j < p + 1) = decide (j < p) from decide_eq_decide.mpr (by omega), decide_eq_false z, Bool.or_false]
section
variable {m s : Nat} {U D : Nat → Option Nat} {pl Sg : Nat → Bool} {P N L : Nat → Int64} {pu up lo ct tx ot : Nat → Int32}
theorem qx_lns8 {post : Int64 → Prop} (hm : m ≤ 60) (hs : s < 3) (hpu : ∀ p, p < m → pu p = qI (pl p)) (hup : ∀ p, p < m → up p = qo_X (U p)) (hU : ∀ p, p < m → ∀ a, U p = some a → a < p) (hst : ∀ p, p < m → pl p = false → ∃ a, U p = some a) (hP : ∀ j, j < m → qb_t (P s) j = Sg j)
    (K : ∀ w, (∀ j, qb_t w j = qt_op m U pl Sg j) → post w) :
    ∀ n p x y, p ≤ m → m - p < n → (∀ j, qb_t x j = (decide (j < p) && (Sg j && pl j))) → (∀ j, qb_t y j = qe (fun q => Sg q && (!pl q && decide (U q = some j))) p) → wX_linesNotStruck_8 post (nI s) (nI m) P N pu up lo ct L tx ot n x y (nI p) := by
  intro n
  induction n with
  | zero => intro p x y hp hn; omega
  | succ n ih =>
    intro p x y hp hn hx hy
    simp only [wX_linesNotStruck_8]
    rcases Nat.lt_or_ge p m with hlt | hge
    · refine br_f (nI_ge hlt (by omega)) ?_
      have fi : vp_in (nI p) 60 = True := qn_in (by omega) (by omega)
      have fs : vp_in (nI s) 3 = True := qn_in (by omega) (by omega)
      simp only [fi, fs, nI_clamp (show p < 2 ^ 31 by omega), nI_clamp (show s < 2 ^ 31 by omega), hpu p hlt, hup p hlt, hP p hlt, qx_isIn (show p < 64 by omega), qx_only, qI_0, nI_1, forall_eq, true_and]
      cases h2 : Sg p
      · refine ⟨fun _ => ih (p + 1) x y (by omega) (by omega) (qd_l1 (F := fun j => Sg j && pl j) hx (by simp [h2])) (fun j => ?_), fun z => absurd rfl z⟩
        rw [hy j]; simp [qe, h2]
      · refine ⟨(fun z => nomatch z), fun _ => ?_⟩
        cases h1 : pl p
        · refine ⟨fun _ => ?_, fun z => absurd rfl z⟩
          obtain ⟨a, h3⟩ := hst p hlt h1
          have ha := hU p hlt a h3
          simp only [h3, qo_Xs, qx_only]
          refine ih (p + 1) x _ (by omega) (by omega) (qd_l1 (F := fun j => Sg j && pl j) hx (by simp [h1])) (fun j => ?_)
          rw [qb_or, hy j, qb_one (by omega)]
          simp [qe, h1, h2, h3, eq_comm]
        · refine ⟨(fun z => nomatch z), fun _ => ?_⟩
          refine ih (p + 1) _ y (by omega) (by omega) (qd_l2 (F := fun j => Sg j && pl j) (by omega) hx (by simp [h1, h2])) (fun j => ?_)
          rw [hy j]; simp [qe, h1]
    · have e : p = m := by omega
      subst e
      refine br_t (nI_le (Nat.le_refl _) (by omega)) (K _ (fun j => ?_))
      rw [qb_not, hx j, hy j]; rfl
theorem qx_size4 {post : Int32 → Prop} {w : Int64} (K : post (nI (qs (fun i => (qb_t w i).toNat) 60))) : ∀ n i, i ≤ 60 → 60 - i < n → wX_size_4 post w n (nI (qs (fun i => (qb_t w i).toNat) i)) (nI i) := by
  intro n
  induction n with
  | zero => intro i hi hn; omega
  | succ n ih =>
    intro i hi hn
    simp only [wX_size_4]
    rcases Nat.lt_or_ge i 60 with hlt | hge
    · refine br_f (nI_ge (b := 60) hlt (by decide)) ?_
      have IH := ih (i + 1) (by omega) (by omega)
      simp only [qx_isIn (show i < 64 by omega), qI_0, nI_1, forall_eq]
      simp only [qs] at IH
      cases h : qb_t w i
      · rw [h] at IH; exact ⟨fun _ => IH, fun z => absurd rfl z⟩
      · rw [h] at IH; exact ⟨(fun z => nomatch z), fun _ => IH⟩
    · have e : i = 60 := by omega
      subst e
      exact br_t (nI_le (b := 60) (Nat.le_refl _) (by decide)) K
theorem qx_size {post : Int32 → Prop} {w : Int64} (K : post (nI (qs (fun i => (qb_t w i).toNat) 60))) : wpX_size post w := by
  unfold wpX_size
  exact ⟨61, qx_size4 K 61 0 (by omega) (by omega)⟩
theorem qx_bef {post : Int32 → Prop} {a b : Nat} {mc : Int32} (ha : a < 60) (hb : b < 60) : wpX_isBefore post (mc, P, N, pu, up, lo, ct, L, tx, ot) (nI a) (nI b) = post (qI (qt_bef L a b)) := by
  have fa : vp_in (nI a) 60 = True := qn_in ha (by omega)
  have fb : vp_in (nI b) 60 = True := qn_in hb (by omega)
  simp only [wpX_isBefore, fa, fb, nI_clamp (show a < 2 ^ 31 by omega), nI_clamp (show b < 2 ^ 31 by omega), qx_isIn (show a < 64 by omega), qx_isIn (show b < 64 by omega), qI_0, true_and]
  unfold qt_bef
  cases qb_t (L a) b <;> cases qb_t (L b) a <;> simp [qI]
theorem qx_each {post : Int32 → Prop} {a b : Nat} {mc : Int32} (ha : a < 60) (hb : b < 60) : wpX_leadToEachOther post (mc, P, N, pu, up, lo, ct, L, tx, ot) (nI a) (nI b) = post (qI (qb_t (L a) b && qb_t (L b) a)) := by
  have fa : vp_in (nI a) 60 = True := qn_in ha (by omega)
  have fb : vp_in (nI b) 60 = True := qn_in hb (by omega)
  simp only [wpX_leadToEachOther, fa, fb, nI_clamp (show a < 2 ^ 31 by omega), nI_clamp (show b < 2 ^ 31 by omega), qx_isIn (show a < 64 by omega), qx_isIn (show b < 64 by omega), qI_0, true_and]
  cases qb_t (L a) b <;> cases qb_t (L b) a <;> simp [qI]
theorem qx_first3 {post : Int32 → Prop} {w : Int64} {a : Nat} (hm : m ≤ 60) (ha : a < m) (K : post (qI (!qe (fun b => qb_t w b && qt_bef L b a) m))) :
    ∀ n i, i ≤ m → m - i < n → (∀ j, j < i → (qb_t w j && qt_bef L j a) = false) → wX_isFirstOf_3 post w (nI a) (nI m) P N pu up lo ct L tx ot n (nI i) := by
  intro n
  induction n with
  | zero => intro i hi hn; omega
  | succ n ih =>
    intro i hi hn hI
    simp only [wX_isFirstOf_3]
    rcases Nat.lt_or_ge i m with hlt | hge
    · refine br_f (nI_ge hlt (by omega)) ?_
      have IH : (qb_t w i && qt_bef L i a) = false → wX_isFirstOf_3 post w (nI a) (nI m) P N pu up lo ct L tx ot n (nI (i + 1)) := fun h => ih (i + 1) (by omega) (by omega) (fun j hj => by
        rcases Nat.lt_or_ge j i with z | z
        · exact hI j z
        · rw [show j = i by omega]; exact h)
      simp only [qx_isIn (show i < 64 by omega), qx_bef (show i < 60 by omega) (show a < 60 by omega), qI_0, nI_1, forall_eq]
      cases h : qb_t w i
      · exact ⟨fun _ => IH (by rw [h, Bool.false_and]), fun z => absurd rfl z⟩
      · refine ⟨(fun z => nomatch z), fun _ => ?_⟩
        cases h2 : qt_bef L i a
        · exact ⟨fun _ => IH (by rw [h2, Bool.and_false]), fun z => absurd rfl z⟩
        · refine ⟨(fun z => nomatch z), fun _ => ?_⟩
          have e : qe (fun b => qb_t w b && qt_bef L b a) m = true := qe_t.mpr ⟨i, hlt, by rw [h, h2]; rfl⟩
          rw [e] at K; exact K
    · have e : i = m := by omega
      subst e
      have e : qe (fun b => qb_t w b && qt_bef L b a) i = false := qe_f.mpr hI
      rw [e] at K
      exact br_t (nI_le (Nat.le_refl _) (by omega)) K
theorem qx_first {post : Int32 → Prop} {w : Int64} {a : Nat} (hm : m ≤ 60) (ha : a < m) (K : post (qI (!qe (fun b => qb_t w b && qt_bef L b a) m))) : wpX_isFirstOf post (nI m, P, N, pu, up, lo, ct, L, tx, ot) w (nI a) := by
  simp only [wpX_isFirstOf]
  exact ⟨m + 1, qx_first3 hm ha K (m + 1) 0 (by omega) (by omega) (fun j hj => by omega)⟩
theorem qx_next1 {post : Int32 → Prop} {w : Int64} {n : Nat} {x y mc : Int32} (K : post x) : wX_nextLine_8 post w mc P N pu up lo ct L tx ot (n + 1) x 1 y := by
  simp only [wX_nextLine_8, qz_1, false_implies, not_false_iff, true_implies, true_and]
  exact br_c (fun _ => K) (fun _ => K)
theorem qx_next8 {post : Int32 → Prop} {w : Int64} (hm : m ≤ 60) :
    ∀ n i, i ≤ m → m - i + 1 < n → post (nI (qf (qt_fr m L (qb_t w)) (m - i) i)) → wX_nextLine_8 post w (nI m) P N pu up lo ct L tx ot n 0 0 (nI i) := by
  intro n
  induction n with
  | zero => intro i hi hn; omega
  | succ n ih =>
    intro i hi hn K
    simp only [wX_nextLine_8]
    rcases Nat.lt_or_ge i m with hlt | hge
    · refine br_f (nI_ge hlt (by omega)) ?_
      rw [show m - i = (m - (i + 1)) + 1 by omega] at K
      simp only [qf] at K
      have IH := ih (i + 1) (by omega) (by omega)
      simp only [qx_isIn (show i < 64 by omega), qI_0, qz_0, true_implies, not_true, false_implies, and_true, nI_1, forall_eq]
      cases h : qb_t w i
      · have e : qt_fr m L (qb_t w) i = false := by unfold qt_fr; rw [h, Bool.false_and]
        rw [e, cond_false] at K
        exact ⟨fun _ => IH K, fun z => absurd rfl z⟩
      · refine ⟨(fun z => nomatch z), fun _ => qx_first hm hlt ?_⟩
        have e : qt_fr m L (qb_t w) i = !qe (fun b => qb_t w b && qt_bef L b i) m := by unfold qt_fr; rw [h, Bool.true_and]
        rw [e] at K
        simp only [qI_0]
        cases h2 : qe (fun b => qb_t w b && qt_bef L b i) m
        · rw [h2] at K
          obtain ⟨n', rfl⟩ : ∃ n', n = n' + 1 := ⟨n - 1, by omega⟩
          exact ⟨(fun z => nomatch z), fun _ => qx_next1 K⟩
        · rw [h2] at K
          exact ⟨fun _ => IH K, fun z => absurd rfl z⟩
    · have e : i = m := by omega
      subst e
      rw [Nat.sub_self] at K
      exact br_t (nI_le (Nat.le_refl _) (by omega)) K
theorem qx_next {post : Int32 → Prop} {w : Int64} (hm : m ≤ 60) (K : post (nI (qt_nx m L (qb_t w)))) : wpX_nextLine post (nI m, P, N, pu, up, lo, ct, L, tx, ot) w := by
  simp only [wpX_nextLine]
  exact ⟨m + 2, qx_next8 hm (m + 2) 0 (by omega) (by omega) K⟩
theorem qx_wt20 {post : Int32 → SX → Prop} {W : Nat → Int64} {l : Nat → Bool} (hm : m ≤ 60) (hL : qq m L W)
    (K : ∀ tx, (∀ i, i < qt_n m l → tx i = nI (qt_T m W l i)) → post (nI (qt_n m l)) (nI m, P, N, pu, up, lo, ct, L, tx, ot)) :
    ∀ n k w tx, k ≤ qt_n m l → qt_n m l - k < n → (∀ j, qb_t w j = qt_lf m W l k j) → (∀ i, i < k → tx i = nI (qt_T m W l i)) → wX_writeText__text_20 post (nI (qt_n m l)) (nI m) n w (nI k) P N pu up lo ct L tx ot := by
  have hc := qt_nl m l
  intro n
  induction n with
  | zero => intro k w tx hk hn; omega
  | succ n ih =>
    intro k w tx hk hn hw ht
    simp only [wX_writeText__text_20]
    rcases Nat.lt_or_ge k (qt_n m l) with hlt | hge
    · refine br_f (nI_ge hlt (by omega)) (qx_next hm ?_)
      have e : qt_nx m L (qb_t w) = qt_T m W l k := qt_nxc hL (fun j _ => hw j)
      have hT := qt_Tm (W := W) hlt
      refine ⟨vp_in_nI (by omega) (by omega), ?_⟩
      simp only [e, qx_only, nI_clamp (show k < 2 ^ 31 by omega), nI_1, forall_eq]
      refine ih (k + 1) _ _ (by omega) (by omega) (fun j => ?_) (fun i hi => ?_)
      · rw [qb_not, hw j, qb_one (by omega)]; rfl
      · by_cases z : i = k
        · rw [z, qu_s]
        · rw [qu_n z]; exact ht i (by omega)
    · have e : k = qt_n m l := by omega
      subst e
      exact br_t (nI_le (Nat.le_refl _) (by omega)) (K _ ht)
theorem qx_text {post : Int32 → SX → Prop} (hm : m ≤ 60) (hs : s < 3) (hpu : ∀ p, p < m → pu p = qI (pl p)) (hup : ∀ p, p < m → up p = qo_X (U p)) (hlo : ∀ p, p < m → lo p = qo_X (D p)) (hU : ∀ p, p < m → ∀ a, U p = some a → a < p) (hD : ∀ p, p < m → ∀ a, D p = some a → a < p) (hst : ∀ p, p < m → pl p = false → ∃ a, U p = some a) (hP : ∀ j, j < m → qb_t (P s) j = Sg j)
    (K : ∀ L tx, qq m L (qw_W m U D pl Sg) → (∀ i, i < qd_n m U pl Sg → tx i = nI (qd_T m U D pl Sg i)) → post (nI (qd_n m U pl Sg)) (nI m, P, N, pu, up, lo, ct, L, tx, ot)) :
    wpX_writeText__text post (nI m, P, N, pu, up, lo, ct, L, tx, ot) (nI s) := by
  simp only [wpX_writeText__text]
  refine qx_findWays hm hs hpu hup hlo hU hD hP (fun L hL => ?_)
  simp only [wpX_linesNotStruck]
  refine ⟨m + 1, qx_lns8 hm hs hpu hup hU hst hP (fun w hw => ?_) (m + 1) 0 0 0 (by omega) (by omega) (fun j => by rw [qb_0]; simp) (fun j => by rw [qb_0]; rfl)⟩
  refine qx_size ?_
  have e : qs (fun i => (qb_t w i).toNat) 60 = qt_n m (qt_op m U pl Sg) := by
    rw [show 60 = m + (60 - m) by omega, qs_ext (60 - m) (fun i hi => by
      rw [hw i]; unfold qt_op; rw [decide_eq_false (by omega)]; rfl)]
    exact qs_congr m (fun i _ => by rw [hw i])
  rw [e]
  exact ⟨m + 1, qx_wt20 hm hL (fun t ht => K L t hL ht) (m + 1) 0 w tx (by omega) (by have := qt_nl m (qt_op m U pl Sg); omega) hw (fun i hi => by omega)⟩
theorem qx_wt20o {post : Int32 → SX → Prop} {W : Nat → Int64} {l : Nat → Bool} (hm : m ≤ 60) (hL : qq m L W)
    (K : ∀ ot, (∀ i, i < qt_n m l → ot i = nI (qt_T m W l i)) → post (nI (qt_n m l)) (nI m, P, N, pu, up, lo, ct, L, tx, ot)) :
    ∀ n k w ot, k ≤ qt_n m l → qt_n m l - k < n → (∀ j, qb_t w j = qt_lf m W l k j) → (∀ i, i < k → ot i = nI (qt_T m W l i)) → wX_writeText__otherText_20 post (nI (qt_n m l)) (nI m) n w (nI k) P N pu up lo ct L tx ot := by
  have hc := qt_nl m l
  intro n
  induction n with
  | zero => intro k w ot hk hn; omega
  | succ n ih =>
    intro k w ot hk hn hw ht
    simp only [wX_writeText__otherText_20]
    rcases Nat.lt_or_ge k (qt_n m l) with hlt | hge
    · refine br_f (nI_ge hlt (by omega)) (qx_next hm ?_)
      have e : qt_nx m L (qb_t w) = qt_T m W l k := qt_nxc hL (fun j _ => hw j)
      have hT := qt_Tm (W := W) hlt
      refine ⟨vp_in_nI (by omega) (by omega), ?_⟩
      simp only [e, qx_only, nI_clamp (show k < 2 ^ 31 by omega), nI_1, forall_eq]
      refine ih (k + 1) _ _ (by omega) (by omega) (fun j => ?_) (fun i hi => ?_)
      · rw [qb_not, hw j, qb_one (by omega)]; rfl
      · by_cases z : i = k
        · rw [z, qu_s]
        · rw [qu_n z]; exact ht i (by omega)
    · have e : k = qt_n m l := by omega
      subst e
      exact br_t (nI_le (Nat.le_refl _) (by omega)) (K _ ht)
theorem qx_texto {post : Int32 → SX → Prop} (hm : m ≤ 60) (hs : s < 3) (hpu : ∀ p, p < m → pu p = qI (pl p)) (hup : ∀ p, p < m → up p = qo_X (U p)) (hlo : ∀ p, p < m → lo p = qo_X (D p)) (hU : ∀ p, p < m → ∀ a, U p = some a → a < p) (hD : ∀ p, p < m → ∀ a, D p = some a → a < p) (hst : ∀ p, p < m → pl p = false → ∃ a, U p = some a) (hP : ∀ j, j < m → qb_t (P s) j = Sg j)
    (K : ∀ L ot, qq m L (qw_W m U D pl Sg) → (∀ i, i < qd_n m U pl Sg → ot i = nI (qd_T m U D pl Sg i)) → post (nI (qd_n m U pl Sg)) (nI m, P, N, pu, up, lo, ct, L, tx, ot)) :
    wpX_writeText__otherText post (nI m, P, N, pu, up, lo, ct, L, tx, ot) (nI s) := by
  simp only [wpX_writeText__otherText]
  refine qx_findWays hm hs hpu hup hlo hU hD hP (fun L hL => ?_)
  simp only [wpX_linesNotStruck]
  refine ⟨m + 1, qx_lns8 hm hs hpu hup hU hst hP (fun w hw => ?_) (m + 1) 0 0 0 (by omega) (by omega) (fun j => by rw [qb_0]; simp) (fun j => by rw [qb_0]; rfl)⟩
  refine qx_size ?_
  have e : qs (fun i => (qb_t w i).toNat) 60 = qt_n m (qt_op m U pl Sg) := by
    rw [show 60 = m + (60 - m) by omega, qs_ext (60 - m) (fun i hi => by
      rw [hw i]; unfold qt_op; rw [decide_eq_false (by omega)]; rfl)]
    exact qs_congr m (fun i _ => by rw [hw i])
  rw [e]
  exact ⟨m + 1, qx_wt20o hm hL (fun t ht => K L t hL ht) (m + 1) 0 w ot (by omega) (by have := qt_nl m (qt_op m U pl Sg); omega) hw (fun i hi => by omega)⟩
end
