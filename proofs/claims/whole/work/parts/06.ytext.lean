/-! Y: the text -/
theorem qo_Yeq {o : Option Nat} {a : Nat} (ho : ∀ b, o = some b → b < 2 ^ 31) (ha : a < 2 ^ 31) : (qo_Y o = nI a) = (o = some a) := by
  cases o with
  | none =>
    rw [qo_Yn]
    refine propext ⟨fun e => ?_, fun e => nomatch e⟩
    have e2 := congrArg Int32.toInt e
    rw [nI_toInt ha, show (-1 : Int32).toInt = -1 from by decide] at e2
    omega
  | some b =>
    rw [qo_Ys, qn_eq (ho b rfl) ha]
    exact propext ⟨fun e => by rw [e], fun e => Option.some.inj e⟩
section
variable {m s : Nat} {U D : Nat → Option Nat} {pl Sg : Nat → Bool} {ups los cts sets met pile tx oth : Nat → Int32} {W : Nat → Int64} {mc tl ol : Int32}
theorem qy_leads {post : Int32 → Prop} {a b : Nat} (ha : a < 60) (hb : b < 60) : wpY_leads post (mc, tl, ol, ups, los, cts, sets, met, pile, tx, oth, W) (nI a) (nI b) = post (qI (qb_t (W a) b)) := by
  have fa : vp_in (nI a) 60 = True := qn_in ha (by omega)
  simp only [wpY_leads, fa, nI_clamp (show a < 2 ^ 31 by omega), qb_in1 (show b < 64 by omega), true_and]
  cases qb_t (W a) b <;> simp [qI]
theorem qy_bef {post : Int32 → Prop} {a b : Nat} (ha : a < 60) (hb : b < 60) : wpY_isBefore post (mc, tl, ol, ups, los, cts, sets, met, pile, tx, oth, W) (nI a) (nI b) = post (qI (qt_bef W a b)) := by
  simp only [wpY_isBefore, qy_leads ha hb, qy_leads hb ha, qI_0]
  unfold qt_bef
  cases qb_t (W a) b <;> cases qb_t (W b) a <;> simp [qI]
theorem qy_open21 {post : Int32 → Prop} {a : Nat} (hm : m ≤ 60) (hs : s < 3) (hups : ∀ p, p < m → ups p = qo_Y (U p)) (hlos : ∀ p, p < m → los p = (bif pl p then qo_Y (D p) else -2)) (hU : ∀ p, p < m → ∀ a, U p = some a → a < p) (hD : ∀ p, p < m → ∀ a, D p = some a → a < p) (hS : ∀ p, p < m → sets (60 * s + p) = qI (Sg p)) (ha : a < m)
    (K : post (qI (!qe (fun q => Sg q && (!pl q && decide (U q = some a))) m))) :
    ∀ n i, i ≤ m → m - i < n → (∀ j, j < i → (Sg j && (!pl j && decide (U j = some a))) = false) → wY_isOpen_21 post (nI s) (nI a) (nI m) tl ol ups los cts sets met pile tx oth W n (nI i) := by
  intro n
  induction n with
  | zero => intro i hi hn; omega
  | succ n ih =>
    intro i hi hn hI
    simp only [wY_isOpen_21]
    rcases Nat.lt_or_ge i m with hlt | hge
    · refine br_f (nI_ge hlt (by omega)) ?_
      have IH : (Sg i && (!pl i && decide (U i = some a))) = false → wY_isOpen_21 post (nI s) (nI a) (nI m) tl ol ups los cts sets met pile tx oth W n (nI (i + 1)) := fun h => ih (i + 1) (by omega) (by omega) (fun j hj => by
        rcases Nat.lt_or_ge j i with z | z
        · exact hI j z
        · rw [show j = i by omega]; exact h)
      have fi : vp_in (nI i) 60 = True := qn_in (by omega) (by omega)
      rw [qy_hasIt hs (by omega) (hS i hlt), qy_isLine hm hlt (hlos i hlt) (hD i hlt)]
      simp only [fi, nI_clamp (show i < 2 ^ 31 by omega), hups i hlt, qo_Yeq (fun b hb => Nat.lt_trans (hU i hlt b hb) (by omega)) (show a < 2 ^ 31 by omega), true_and, nI_1, forall_eq, qI_0]
      cases h2 : Sg i
      · exact ⟨fun _ => IH (by rw [h2, Bool.false_and]), fun z => absurd rfl z⟩
      · refine ⟨(fun z => nomatch z), fun _ => ?_⟩
        cases h1 : pl i
        · refine ⟨fun _ => br_c (fun h3 => ?_) (fun h3 => IH (by rw [decide_eq_false h3, Bool.and_false, Bool.and_false])), fun z => absurd rfl z⟩
          have e : qe (fun q => Sg q && (!pl q && decide (U q = some a))) m = true := qe_t.mpr ⟨i, hlt, by rw [h1, h2, decide_eq_true h3]; rfl⟩
          rw [e] at K; exact K
        · exact ⟨(fun z => nomatch z), fun _ => IH (by rw [h1]; simp)⟩
    · have e : i = m := by omega
      subst e
      have e : qe (fun q => Sg q && (!pl q && decide (U q = some a))) i = false := qe_f.mpr hI
      rw [e] at K
      exact br_t (nI_le (Nat.le_refl _) (by omega)) K
theorem qy_open {post : Int32 → Prop} {a : Nat} (hm : m ≤ 60) (hs : s < 3) (hups : ∀ p, p < m → ups p = qo_Y (U p)) (hlos : ∀ p, p < m → los p = (bif pl p then qo_Y (D p) else -2)) (hU : ∀ p, p < m → ∀ a, U p = some a → a < p) (hD : ∀ p, p < m → ∀ a, D p = some a → a < p) (hS : ∀ p, p < m → sets (60 * s + p) = qI (Sg p)) (ha : a < m) (K : post (qI (qt_op m U pl Sg a))) : wpY_isOpen post (nI m, tl, ol, ups, los, cts, sets, met, pile, tx, oth, W) (nI s) (nI a) := by
  simp only [wpY_isOpen]
  rw [qy_hasIt hs (by omega) (hS a ha), qy_isLine hm ha (hlos a ha) (hD a ha)]
  unfold qt_op at K
  rw [decide_eq_true ha] at K
  simp only [qI_0]
  cases h2 : Sg a
  · rw [h2] at K
    exact ⟨fun _ => K, fun z => absurd rfl z⟩
  · refine ⟨(fun z => nomatch z), fun _ => ?_⟩
    cases h1 : pl a
    · rw [h1, h2] at K
      exact ⟨fun _ => K, fun z => absurd rfl z⟩
    · rw [h1, h2] at K
      exact ⟨(fun z => nomatch z), fun _ => ⟨m + 1, qy_open21 hm hs hups hlos hU hD hS ha K (m + 1) 0 (by omega) (by omega) (fun j hj => by omega)⟩⟩
theorem qt_self (W : Nat → Int64) (a : Nat) : qt_bef W a a = false := by
  unfold qt_bef
  cases qb_t (W a) a <;> rfl
theorem qy_ff19 {post : Int32 → Prop} {J : Int32 → Prop} {l : Nat → Bool} {a : Nat} (hm : m ≤ 60) (ha : a < m) (hl : ∀ j, j < m → met j = qI (l j)) (K1 : qt_fr m W l a = true → post (nI a)) (K0 : qt_fr m W l a = false → J (nI (a + 1))) :
    ∀ n i, i ≤ m → m - i < n → wY_firstFree_19 post J (nI a) (nI m) tl ol ups los cts sets met pile tx oth W n (qI (l a && !qe (fun b => l b && qt_bef W b a) i)) (nI i) := by
  intro n
  induction n with
  | zero => intro i hi hn; omega
  | succ n ih =>
    intro i hi hn
    simp only [wY_firstFree_19]
    rcases Nat.lt_or_ge i m with hlt | hge
    · refine br_f (nI_ge hlt (by omega)) ?_
      have IH := ih (i + 1) (by omega) (by omega)
      simp only [qe] at IH
      have fi : vp_in (nI i) 60 = True := qn_in (by omega) (by omega)
      simp only [fi, nI_clamp (show i < 2 ^ 31 by omega), hl i hlt, qn_eq (show i < 2 ^ 31 by omega) (show a < 2 ^ 31 by omega), qy_bef (show i < 60 by omega) (show a < 60 by omega), true_and, nI_1, forall_eq, qI_0]
      cases h0 : l a && !qe (fun b => l b && qt_bef W b a) i
      · refine ⟨fun _ => ?_, fun z => absurd rfl z⟩
        have e : (l a && !(qe (fun b => l b && qt_bef W b a) i || l i && qt_bef W i a)) = false := by
          revert h0
          cases l a <;> cases qe (fun b => l b && qt_bef W b a) i <;> simp
        rw [e] at IH; exact IH
      · have hh : l a = true ∧ qe (fun b => l b && qt_bef W b a) i = false := by
          revert h0
          cases l a <;> cases qe (fun b => l b && qt_bef W b a) i <;> simp
        rw [hh.1, hh.2, Bool.true_and, Bool.false_or] at IH
        refine ⟨(fun z => nomatch z), fun _ => ?_⟩
        cases h1 : l i
        · rw [h1] at IH
          exact ⟨fun _ => IH, fun z => absurd rfl z⟩
        · rw [h1, Bool.true_and] at IH
          refine ⟨(fun z => nomatch z), fun _ => br_c (fun z => ?_) (fun z => ?_)⟩
          · rw [z, qt_self] at IH
            rw [z]; exact IH
          · cases h2 : qt_bef W i a
            · rw [h2] at IH
              exact ⟨fun _ => IH, fun z => absurd rfl z⟩
            · rw [h2] at IH
              exact ⟨(fun z => nomatch z), fun _ => IH⟩
    · have e : i = m := by omega
      subst e
      refine br_t (nI_le (Nat.le_refl _) (by omega)) ?_
      simp only [qI_0, nI_1, forall_eq]
      have e : (l a && !qe (fun b => l b && qt_bef W b a) i) = qt_fr i W l a := rfl
      rw [e]
      exact br_c K0 (fun z => K1 (by cases h : qt_fr i W l a; exact absurd h z; rfl))
theorem qy_ff2 {post : Int32 → Prop} {l : Nat → Bool} (hm : m ≤ 60) (hl : ∀ j, j < m → met j = qI (l j)) :
    ∀ n i, i ≤ m → m - i < n → post (nI (qf (qt_fr m W l) (m - i) i)) → wY_firstFree_2 post (nI m) tl ol ups los cts sets met pile tx oth W n (nI i) := by
  intro n
  induction n with
  | zero => intro i hi hn; omega
  | succ n ih =>
    intro i hi hn K
    simp only [wY_firstFree_2]
    rcases Nat.lt_or_ge i m with hlt | hge
    · refine br_f (nI_ge hlt (by omega)) ⟨vp_in_nI (by omega) (by omega), ?_⟩
      rw [show m - i = (m - (i + 1)) + 1 by omega] at K
      simp only [qf] at K
      simp only [nI_clamp (show i < 2 ^ 31 by omega), hl i hlt, forall_eq]
      have T := qy_ff19 (post := post) (J := wY_firstFree_2 post (nI m) tl ol ups los cts sets met pile tx oth W n) (tl := tl) (ol := ol) (ups := ups) (los := los) (cts := cts) (sets := sets) (pile := pile) (tx := tx) (oth := oth) (W := W) hm hlt hl
        (fun h => by rw [h] at K; exact K) (fun h => by rw [h] at K; exact ih (i + 1) (by omega) (by omega) K) (m + 1) 0 (by omega) (by omega)
      simp only [qe, Bool.not_false, Bool.and_true] at T
      exact ⟨m + 1, T⟩
    · have e : i = m := by omega
      subst e
      rw [Nat.sub_self] at K
      exact br_t (nI_le (Nat.le_refl _) (by omega)) K
theorem qy_ff {post : Int32 → Prop} {l : Nat → Bool} (hm : m ≤ 60) (hl : ∀ j, j < m → met j = qI (l j)) (K : post (nI (qt_nx m W l))) : wpY_firstFree post (nI m, tl, ol, ups, los, cts, sets, met, pile, tx, oth, W) := by
  simp only [wpY_firstFree]
  exact ⟨m + 1, qy_ff2 hm hl (m + 1) 0 (by omega) (by omega) K⟩
theorem qy_ft57 {post : SY → Prop} {M : Nat → Int64} {l : Nat → Bool} (hm : m ≤ 60) (hW : qq m W M)
    (K : ∀ met tx, (∀ i, i < qt_n m l → tx i = nI (qt_T m M l i)) → post (nI m, nI (qt_n m l), ol, ups, los, cts, sets, met, pile, tx, oth, W)) :
    ∀ n k met tx, k ≤ qt_n m l → qt_n m l - k < n → (∀ j, j < m → met j = qI (qt_lf m M l k j)) → (∀ i, i < k → tx i = nI (qt_T m M l i)) → wY_findText_57 post (nI (qt_n m l)) (nI m) ol n (nI k) ups los cts sets met pile tx oth W := by
  have hc := qt_nl m l
  intro n
  induction n with
  | zero => intro k met tx hk hn; omega
  | succ n ih =>
    intro k met tx hk hn hl ht
    simp only [wY_findText_57]
    rcases Nat.lt_or_ge k (qt_n m l) with hlt | hge
    · refine br_f (nI_ge hlt (by omega)) (qy_ff hm hl ?_)
      have e : qt_nx m W (qt_lf m M l k) = qt_T m M l k := qt_nxc hW (fun j _ => rfl)
      have hT := qt_Tm (W := M) hlt
      simp only [e]
      refine ⟨vp_in_nI (by omega) (by omega), ?_⟩
      simp only [nI_clamp (show qt_T m M l k < 2 ^ 31 by omega), nI_clamp (show k < 2 ^ 31 by omega), qI_nar0, forall_eq, nI_1]
      refine ⟨vp_in_nI (by omega) (by omega), ih (k + 1) _ _ (by omega) (by omega) (fun j hj => ?_) (fun i hi => ?_)⟩
      · by_cases z : j = qt_T m M l k
        · rw [z, qu_s]
          show 0 = qI (qt_lf m M l k (qt_T m M l k) && !decide (qt_T m M l k = qt_nx m M (qt_lf m M l k)))
          rw [decide_eq_true (show qt_T m M l k = qt_nx m M (qt_lf m M l k) from rfl), Bool.not_true, Bool.and_false]; rfl
        · rw [qu_n z, hl j hj]
          show _ = qI (qt_lf m M l k j && !decide (j = qt_nx m M (qt_lf m M l k)))
          rw [decide_eq_false (show ¬ j = qt_nx m M (qt_lf m M l k) from z), Bool.not_false, Bool.and_true]
      · by_cases z : i = k
        · rw [z, qu_s]
        · rw [qu_n z]; exact ht i (by omega)
    · have e : k = qt_n m l := by omega
      subst e
      exact br_t (nI_le (Nat.le_refl _) (by omega)) (K _ _ ht)
theorem qy_ft9 {post : SY → Prop} (hm : m ≤ 60) (hs : s < 3) (hups : ∀ p, p < m → ups p = qo_Y (U p)) (hlos : ∀ p, p < m → los p = (bif pl p then qo_Y (D p) else -2)) (hU : ∀ p, p < m → ∀ a, U p = some a → a < p) (hD : ∀ p, p < m → ∀ a, D p = some a → a < p) (hS : ∀ p, p < m → sets (60 * s + p) = qI (Sg p)) (hW : qq m W (qw_W m U D pl Sg))
    (K : ∀ met tx, (∀ i, i < qd_n m U pl Sg → tx i = nI (qd_T m U D pl Sg i)) → post (nI m, nI (qd_n m U pl Sg), ol, ups, los, cts, sets, met, pile, tx, oth, W)) :
    ∀ n p met, p ≤ m → m - p < n → (∀ j, j < p → met j = qI (qt_op m U pl Sg j)) → wY_findText_9 post (nI s) (nI m) tl ol n (nI (qs (fun i => (qt_op m U pl Sg i).toNat) p)) (nI p) ups los cts sets met pile tx oth W := by
  intro n
  induction n with
  | zero => intro p met hp hn; omega
  | succ n ih =>
    intro p met hp hn hl
    simp only [wY_findText_9]
    rcases Nat.lt_or_ge p m with hlt | hge
    · refine br_f (nI_ge hlt (by omega)) (qy_open hm hs hups hlos hU hD hS hlt ?_)
      have fi : vp_in (nI p) 60 = True := qn_in (by omega) (by omega)
      have IH := ih (p + 1) (upd met p (qI (qt_op m U pl Sg p))) (by omega) (by omega) (fun j hj => by
        by_cases z : j = p
        · rw [z, qu_s]
        · rw [qu_n z]; exact hl j (by omega))
      simp only [qs] at IH
      simp only [fi, nI_clamp (show p < 2 ^ 31 by omega), qI_nar, true_and, forall_eq, nI_1, qu_s, qI_0]
      cases h : qt_op m U pl Sg p
      · rw [h] at IH
        exact ⟨fun _ => IH, fun z => absurd rfl z⟩
      · rw [h] at IH
        exact ⟨(fun z => nomatch z), fun _ => IH⟩
    · have e : p = m := by omega
      subst e
      exact br_t (nI_le (Nat.le_refl _) (by omega)) ⟨p + 1, qy_ft57 hm hW K (p + 1) 0 met tx (by omega) (by have := qt_nl p (qt_op p U pl Sg); omega) hl (fun i hi => by omega)⟩
theorem qy_text {post : SY → Prop} (hm : m ≤ 60) (hs : s < 3) (hups : ∀ p, p < m → ups p = qo_Y (U p)) (hlos : ∀ p, p < m → los p = (bif pl p then qo_Y (D p) else -2)) (hU : ∀ p, p < m → ∀ a, U p = some a → a < p) (hD : ∀ p, p < m → ∀ a, D p = some a → a < p) (hS : ∀ p, p < m → sets (60 * s + p) = qI (Sg p))
    (K : ∀ met tx W, qq m W (qw_W m U D pl Sg) → (∀ i, i < qd_n m U pl Sg → tx i = nI (qd_T m U D pl Sg i)) → post (nI m, nI (qd_n m U pl Sg), ol, ups, los, cts, sets, met, pile, tx, oth, W)) :
    wpY_findText post (nI m, tl, ol, ups, los, cts, sets, met, pile, tx, oth, W) (nI s) := by
  simp only [wpY_findText]
  refine qy_findWays hm hs hups hlos hU hD hS (fun W hW => ?_)
  exact ⟨m + 1, qy_ft9 hm hs hups hlos hU hD hS hW (fun met tx ht => K met tx W hW ht) (m + 1) 0 met (by omega) (by omega) (fun j hj => by omega)⟩
end
