/-! X: bits, ways -/
theorem qx_isIn {post : Int32 → Prop} {k : Nat} {w : Int64} (hk : k < 64) : wpX_isIn post (nI k) w = post (qI (qb_t w k)) := by
  unfold wpX_isIn
  rw [qb_in hk]
  cases qb_t w k <;> simp [qI]
theorem qx_only {post : Int64 → Prop} {k : Nat} : wpX_only post (nI k) = post (qb_on k) := rfl
section
variable {m s : Nat} {U D : Nat → Option Nat} {pl Sg : Nat → Bool} {P N L tx0 : Nat → Int64} {pu up lo ct tx ot : Nat → Int32}
theorem qx_fs25 {post : SX → Prop} (hm : m ≤ 60) (hs : s < 3) (hpu : ∀ p, p < m → pu p = qI (pl p)) (hup : ∀ p, p < m → up p = qo_X (U p)) (hlo : ∀ p, p < m → lo p = qo_X (D p)) (hU : ∀ p, p < m → ∀ a, U p = some a → a < p) (hD : ∀ p, p < m → ∀ a, D p = some a → a < p) (hP : ∀ j, j < m → qb_t (P s) j = Sg j)
    (K : ∀ L, qq m L (qw_fs U D pl Sg m) → post (nI m, P, N, pu, up, lo, ct, L, tx, ot)) :
    ∀ n p L, p ≤ m → m - p < n → qq m L (qw_fs U D pl Sg p) → wX_findSteps_25 post (nI s) (nI m) n (nI p) P N pu up lo ct L tx ot := by
  intro n
  induction n with
  | zero => intro p L hp hn; omega
  | succ n ih =>
    intro p L hp hn hL
    simp only [wX_findSteps_25]
    rcases Nat.lt_or_ge p m with hlt | hge
    · refine br_f (nI_ge hlt (by omega)) ?_
      have key : qq m (qw_st U D pl Sg L p) (qw_fs U D pl Sg (p + 1)) := qq_st hL hlt (hU p hlt)
      have fi : vp_in (nI p) 60 = True := qn_in (by omega) (by omega)
      have fs : vp_in (nI s) 3 = True := qn_in (by omega) (by omega)
      have fc : (nI p).toNatClampNeg = p := nI_clamp (by omega)
      have fd : (nI s).toNatClampNeg = s := nI_clamp (by omega)
      have IH := fun L h => ih (p + 1) L (by omega) (by omega) h
      unfold qw_st at key
      simp only [wX_findSteps_84, fi, fs, fc, fd, hpu p hlt, hup p hlt, hlo p hlt, qx_isIn (show p < 64 by omega), qx_only, hP p hlt, true_and, nI_1, forall_eq]
      cases h1 : pl p
      · simp only [h1, qI_f, qz_0, Bool.false_and, cond_false] at key ⊢
        exact ⟨fun _ => IH L key, fun z => absurd trivial z⟩
      · cases h2 : Sg p
        · simp only [h1, h2, qI_f, qI_t, qz_0, qz_1, Bool.and_false, cond_false] at key ⊢
          exact ⟨fun z => z.elim, fun _ => ⟨fun _ => IH L key, fun z => absurd trivial z⟩⟩
        · simp only [h1, h2, qI_t, qz_1, Bool.and_true, cond_true, false_implies, not_false_iff, true_implies, true_and] at key ⊢
          cases h3 : U p with
          | none =>
            cases h4 : D p with
            | none =>
              simp only [h3, h4, qw_a, qw_b, qo_Xn, qz_nn, true_implies, not_true, false_implies, and_true] at key ⊢
              exact IH L key
            | some b =>
              have hb := hD p hlt b h4
              simp only [h3, h4, qw_a, qw_b, qo_Xn, qo_Xs, qn_none (show b < 2 ^ 31 by omega), qz_nn, true_implies, not_true, not_false_iff, false_implies, and_true, true_and, qx_only] at key ⊢
              exact IH _ key
          | some a =>
            have ha := hU p hlt a h3
            have fa : vp_in (nI a) 60 = True := qn_in (by omega) (by omega)
            have fe : (nI a).toNatClampNeg = a := nI_clamp (by omega)
            cases h4 : D p with
            | none =>
              simp only [h3, h4, qw_a, qw_b, qo_Xn, qo_Xs, fa, fe, qn_none (show a < 2 ^ 31 by omega), qz_nn, true_implies, not_true, not_false_iff, false_implies, and_true, true_and, qx_only, forall_eq] at key ⊢
              exact IH _ key
            | some b =>
              have hb := hD p hlt b h4
              simp only [h3, h4, qw_a, qw_b, qo_Xn, qo_Xs, fa, fe, qn_none (show a < 2 ^ 31 by omega), qn_none (show b < 2 ^ 31 by omega), qz_nn, true_implies, not_true, not_false_iff, false_implies, and_true, true_and, qx_only, forall_eq] at key ⊢
              exact IH _ key
    · have e : p = m := by omega
      subst e
      exact br_t (nI_le (Nat.le_refl _) (by omega)) (K L hL)
theorem qx_fs2 {post : SX → Prop} (hm : m ≤ 60) (hs : s < 3) (hpu : ∀ p, p < m → pu p = qI (pl p)) (hup : ∀ p, p < m → up p = qo_X (U p)) (hlo : ∀ p, p < m → lo p = qo_X (D p)) (hU : ∀ p, p < m → ∀ a, U p = some a → a < p) (hD : ∀ p, p < m → ∀ a, D p = some a → a < p) (hP : ∀ j, j < m → qb_t (P s) j = Sg j)
    (K : ∀ L, qq m L (qw_fs U D pl Sg m) → post (nI m, P, N, pu, up, lo, ct, L, tx, ot)) :
    ∀ n p L, p ≤ m → m - p < n → (∀ i, i < p → L i = 0) → wX_findSteps_2 post (nI s) (nI m) n (nI p) P N pu up lo ct L tx ot := by
  intro n
  induction n with
  | zero => intro p L hp hn; omega
  | succ n ih =>
    intro p L hp hn hL
    simp only [wX_findSteps_2]
    rcases Nat.lt_or_ge p m with hlt | hge
    · refine br_f (nI_ge hlt (by omega)) ⟨vp_in_nI (by omega) (by omega), ?_⟩
      simp only [nI_clamp (show p < 2 ^ 31 by omega), nI_1, forall_eq]
      refine ih (p + 1) _ (by omega) (by omega) (fun i hi => ?_)
      by_cases z : i = p
      · rw [z, qu_Ls]
      · rw [qu_Ln z]; exact hL i (by omega)
    · have e : p = m := by omega
      subst e
      exact br_t (nI_le (Nat.le_refl _) (by omega)) ⟨p + 1, qx_fs25 hm hs hpu hup hlo hU hD hP K (p + 1) 0 L (by omega) (by omega) hL⟩
theorem qx_fw17 {post : SX → Prop} {J : Int32 → (Nat → Int64) → (Nat → Int64) → (Nat → Int32) → (Nat → Int32) → (Nat → Int32) → (Nat → Int32) → (Nat → Int64) → (Nat → Int32) → (Nat → Int32) → Prop} {k : Nat} {M : Nat → Int64} (hm : m ≤ 60) (hk : k < m)
    (K : ∀ L, qq m L (qw_wi M k m) → J (nI (k + 1)) P N pu up lo ct L tx ot) :
    ∀ n a L, a ≤ m → m - a < n → qq m L (qw_wi M k a) → wX_findWays_17 post J (nI k) (nI m) n (nI a) P N pu up lo ct L tx ot := by
  intro n
  induction n with
  | zero => intro a L ha hn; omega
  | succ n ih =>
    intro a L ha hn hL
    simp only [wX_findWays_17]
    rcases Nat.lt_or_ge a m with hlt | hge
    · refine br_f (nI_ge hlt (by omega)) ?_
      have key : qq m (qw_ws L k a) (qw_wi M k (a + 1)) := qq_ws hL hk hlt
      have fi : vp_in (nI a) 60 = True := qn_in (by omega) (by omega)
      have fk : vp_in (nI k) 60 = True := qn_in (by omega) (by omega)
      have IH := fun L h => ih (a + 1) L (by omega) (by omega) h
      unfold qw_ws at key
      simp only [fi, fk, nI_clamp (show a < 2 ^ 31 by omega), nI_clamp (show k < 2 ^ 31 by omega), qx_isIn (show k < 64 by omega), qI_0, nI_1, forall_eq, true_and]
      cases h1 : qb_t (L a) k
      · simp only [h1, cond_false] at key
        exact ⟨fun _ => IH L key, fun z => absurd rfl z⟩
      · simp only [h1, cond_true] at key
        exact ⟨(fun z => nomatch z), fun _ => IH _ key⟩
    · have e : a = m := by omega
      subst e
      refine br_t (nI_le (Nat.le_refl _) (by omega)) ?_
      simp only [nI_1, forall_eq]
      exact K L hL
theorem qx_fw7 {post : SX → Prop} {M : Nat → Int64} (hm : m ≤ 60)
    (K : ∀ L, qq m L (qw_wo m M m) → post (nI m, P, N, pu, up, lo, ct, L, tx, ot)) :
    ∀ n k L, k ≤ m → m - k < n → qq m L (qw_wo m M k) → wX_findWays_7 post (nI m) n (nI k) P N pu up lo ct L tx ot := by
  intro n
  induction n with
  | zero => intro k L hk hn; omega
  | succ n ih =>
    intro k L hk hn hL
    simp only [wX_findWays_7]
    rcases Nat.lt_or_ge k m with hlt | hge
    · exact br_f (nI_ge hlt (by omega)) ⟨m + 1, qx_fw17 hm hlt (fun L' hL' => ih (k + 1) L' (by omega) (by omega) hL') (m + 1) 0 L (by omega) (by omega) hL⟩
    · have e : k = m := by omega
      subst e
      exact br_t (nI_le (Nat.le_refl _) (by omega)) (K L hL)
theorem qx_findWays {post : SX → Prop} (hm : m ≤ 60) (hs : s < 3) (hpu : ∀ p, p < m → pu p = qI (pl p)) (hup : ∀ p, p < m → up p = qo_X (U p)) (hlo : ∀ p, p < m → lo p = qo_X (D p)) (hU : ∀ p, p < m → ∀ a, U p = some a → a < p) (hD : ∀ p, p < m → ∀ a, D p = some a → a < p) (hP : ∀ j, j < m → qb_t (P s) j = Sg j)
    (K : ∀ L, qq m L (qw_W m U D pl Sg) → post (nI m, P, N, pu, up, lo, ct, L, tx, ot)) :
    wpX_findWays post (nI m, P, N, pu, up, lo, ct, L, tx, ot) (nI s) := by
  simp only [wpX_findWays, wpX_findSteps]
  refine ⟨m + 1, qx_fs2 hm hs hpu hup hlo hU hD hP ?_ (m + 1) 0 L (by omega) (by omega) (fun i hi => by omega)⟩
  intro L1 hL1
  exact ⟨m + 1, qx_fw7 hm K (m + 1) 0 L1 (by omega) (by omega) hL1⟩
end
