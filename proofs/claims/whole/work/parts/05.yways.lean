/-! Y: ways -/
section
variable {m s : Nat} {U D : Nat → Option Nat} {pl Sg : Nat → Bool} {ups los cts sets met pile tx oth : Nat → Int32} {W : Nat → Int64} {mc tl ol : Int32}
theorem qy_ix (s p : Nat) : (60 * nI s) + nI p = nI (60 * s + p) := by
  have e : (60 : Int32) * nI s = nI (60 * s) := (Int32.ofNat_mul 60 s).symm
  rw [e, nI_add]
theorem qy_hasIt {post : Int32 → Prop} {b : Bool} {p : Nat} (hs : s < 3) (hp : p < 60) (h : sets (60 * s + p) = qI b) : wpY_hasIt post (mc, tl, ol, ups, los, cts, sets, met, pile, tx, oth, W) (nI s) (nI p) = post (qI b) := by
  have fi : vp_in (nI (60 * s + p)) 180 = True := qn_in (by omega) (by omega)
  simp only [wpY_hasIt, qy_ix, nI_clamp (show 60 * s + p < 2 ^ 31 by omega), fi, h, qI_fit, true_and]
theorem qy_isLine {post : Int32 → Prop} {p : Nat} (hm : m ≤ 60) (hp : p < m) (h : los p = (bif pl p then qo_Y (D p) else -2)) (hD : ∀ a, D p = some a → a < p) : wpY_isLine post (mc, tl, ol, ups, los, cts, sets, met, pile, tx, oth, W) (nI p) = post (qI (pl p)) := by
  have fi : vp_in (nI p) 60 = True := qn_in (by omega) (by omega)
  simp only [wpY_isLine, nI_clamp (show p < 2 ^ 31 by omega), fi, h, true_and]
  cases h1 : pl p
  · simp [qI]
  · cases h2 : D p with
    | none => simp [qI, qo_Y]
    | some a =>
      have := hD a h2
      simp [qI, qo_Y, qn_m2 (show a < 2 ^ 31 by omega)]
theorem qy_fw142 {post : SY → Prop} {J : Int32 → (Nat → Int32) → (Nat → Int32) → (Nat → Int32) → (Nat → Int32) → (Nat → Int32) → (Nat → Int32) → (Nat → Int32) → (Nat → Int32) → (Nat → Int64) → Prop} {k : Nat} {M : Nat → Int64} (hm : m ≤ 60) (hk : k < m)
    (K : ∀ W, qq m W (qw_wi M k m) → J (nI (k + 1)) ups los cts sets met pile tx oth W) :
    ∀ n a W, a ≤ m → m - a < n → qq m W (qw_wi M k a) → wY_findWays_142 post J (nI k) (nI m) tl ol n (nI a) ups los cts sets met pile tx oth W := by
  intro n
  induction n with
  | zero => intro a W ha hn; omega
  | succ n ih =>
    intro a W ha hn hW
    simp only [wY_findWays_142]
    rcases Nat.lt_or_ge a m with hlt | hge
    · refine br_f (nI_ge hlt (by omega)) ?_
      have key : qq m (qw_ws W k a) (qw_wi M k (a + 1)) := qq_ws hW hk hlt
      have fi : vp_in (nI a) 60 = True := qn_in (by omega) (by omega)
      have fk : vp_in (nI k) 60 = True := qn_in (by omega) (by omega)
      have IH := fun W h => ih (a + 1) W (by omega) (by omega) h
      unfold qw_ws at key
      simp only [fi, fk, nI_clamp (show a < 2 ^ 31 by omega), nI_clamp (show k < 2 ^ 31 by omega), qb_in1 (show k < 64 by omega), nI_1, forall_eq, true_and]
      cases h1 : qb_t (W a) k
      · simp only [h1, cond_false] at key
        refine ⟨(fun z => nomatch z), fun _ => IH _ (fun i hi => ?_)⟩
        rw [← key i hi]
        by_cases z : i = a
        · rw [z, qu_Ls]
        · rw [qu_Ln z]
      · simp only [h1, cond_true] at key
        exact ⟨fun _ => IH _ key, fun z => absurd rfl z⟩
    · have e : a = m := by omega
      subst e
      refine br_t (nI_le (Nat.le_refl _) (by omega)) ?_
      simp only [nI_1, forall_eq]
      exact K W hW
theorem qy_fw132 {post : SY → Prop} {M : Nat → Int64} (hm : m ≤ 60)
    (K : ∀ W, qq m W (qw_wo m M m) → post (nI m, tl, ol, ups, los, cts, sets, met, pile, tx, oth, W)) :
    ∀ n k W, k ≤ m → m - k < n → qq m W (qw_wo m M k) → wY_findWays_132 post (nI m) tl ol n (nI k) ups los cts sets met pile tx oth W := by
  intro n
  induction n with
  | zero => intro k W hk hn; omega
  | succ n ih =>
    intro k W hk hn hW
    simp only [wY_findWays_132]
    rcases Nat.lt_or_ge k m with hlt | hge
    · exact br_f (nI_ge hlt (by omega)) ⟨m + 1, qy_fw142 hm hlt (fun W' hW' => ih (k + 1) W' (by omega) (by omega) hW') (m + 1) 0 W (by omega) (by omega) hW⟩
    · have e : k = m := by omega
      subst e
      exact br_t (nI_le (Nat.le_refl _) (by omega)) (K W hW)
theorem qy_fw25 {post : SY → Prop} (hm : m ≤ 60) (hs : s < 3) (hups : ∀ p, p < m → ups p = qo_Y (U p)) (hlos : ∀ p, p < m → los p = (bif pl p then qo_Y (D p) else -2)) (hU : ∀ p, p < m → ∀ a, U p = some a → a < p) (hD : ∀ p, p < m → ∀ a, D p = some a → a < p) (hS : ∀ p, p < m → sets (60 * s + p) = qI (Sg p))
    (K : ∀ W, qq m W (qw_W m U D pl Sg) → post (nI m, tl, ol, ups, los, cts, sets, met, pile, tx, oth, W)) :
    ∀ n p W, p ≤ m → m - p < n → qq m W (qw_fs U D pl Sg p) → wY_findWays_25 post (nI s) (nI m) tl ol n (nI p) ups los cts sets met pile tx oth W := by
  intro n
  induction n with
  | zero => intro p W hp hn; omega
  | succ n ih =>
    intro p W hp hn hW
    simp only [wY_findWays_25]
    rcases Nat.lt_or_ge p m with hlt | hge
    · refine br_f (nI_ge hlt (by omega)) ?_
      have key : qq m (qw_st U D pl Sg W p) (qw_fs U D pl Sg (p + 1)) := qq_st hW hlt (hU p hlt)
      have fi : vp_in (nI p) 60 = True := qn_in (by omega) (by omega)
      have fc : (nI p).toNatClampNeg = p := nI_clamp (by omega)
      have IH := fun W h => ih (p + 1) W (by omega) (by omega) h
      unfold qw_st at key
      rw [qy_hasIt hs (by omega) (hS p hlt), qy_isLine hm hlt (hlos p hlt) (hD p hlt)]
      simp only [wY_findWays_88, fi, fc, hups p hlt, hlos p hlt, true_and, nI_1, forall_eq, qI_0]
      cases h2 : Sg p
      · simp only [h2, Bool.and_false, cond_false] at key
        exact ⟨fun _ => IH W key, fun z => absurd rfl z⟩
      · refine ⟨(fun z => nomatch z), fun _ => ?_⟩
        cases h1 : pl p
        · simp only [h1, Bool.false_and, cond_false] at key
          exact ⟨fun _ => IH W key, fun z => absurd rfl z⟩
        · refine ⟨(fun z => nomatch z), fun _ => ?_⟩
          simp only [h1, h2, Bool.and_true, cond_true] at key ⊢
          cases h3 : U p with
          | none =>
            cases h4 : D p with
            | none =>
              simp only [h3, h4, qw_a, qw_b, qo_Yn, qz_n1, true_implies, not_true, false_implies, and_true] at key ⊢
              refine IH _ (fun i hi => ?_)
              rw [← key i hi]
              by_cases z : i = p
              · rw [z, qu_Ls]
              · rw [qu_Ln z]
            | some b =>
              have hb := hD p hlt b h4
              simp only [h3, h4, qw_a, qw_b, qo_Yn, qo_Ys, qn_neg (show b < 2 ^ 31 by omega), qz_n1, true_implies, not_true, not_false_iff, false_implies, and_true, true_and] at key ⊢
              exact IH _ key
          | some a =>
            have ha := hU p hlt a h3
            have fa : vp_in (nI a) 60 = True := qn_in (by omega) (by omega)
            have fe : (nI a).toNatClampNeg = a := nI_clamp (by omega)
            have hap : a ≠ p := by omega
            cases h4 : D p with
            | none =>
              simp only [h3, h4, qw_a, qw_b, qo_Yn, qo_Ys, fa, fe, qn_neg (show a < 2 ^ 31 by omega), qz_n1, true_implies, not_true, not_false_iff, false_implies, and_true, true_and, forall_eq] at key ⊢
              refine IH _ (fun i hi => ?_)
              rw [← key i hi]
              by_cases z : i = a
              · rw [z, qu_Ls, qu_Ls, qu_Ln hap]; rfl
              · rw [qu_Ln z, qu_Ln z]
                by_cases z : i = p
                · rw [z, qu_Ls]
                · rw [qu_Ln z]
            | some b =>
              have hb := hD p hlt b h4
              simp only [h3, h4, qw_a, qw_b, qo_Yn, qo_Ys, fa, fe, qn_neg (show a < 2 ^ 31 by omega), qn_neg (show b < 2 ^ 31 by omega), qz_n1, true_implies, not_true, not_false_iff, false_implies, and_true, true_and, forall_eq] at key ⊢
              refine IH _ (fun i hi => ?_)
              rw [← key i hi]
              by_cases z : i = a
              · rw [z, qu_Ls, qu_Ln hap, qu_Ln hap, qu_Ls]; rfl
              · rw [qu_Ln z]
                by_cases z2 : i = p
                · rw [z2, qu_Ls, qu_Ls, qu_Ln (Ne.symm hap)]; rfl
                · rw [qu_Ln z2, qu_Ln z2, qu_Ln z]
    · have e : p = m := by omega
      subst e
      exact br_t (nI_le (Nat.le_refl _) (by omega)) ⟨p + 1, qy_fw132 hm K (p + 1) 0 W (by omega) (by omega) hW⟩
theorem qy_fw2 {post : SY → Prop} (hm : m ≤ 60) (hs : s < 3) (hups : ∀ p, p < m → ups p = qo_Y (U p)) (hlos : ∀ p, p < m → los p = (bif pl p then qo_Y (D p) else -2)) (hU : ∀ p, p < m → ∀ a, U p = some a → a < p) (hD : ∀ p, p < m → ∀ a, D p = some a → a < p) (hS : ∀ p, p < m → sets (60 * s + p) = qI (Sg p))
    (K : ∀ W, qq m W (qw_W m U D pl Sg) → post (nI m, tl, ol, ups, los, cts, sets, met, pile, tx, oth, W)) :
    ∀ n p W, p ≤ m → m - p < n → (∀ i, i < p → W i = 0) → wY_findWays_2 post (nI s) (nI m) tl ol n (nI p) ups los cts sets met pile tx oth W := by
  intro n
  induction n with
  | zero => intro p W hp hn; omega
  | succ n ih =>
    intro p W hp hn hW
    simp only [wY_findWays_2]
    rcases Nat.lt_or_ge p m with hlt | hge
    · refine br_f (nI_ge hlt (by omega)) ⟨vp_in_nI (by omega) (by omega), ?_⟩
      simp only [nI_clamp (show p < 2 ^ 31 by omega), nI_1, forall_eq]
      refine ih (p + 1) _ (by omega) (by omega) (fun i hi => ?_)
      by_cases z : i = p
      · rw [z, qu_Ls]
      · rw [qu_Ln z]; exact hW i (by omega)
    · have e : p = m := by omega
      subst e
      exact br_t (nI_le (Nat.le_refl _) (by omega)) ⟨p + 1, qy_fw25 hm hs hups hlos hU hD hS K (p + 1) 0 W (by omega) (by omega) hW⟩
theorem qy_findWays {post : SY → Prop} (hm : m ≤ 60) (hs : s < 3) (hups : ∀ p, p < m → ups p = qo_Y (U p)) (hlos : ∀ p, p < m → los p = (bif pl p then qo_Y (D p) else -2)) (hU : ∀ p, p < m → ∀ a, U p = some a → a < p) (hD : ∀ p, p < m → ∀ a, D p = some a → a < p) (hS : ∀ p, p < m → sets (60 * s + p) = qI (Sg p))
    (K : ∀ W, qq m W (qw_W m U D pl Sg) → post (nI m, tl, ol, ups, los, cts, sets, met, pile, tx, oth, W)) :
    wpY_findWays post (nI m, tl, ol, ups, los, cts, sets, met, pile, tx, oth, W) (nI s) := by
  simp only [wpY_findWays]
  exact ⟨m + 1, qy_fw2 hm hs hups hlos hU hD hS K (m + 1) 0 W (by omega) (by omega) (fun i hi => by omega)⟩
end
