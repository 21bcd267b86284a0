/-! pull, pick, drop: a store is given a set of patches; a patch is taken out -/
def qS_g (S : Nat → Nat → Bool) (t : Nat) (G : Nat → Bool) (i : Nat) (t' q : Nat) : Bool := bif decide (t' = t) then S t q || (decide (q < i) && G q) else S t' q
theorem qS_0 (S : Nat → Nat → Bool) (t : Nat) (G : Nat → Bool) (t' q : Nat) : qS_g S t G 0 t' q = S t' q := by
  unfold qS_g
  by_cases h : t' = t
  · rw [decide_eq_true h, h, decide_eq_false (by omega)]; simp
  · rw [decide_eq_false h]; rfl
theorem qS_s {S : Nat → Nat → Bool} {t : Nat} {G : Nat → Bool} {i : Nat} {t' q : Nat} (h : ¬ (t' = t ∧ q = i) ∨ G i = false ∨ S t i = true) : qS_g S t G (i + 1) t' q = qS_g S t G i t' q := by
  unfold qS_g
  by_cases ht : t' = t
  · rw [decide_eq_true ht]
    show (S t q || (decide (q < i + 1) && G q)) = (S t q || (decide (q < i) && G q))
    by_cases hq : q = i
    · rcases h with h | h | h
      · exact absurd ⟨ht, hq⟩ h
      · rw [hq, h]; simp
      · rw [hq, h]; simp
    · rw [show decide (q < i + 1) = decide (q < i) from decide_eq_decide.mpr (by omega)]
  · rw [decide_eq_false ht]; rfl
theorem qS_t {S : Nat → Nat → Bool} {t : Nat} {G : Nat → Bool} {i : Nat} (h : G i = true) : qS_g S t G (i + 1) t i = true := by
  unfold qS_g
  rw [decide_eq_true rfl, h, decide_eq_true (by omega)]; simp
theorem qS_i (S : Nat → Nat → Bool) (t : Nat) (G : Nat → Bool) (i : Nat) : qS_g S t G i t i = S t i := by
  unfold qS_g
  rw [decide_eq_true rfl, decide_eq_false (by omega)]; simp
theorem qS_o {S : Nat → Nat → Bool} {t s : Nat} {G : Nat → Bool} {i q : Nat} (h : s ≠ t) : qS_g S t G i s q = S s q := by
  unfold qS_g
  rw [decide_eq_false h]; rfl
section
variable {m s t : Nat} {U D : Nat → Option Nat} {pl : Nat → Bool} {C : Nat → Int32} {S : Nat → Nat → Bool} {G : Nat → Bool} {P N L : Nat → Int64} {pu up lo ct tx ot : Nat → Int32} {w : Int64}
theorem qR_give (R : qR m U D pl S N) (hG : ∀ q, q < m → G q = true → ∀ j, qb_t (N q) j = true → j = 0 ∨ G j = true) : qR m U D pl (qS_g S t G m) N := by
  obtain ⟨hm, hU, hD, hst, hsd, hN, hC⟩ := id R
  refine ⟨hm, hU, hD, hst, hsd, hN, fun s hs q hq h j hj => ?_⟩
  have lj := qN_lt R q hq j hj
  unfold qS_g at h ⊢
  by_cases e : s = t
  · subst e
    rw [decide_eq_true rfl] at h ⊢
    have h : (S s q || (decide (q < m) && G q)) = true := h
    show j = 0 ∨ (S s j || (decide (j < m) && G j)) = true
    rw [Bool.or_eq_true, Bool.and_eq_true] at h
    rw [decide_eq_true (show j < m by omega)]
    rcases h with h | h
    · rcases hC s hs q hq h j hj with z | z
      · exact Or.inl z
      · rw [z]; exact Or.inr rfl
    · rcases hG q hq h.2 j hj with z | z
      · exact Or.inl z
      · rw [z]; simp
  · rw [decide_eq_false e] at h ⊢
    exact hC s hs q hq h j hj
theorem qX_give (X : qX m U D pl C S P pu up lo ct) (hw : ∀ j, qb_t w j = (decide (j < m) && G j)) (ht : t < 3) : qX m U D pl C (qS_g S t G m) (vp_updL P t (P t ||| w)) pu up lo ct := by
  obtain ⟨hpu, hup, hlo, hct, hP⟩ := id X
  refine ⟨hpu, hup, hlo, hct, fun s hs j => ?_⟩
  unfold qS_g
  by_cases e : s = t
  · subst e
    rw [qu_Ls, qb_or, hP s hs j, hw j, decide_eq_true rfl]
    show _ = (decide (j < m) && (S s j || (decide (j < m) && G j)))
    cases decide (j < m) <;> simp
  · rw [qu_Ln e, hP s hs j, decide_eq_false e]; rfl
theorem qx_give {post : Int32 → SX → Prop} (hm : m ≤ 60) (ht : t < 3) (hP : ∀ s, s < 3 → ∀ j, qb_t (P s) j = (decide (j < m) && S s j)) (hw : ∀ j, qb_t w j = (decide (j < m) && G j)) (K : post (nI (qs (fun j => (G j && !S t j).toNat) m)) (nI m, vp_updL P t (P t ||| w), N, pu, up, lo, ct, L, tx, ot)) : wpX_giveAll post (nI m, P, N, pu, up, lo, ct, L, tx, ot) (nI t) w := by
  simp only [wpX_giveAll, qn_in ht (show 3 < 2 ^ 31 by omega), nI_clamp (show t < 2 ^ 31 by omega), true_and, forall_eq]
  refine qx_size ?_
  rw [q_60 (F := fun j => G j && !S t j) hm (fun j => by
    rw [qb_not, hw j, hP t ht j]
    cases decide (j < m) <;> simp)]
  exact K
end
section
variable {m s t : Nat} {S : Nat → Nat → Bool} {G : Nat → Bool} {ups los cts sets met pile ty oth : Nat → Int32} {W : Nat → Int64} {mc tl ol : Int32}
theorem qy_up {sets : Nat → Int32} {t i : Nat} (hm : m ≤ 60) (hi : i < m) (h : ∀ t', t' < 3 → ∀ q, q < m → sets (60 * t' + q) = qI (qS_g S t G i t' q)) (hG : G i = true) : ∀ t', t' < 3 → ∀ q, q < m → upd sets (60 * t + i) 1 (60 * t' + q) = qI (qS_g S t G (i + 1) t' q) := by
  intro t' ht' q hq
  by_cases e : t' = t ∧ q = i
  · rw [e.1, e.2, qu_s, qS_t hG]; rfl
  · rw [qu_n (fun z => e (by omega)), h t' ht' q hq, qS_s (Or.inl e)]
theorem qy_pull29 {post : Int32 → SY → Prop} (hm : m ≤ 60) (hs : s < 3) (ht : t < 3) (hst : s ≠ t)
    (K : ∀ sets, (∀ t', t' < 3 → ∀ q, q < m → sets (60 * t' + q) = qI (qS_g S t (S s) m t' q)) → post (nI (qs (fun j => (S s j && !S t j).toNat) m)) (nI m, tl, ol, ups, los, cts, sets, met, pile, ty, oth, W)) :
    ∀ n i sets, i ≤ m → m - i < n → (∀ t', t' < 3 → ∀ q, q < m → sets (60 * t' + q) = qI (qS_g S t (S s) i t' q)) → wY_pull_29 post (nI s) (nI t) (nI m) tl ol n (nI (qs (fun j => (S s j && !S t j).toNat) i)) (nI i) ups los cts sets met pile ty oth W := by
  intro n
  induction n with
  | zero => intro i sets hi hn; omega
  | succ n ih =>
    intro i sets hi hn h
    simp only [wY_pull_29]
    rcases Nat.lt_or_ge i m with hlt | hge
    · refine br_f (nI_ge hlt (by omega)) ?_
      have IH := fun sets => ih (i + 1) sets (by omega) (by omega)
      simp only [qs] at IH
      rw [qy_hasIt hs (show i < 60 by omega) ((h s hs i hlt).trans (by rw [qS_o hst])), qy_hasIt ht (show i < 60 by omega) ((h t ht i hlt).trans (by rw [qS_i]))]
      simp only [qy_ix, qn_in (show 60 * t + i < 180 by omega) (show 180 < 2 ^ 31 by omega), nI_clamp (show 60 * t + i < 2 ^ 31 by omega), qI_0, qI_nar1, nI_1, forall_eq, true_and]
      cases h1 : S s i
      · rw [h1] at IH
        exact ⟨fun _ => IH sets (fun t' ht' q hq => by rw [h t' ht' q hq, qS_s (Or.inr (Or.inl h1))]), fun z => absurd rfl z⟩
      · rw [h1] at IH
        refine ⟨(fun z => nomatch z), fun _ => ?_⟩
        cases h2 : S t i
        · rw [h2] at IH
          exact ⟨fun _ => IH _ (qy_up hm hlt h h1), fun z => absurd rfl z⟩
        · rw [h2] at IH
          exact ⟨(fun z => nomatch z), fun _ => IH sets (fun t' ht' q hq => by rw [h t' ht' q hq, qS_s (Or.inr (Or.inr h2))])⟩
    · have e : i = m := by omega
      subst e
      exact br_t (nI_le (Nat.le_refl _) (by omega)) (K sets h)
theorem qy_pick32 {post : Int32 → SY → Prop} (hm : m ≤ 60) (ht : t < 3) (hmet : ∀ j, j < m → met j = qI (G j))
    (K : ∀ sets, (∀ t', t' < 3 → ∀ q, q < m → sets (60 * t' + q) = qI (qS_g S t G m t' q)) → post (nI (qs (fun j => (G j && !S t j).toNat) m)) (nI m, tl, ol, ups, los, cts, sets, met, pile, ty, oth, W)) :
    ∀ n i sets, i ≤ m → m - i < n → (∀ t', t' < 3 → ∀ q, q < m → sets (60 * t' + q) = qI (qS_g S t G i t' q)) → wY_pick_32 post (nI t) (nI m) tl ol n (nI (qs (fun j => (G j && !S t j).toNat) i)) (nI i) ups los cts sets met pile ty oth W := by
  intro n
  induction n with
  | zero => intro i sets hi hn; omega
  | succ n ih =>
    intro i sets hi hn h
    simp only [wY_pick_32]
    rcases Nat.lt_or_ge i m with hlt | hge
    · refine br_f (nI_ge hlt (by omega)) ?_
      have IH := fun sets => ih (i + 1) sets (by omega) (by omega)
      simp only [qs] at IH
      rw [qy_hasIt ht (show i < 60 by omega) ((h t ht i hlt).trans (by rw [qS_i]))]
      simp only [qy_ix, qn_in (show i < 60 by omega) (show 60 < 2 ^ 31 by omega), nI_clamp (show i < 2 ^ 31 by omega), hmet i hlt, qn_in (show 60 * t + i < 180 by omega) (show 180 < 2 ^ 31 by omega), nI_clamp (show 60 * t + i < 2 ^ 31 by omega), qI_0, qI_nar1, nI_1, forall_eq, true_and]
      cases h1 : G i
      · rw [h1] at IH
        exact ⟨fun _ => IH sets (fun t' ht' q hq => by rw [h t' ht' q hq, qS_s (Or.inr (Or.inl h1))]), fun z => absurd rfl z⟩
      · rw [h1] at IH
        refine ⟨(fun z => nomatch z), fun _ => ?_⟩
        cases h2 : S t i
        · rw [h2] at IH
          exact ⟨fun _ => IH _ (qy_up hm hlt h h1), fun z => absurd rfl z⟩
        · rw [h2] at IH
          exact ⟨(fun z => nomatch z), fun _ => IH sets (fun t' ht' q hq => by rw [h t' ht' q hq, qS_s (Or.inr (Or.inr h2))])⟩
    · have e : i = m := by omega
      subst e
      exact br_t (nI_le (Nat.le_refl _) (by omega)) (K sets h)
end
theorem i_vc_pull {k : Nat} {u : SX} {v : SY} (I : i_Rel k u v) (hk : k + 4 ≤ 2048) (v1 : Int32) (v2 : Int32) : wpX_pull (fun r u' => wpY_pull (fun r' v' => r' = r ∧ i_Rel (k + 4) u' v') v v1 v2) u v1 v2 := by
  obtain ⟨m, U, D, pl, C, S, P, N, pu, up, lo, ct, L, tx, ot, tl, ol, ups, los, cts, sets, met, pile, ty, oth, W, rfl, rfl, R, X, Y⟩ := I
  suffices H : ∀ Q : Int32 → SX → Int32 → SY → Prop, (∀ r u' v', i_Rel (k + 4) u' v' → Q r u' r v') → wpX_pull (fun r u' => wpY_pull (fun r' v' => Q r u' r' v') (nI m, tl, ol, ups, los, cts, sets, met, pile, ty, oth, W) v1 v2) (nI m, P, N, pu, up, lo, ct, L, tx, ot) v1 v2 from H (fun r u' r' v' => r' = r ∧ i_Rel (k + 4) u' v') (fun r u' v' h => ⟨rfl, h⟩)
  intro Q HQ
  obtain ⟨hm, hU, hD, hst, hsd, hN, hC⟩ := id R
  obtain ⟨hpu, hup, hlo, hct, hP⟩ := id X
  obtain ⟨hups, hlos, hcts, hS⟩ := id Y
  have J := q_rel (k := k + 4) (L := L) (tx := tx) (ot := ot) (tl := tl) (ol := ol) (met := met) (pile := pile) (ty := ty) (oth := oth) (W := W) R X Y
  rcases q_ix v1 (n := 3) (by omega) with b | ⟨s, hs, rfl⟩
  · simp only [wpX_pull, wpY_pull, qx_sb b, qy_sb b, qz_0, qz_1, true_implies, not_true, not_false_iff, false_implies, and_true, true_and]
    exact HQ _ _ _ J
  · rcases q_ix v2 (n := 3) (by omega) with b | ⟨t, ht, rfl⟩
    · simp only [wpX_pull, wpY_pull, qx_sg hs, qy_sg hs, qn_in hs (show 3 < 2 ^ 31 by omega), nI_clamp (show s < 2 ^ 31 by omega), qx_sb b, qy_sb b, qz_0, qz_1, true_implies, not_true, not_false_iff, false_implies, and_true, true_and]
      exact HQ _ _ _ J
    · simp only [wpX_pull, wpY_pull, qx_sg hs, qy_sg hs, qn_in hs (show 3 < 2 ^ 31 by omega), nI_clamp (show s < 2 ^ 31 by omega), qx_sg ht, qy_sg ht, qn_eq (show s < 2 ^ 31 by omega) (show t < 2 ^ 31 by omega), qz_0, qz_1, true_implies, not_true, not_false_iff, false_implies, and_true, true_and]
      by_cases e : s = t
      · simp only [e, qz_0, qz_1, true_implies, not_true, not_false_iff, false_implies, and_true, true_and]
        exact HQ _ _ _ J
      · simp only [e, qz_0, qz_1, true_implies, not_true, not_false_iff, false_implies, and_true, true_and]
        refine qx_give hm ht hP (hP s hs) ?_
        refine ⟨m + 1, qy_pull29 hm hs ht e (fun sets' hsets => ?_) (m + 1) 0 sets (by omega) (by omega) (fun t' ht' q hq => by rw [hS t' ht' q hq, qS_0])⟩
        exact HQ _ _ _ (q_rel (qR_give R (fun q hq h j hj => hC s hs q hq h j hj)) (qX_give X (hP s hs) ht) ⟨hups, hlos, hcts, hsets⟩)
theorem i_vc_pick {k : Nat} {u : SX} {v : SY} (I : i_Rel k u v) (hk : k + 4 ≤ 2048) (v1 : Int32) (v2 : Int32) : wpX_pick (fun r u' => wpY_pick (fun r' v' => r' = r ∧ i_Rel (k + 4) u' v') v v1 v2) u v1 v2 := by
  obtain ⟨m, U, D, pl, C, S, P, N, pu, up, lo, ct, L, tx, ot, tl, ol, ups, los, cts, sets, met, pile, ty, oth, W, rfl, rfl, R, X, Y⟩ := I
  suffices H : ∀ Q : Int32 → SX → Int32 → SY → Prop, (∀ r u' v', i_Rel (k + 4) u' v' → Q r u' r v') → wpX_pick (fun r u' => wpY_pick (fun r' v' => Q r u' r' v') (nI m, tl, ol, ups, los, cts, sets, met, pile, ty, oth, W) v1 v2) (nI m, P, N, pu, up, lo, ct, L, tx, ot) v1 v2 from H (fun r u' r' v' => r' = r ∧ i_Rel (k + 4) u' v') (fun r u' v' h => ⟨rfl, h⟩)
  intro Q HQ
  obtain ⟨hm, hU, hD, hst, hsd, hN, hC⟩ := id R
  obtain ⟨hpu, hup, hlo, hct, hP⟩ := id X
  obtain ⟨hups, hlos, hcts, hS⟩ := id Y
  have J := q_rel (k := k + 4) (L := L) (tx := tx) (ot := ot) (tl := tl) (ol := ol) (met := met) (pile := pile) (ty := ty) (oth := oth) (W := W) R X Y
  rcases q_ix v2 (n := 3) (by omega) with b | ⟨t, ht, rfl⟩
  · simp only [wpX_pick, wpY_pick, qx_sb b, qy_sb b, qz_0, qz_1, true_implies, not_true, not_false_iff, false_implies, and_true, true_and]
    exact HQ _ _ _ J
  · rcases q_ix v1 (n := m) (by omega) with b | ⟨p, hp, rfl⟩
    · simp only [wpX_pick, wpY_pick, qx_sg ht, qy_sg ht, qx_pb b, qy_pb b, qz_0, qz_1, true_implies, not_true, not_false_iff, false_implies, and_true, true_and]
      exact HQ _ _ _ J
    · simp only [wpX_pick, wpY_pick, qx_sg ht, qy_sg ht, qx_pg hm hp, qy_pg hm hp, qn_in (show p < 60 by omega) (show 60 < 2 ^ 31 by omega), nI_clamp (show p < 2 ^ 31 by omega), qx_only, forall_eq, qz_0, qz_1, true_implies, not_true, not_false_iff, false_implies, and_true, true_and]
      have hw : ∀ j, qb_t (N p ||| qb_on p) j = (decide (j < m) && (decide (j = p) || qb_t (N p) j)) := by
        intro j
        rw [qb_or, qb_one (by omega), Bool.or_comm]
        by_cases z : j < m
        · rw [decide_eq_true z, Bool.true_and]
        · rw [decide_eq_false z, Bool.false_and, decide_eq_false (show ¬ j = p by omega), Bool.false_or]
          cases h : qb_t (N p) j
          · rfl
          · have := qN_lt R p hp j h
            omega
      refine qx_give (G := fun j => decide (j = p) || qb_t (N p) j) hm ht hP hw ?_
      refine qy_gather R hups hlos hp (fun met' pile' hmet => ?_)
      refine ⟨m + 1, qy_pick32 (G := fun j => decide (j = p) || qb_t (N p) j) hm ht hmet (fun sets' hsets => ?_) (m + 1) 0 sets (by omega) (by omega) (fun t' ht' q hq => by rw [hS t' ht' q hq, qS_0])⟩
      refine HQ _ _ _ (q_rel (qR_give R (fun q hq h j hj => ?_)) (qX_give X hw ht) ⟨hups, hlos, hcts, hsets⟩)
      rw [Bool.or_eq_true] at h
      refine Or.inr ?_
      rcases h with h | h
      · rw [of_decide_eq_true h] at hj
        show (decide (j = p) || qb_t (N p) j) = true
        rw [hj, Bool.or_true]
      · show (decide (j = p) || qb_t (N p) j) = true
        rw [qN_tr R p hp q j h hj, Bool.or_true]
theorem i_vc_drop {k : Nat} {u : SX} {v : SY} (I : i_Rel k u v) (hk : k + 4 ≤ 2048) (v1 : Int32) (v2 : Int32) : wpX_drop (fun r u' => wpY_drop (fun r' v' => r' = r ∧ i_Rel (k + 4) u' v') v v1 v2) u v1 v2 := by
  obtain ⟨m, U, D, pl, C, S, P, N, pu, up, lo, ct, L, tx, ot, tl, ol, ups, los, cts, sets, met, pile, ty, oth, W, rfl, rfl, R, X, Y⟩ := I
  suffices H : ∀ Q : Int32 → SX → Int32 → SY → Prop, (∀ r u' v', i_Rel (k + 4) u' v' → Q r u' r v') → wpX_drop (fun r u' => wpY_drop (fun r' v' => Q r u' r' v') (nI m, tl, ol, ups, los, cts, sets, met, pile, ty, oth, W) v1 v2) (nI m, P, N, pu, up, lo, ct, L, tx, ot) v1 v2 from H (fun r u' r' v' => r' = r ∧ i_Rel (k + 4) u' v') (fun r u' v' h => ⟨rfl, h⟩)
  intro Q HQ
  obtain ⟨hm, hU, hD, hst, hsd, hN, hC⟩ := id R
  obtain ⟨hpu, hup, hlo, hct, hP⟩ := id X
  obtain ⟨hups, hlos, hcts, hS⟩ := id Y
  have J := q_rel (k := k + 4) (L := L) (tx := tx) (ot := ot) (tl := tl) (ol := ol) (met := met) (pile := pile) (ty := ty) (oth := oth) (W := W) R X Y
  rcases q_ix v1 (n := 3) (by omega) with b | ⟨s, hs, rfl⟩
  · simp only [wpX_drop, wpY_drop, qx_sb b, qy_sb b, qz_0, qz_1, true_implies, not_true, not_false_iff, false_implies, and_true, true_and]
    exact HQ _ _ _ J
  · rcases q_ix v2 (n := m) (by omega) with b | ⟨p, hp, rfl⟩
    · simp only [wpX_drop, wpY_drop, qx_sg hs, qy_sg hs, qn_in hs (show 3 < 2 ^ 31 by omega), nI_clamp (show s < 2 ^ 31 by omega), qx_pb b, qy_pb b, qz_0, qz_1, true_implies, not_true, not_false_iff, false_implies, and_true, true_and]
      exact HQ _ _ _ J
    · simp only [wpX_drop, wpY_drop, qx_sg hs, qy_sg hs, qn_in hs (show 3 < 2 ^ 31 by omega), nI_clamp (show s < 2 ^ 31 by omega), qx_pg hm hp, qy_pg hm hp, qx_isIn (show p < 64 by omega), q_hP hs hP p hp, qy_hasIt hs (show p < 60 by omega) (hS s hs p hp), qI_0, qz_0, qz_1, true_implies, not_true, not_false_iff, false_implies, and_true, true_and]
      cases h1 : S s p
      · simp only [qz_0, qz_1, true_implies, not_true, not_false_iff, false_implies, and_true, true_and]
        exact HQ _ _ _ J
      · simp only [reduceCtorEq, qz_0, qz_1, true_implies, not_true, not_false_iff, false_implies, and_true, true_and]
        refine qx_need hm hs (q_hP hs hP) (fun w hw => ?_)
        simp only [qx_isIn (show p < 64 by omega), hw p, qI_0]
        rw [qN_nd R hs p]
        cases h2 : qe (fun q => S s q && (decide (U q = some p) || decide (D q = some p))) m
        · simp only [reduceCtorEq, qx_only, forall_eq, qu_Ls, qz_0, qz_1, true_implies, not_true, not_false_iff, false_implies, and_true, true_and]
          refine qx_size ?_
          have hw2 : ∀ j, qb_t (P s &&& (qb_on p ^^^ (-1))) j = (decide (j < m) && (S s j && !decide (j = p))) := by
            intro j
            rw [qb_not, hP s hs j, qb_one (by omega), Bool.and_assoc]
          rw [q_60 (F := fun j => S s j && !decide (j = p)) hm hw2]
          refine qy_needed hm hs hp hups hlos hU hD hsd (hS s hs) ?_
          simp only [h2, qI_f, qy_ix, qn_in (show 60 * s + p < 180 by omega) (show 180 < 2 ^ 31 by omega), nI_clamp (show 60 * s + p < 2 ^ 31 by omega), qI_nar0, forall_eq, qz_0, qz_1, true_implies, not_true, not_false_iff, false_implies, and_true, true_and]
          have hS' : ∀ t, t < 3 → ∀ q, q < m → upd sets (60 * s + p) 0 (60 * t + q) = qI ((fun t q => S t q && !(decide (t = s) && decide (q = p))) t q) := by
            intro t ht q hq
            show _ = qI (S t q && !(decide (t = s) && decide (q = p)))
            by_cases e : t = s ∧ q = p
            · rw [e.1, e.2, qu_s, decide_eq_true rfl, decide_eq_true rfl]; simp [qI]
            · rw [qu_n (fun z => e (by omega)), hS t ht q hq]
              by_cases e1 : t = s
              · rw [decide_eq_false (show ¬ q = p from fun z => e ⟨e1, z⟩)]; simp
              · rw [decide_eq_false e1]; simp
          refine qy_count (Sg := fun j => S s j && !decide (j = p)) hm hs (fun q hq => by
            rw [hS' s hs q hq]
            show qI (S s q && !(decide (s = s) && decide (q = p))) = _
            rw [decide_eq_true rfl, Bool.true_and]) ?_
          refine HQ _ _ _ (q_rel (S := fun t q => S t q && !(decide (t = s) && decide (q = p))) ⟨hm, hU, hD, hst, hsd, hN, fun t ht q hq h j hj => ?_⟩ ⟨hpu, hup, hlo, hct, fun t ht j => ?_⟩ ⟨hups, hlos, hcts, hS'⟩)
          · have h : (S t q && !(decide (t = s) && decide (q = p))) = true := h
            rw [Bool.and_eq_true] at h
            show j = 0 ∨ (S t j && !(decide (t = s) && decide (j = p))) = true
            rcases hC t ht q hq h.1 j hj with z | z
            · exact Or.inl z
            · refine Or.inr ?_
              rw [z, Bool.true_and]
              by_cases e : t = s ∧ j = p
              · exfalso
                rw [← qN_nd R hs p] at h2
                have := qe_f.mp h2 q hq
                rw [← e.1, h.1, ← e.2, hj] at this
                cases this
              · by_cases e1 : t = s
                · rw [decide_eq_false (show ¬ j = p from fun z => e ⟨e1, z⟩)]; simp
                · rw [decide_eq_false e1]; simp
          · show _ = (decide (j < m) && (S t j && !(decide (t = s) && decide (j = p))))
            by_cases e1 : t = s
            · rw [e1, qu_Ls, hw2 j, decide_eq_true rfl, Bool.true_and]
            · rw [qu_Ln e1, hP t ht j, decide_eq_false e1]; simp
        · simp only [reduceCtorEq, qz_0, qz_1, true_implies, not_true, not_false_iff, false_implies, and_true, true_and]
          refine qy_needed hm hs hp hups hlos hU hD hsd (hS s hs) ?_
          simp only [h2, qI_t, qz_0, qz_1, true_implies, not_true, not_false_iff, false_implies, and_true, true_and]
          exact HQ _ _ _ J
