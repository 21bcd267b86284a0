/-! needs, needed, loose, agree, before -/
section
variable {m s t p : Nat} {U D : Nat → Option Nat} {pl Sg Tg : Nat → Bool} {S : Nat → Nat → Bool} {N : Nat → Int64} {ups los cts sets met pile ty oth : Nat → Int32} {W : Nat → Int64} {mc tl ol : Int32}
theorem qy_nd20 {post : Int32 → SY → Prop} {Z : Nat → Bool} (hm : m ≤ 60) (hz : ∀ j, j < m → met j = qI (Z j)) (K : post (nI (qs (fun i => (Z i).toNat) m) + (-1)) (nI m, tl, ol, ups, los, cts, sets, met, pile, ty, oth, W)) :
    ∀ n i, i ≤ m → m - i < n → wY_needed_20 post (nI m) tl ol ups los cts sets met pile ty oth W n (nI (qs (fun i => (Z i).toNat) i) + (-1)) (nI i) := by
  intro n
  induction n with
  | zero => intro i hi hn; omega
  | succ n ih =>
    intro i hi hn
    simp only [wY_needed_20]
    rcases Nat.lt_or_ge i m with hlt | hge
    · refine br_f (nI_ge hlt (by omega)) ?_
      have IH := ih (i + 1) (by omega) (by omega)
      have a1 : ∀ c : Nat, nI c + (-1) + 1 = nI (c + 1) + (-1) := fun c => by
        rw [Int32.add_assoc, Int32.add_comm (-1) 1, ← Int32.add_assoc, nI_1]
      simp only [qn_in (show i < 60 by omega) (show 60 < 2 ^ 31 by omega), nI_clamp (show i < 2 ^ 31 by omega), hz i hlt, qI_0, a1, nI_1, forall_eq, true_and]
      simp only [qs] at IH
      cases h : Z i
      · rw [h] at IH; exact ⟨fun _ => IH, fun z => absurd rfl z⟩
      · rw [h] at IH; exact ⟨(fun z => nomatch z), fun _ => IH⟩
    · have e : i = m := by omega
      subst e
      exact br_t (nI_le (Nat.le_refl _) (by omega)) K
theorem qy_ls15 {post : Int32 → Prop} (hm : m ≤ 60) (hs : s < 3) (hups : ∀ p, p < m → ups p = qo_Y (U p)) (hlos : ∀ p, p < m → los p = (bif pl p then qo_Y (D p) else -2)) (hU : ∀ p, p < m → ∀ a, U p = some a → a < p) (hD : ∀ p, p < m → ∀ a, D p = some a → a < p) (hsd : ∀ p, p < m → pl p = false → D p = none) (hS : ∀ p, p < m → sets (60 * s + p) = qI (Sg p))
    (K : post (nI (qs (fun i => (Sg i && !qe (fun q => Sg q && (decide (U q = some i) || decide (D q = some i))) m).toNat) m))) :
    ∀ n i, i ≤ m → m - i < n → wY_loose_15 post (nI s) (nI m) tl ol ups los cts sets met pile ty oth W n (nI (qs (fun i => (Sg i && !qe (fun q => Sg q && (decide (U q = some i) || decide (D q = some i))) m).toNat) i)) (nI i) := by
  intro n
  induction n with
  | zero => intro i hi hn; omega
  | succ n ih =>
    intro i hi hn
    simp only [wY_loose_15]
    rcases Nat.lt_or_ge i m with hlt | hge
    · refine br_f (nI_ge hlt (by omega)) ?_
      have IH := ih (i + 1) (by omega) (by omega)
      rw [qy_hasIt hs (by omega) (hS i hlt)]
      simp only [qI_0, nI_1, forall_eq]
      simp only [qs] at IH
      cases h : Sg i
      · rw [h] at IH; exact ⟨fun _ => IH, fun z => absurd rfl z⟩
      · refine ⟨(fun z => nomatch z), fun _ => qy_needed hm hs hlt hups hlos hU hD hsd hS ?_⟩
        rw [h, Bool.true_and] at IH
        simp only [qI_0]
        cases h2 : qe (fun q => Sg q && (decide (U q = some i) || decide (D q = some i))) m
        · rw [h2] at IH; exact ⟨fun _ => IH, fun z => absurd rfl z⟩
        · rw [h2] at IH; exact ⟨(fun z => nomatch z), fun _ => IH⟩
    · have e : i = m := by omega
      subst e
      exact br_t (nI_le (Nat.le_refl _) (by omega)) K
theorem qy_ag20 {post : Int32 → Prop} (hm : m ≤ 60) (hs : s < 3) (ht : t < 3) (hS : ∀ p, p < m → sets (60 * s + p) = qI (Sg p)) (hT : ∀ p, p < m → sets (60 * t + p) = qI (Tg p))
    (K : post (qI (!qe (fun j => !decide (Sg j = Tg j)) m))) :
    ∀ n i, i ≤ m → m - i < n → (∀ j, j < i → Sg j = Tg j) → wY_agree_20 post (nI s) (nI t) (nI m) tl ol ups los cts sets met pile ty oth W n (nI i) := by
  intro n
  induction n with
  | zero => intro i hi hn; omega
  | succ n ih =>
    intro i hi hn hI
    simp only [wY_agree_20]
    rcases Nat.lt_or_ge i m with hlt | hge
    · refine br_f (nI_ge hlt (by omega)) ?_
      rw [qy_hasIt hs (by omega) (hS i hlt), qy_hasIt ht (by omega) (hT i hlt)]
      simp only [qI_inj, nI_1, forall_eq]
      refine br_c (fun h => ih (i + 1) (by omega) (by omega) (fun j hj => ?_)) (fun h => ?_)
      · rcases Nat.lt_or_ge j i with z | z
        · exact hI j z
        · rw [show j = i by omega]; exact h
      · have e : qe (fun j => !decide (Sg j = Tg j)) m = true := qe_t.mpr ⟨i, hlt, by rw [decide_eq_false h]; rfl⟩
        rw [e] at K; exact K
    · have e : i = m := by omega
      subst e
      have e : qe (fun j => !decide (Sg j = Tg j)) i = false := qe_f.mpr (fun j hj => by rw [decide_eq_true (hI j hj)]; rfl)
      rw [e] at K
      exact br_t (nI_le (Nat.le_refl _) (by omega)) K
end
theorem i_vc_needs {k : Nat} {u : SX} {v : SY} (I : i_Rel k u v) (hk : k + 4 ≤ 2048) (v1 : Int32) (v2 : Int32) : wpX_needs (fun r => wpY_needs (fun r' v' => r' = r ∧ i_Rel (k + 4) u v') v v1 v2) u v1 v2 := by
  obtain ⟨m, U, D, pl, C, S, P, N, pu, up, lo, ct, L, tx, ot, tl, ol, ups, los, cts, sets, met, pile, ty, oth, W, rfl, rfl, R, X, Y⟩ := I
  suffices H : ∀ Q : Int32 → Int32 → SY → Prop, (∀ r v', i_Rel (k + 4) (nI m, P, N, pu, up, lo, ct, L, tx, ot) v' → Q r r v') → wpX_needs (fun r => wpY_needs (fun r' v' => Q r r' v') (nI m, tl, ol, ups, los, cts, sets, met, pile, ty, oth, W) v1 v2) (nI m, P, N, pu, up, lo, ct, L, tx, ot) v1 v2 from H (fun r r' v' => r' = r ∧ i_Rel (k + 4) (nI m, P, N, pu, up, lo, ct, L, tx, ot) v') (fun r v' h => ⟨rfl, h⟩)
  intro Q HQ
  obtain ⟨hm, hU, hD, hst, hsd, hN, hC⟩ := id R
  obtain ⟨hpu, hup, hlo, hct, hP⟩ := id X
  obtain ⟨hups, hlos, hcts, hS⟩ := id Y
  have J := q_rel (k := k + 4) (L := L) (tx := tx) (ot := ot) (tl := tl) (ol := ol) (met := met) (pile := pile) (ty := ty) (oth := oth) (W := W) R X Y
  rcases q_ix v1 (n := m) (by omega) with b | ⟨p, hp, rfl⟩
  · simp only [wpX_needs, wpY_needs, qx_pb b, qy_pb b, qz_0, qz_1, true_implies, not_true, not_false_iff, false_implies, and_true, true_and]
    exact HQ _ _ J
  · rcases q_ix v2 (n := m) (by omega) with b | ⟨q, hq, rfl⟩
    · simp only [wpX_needs, wpY_needs, qx_pb b, qy_pb b, qx_pg hm hp, qy_pg hm hp, qz_0, qz_1, true_implies, not_true, not_false_iff, false_implies, and_true, true_and]
      exact HQ _ _ J
    · simp only [wpX_needs, wpY_needs, qx_pg hm hp, qy_pg hm hp, qx_pg hm hq, qy_pg hm hq, qn_in (show p < 60 by omega) (show 60 < 2 ^ 31 by omega), qn_in (show q < 60 by omega) (show 60 < 2 ^ 31 by omega), nI_clamp (show p < 2 ^ 31 by omega), nI_clamp (show q < 2 ^ 31 by omega), qx_isIn (show q < 64 by omega), qn_eq (show p < 2 ^ 31 by omega) (show q < 2 ^ 31 by omega), qI_0, qz_0, qz_1, true_implies, not_true, not_false_iff, false_implies, and_true, true_and]
      have main : ∀ b, b = qb_t (N p) q → (p = q → Q (qI b) 0 (nI m, tl, ol, ups, los, cts, sets, met, pile, ty, oth, W)) ∧ (¬ p = q → wpY_gather (fun u => match u with | (f_made, f_textLength, f_otherLength, a_uppers, a_lowers, a_contents, a_sets, a_met, a_pile, a_text, a_others, a_ways) => (narrow .boolean (.int (a_met q)) = .int (a_met q) ∧ Q (qI b) (a_met q) (f_made, f_textLength, f_otherLength, a_uppers, a_lowers, a_contents, a_sets, a_met, a_pile, a_text, a_others, a_ways))) (nI m, tl, ol, ups, los, cts, sets, met, pile, ty, oth, W) (nI p)) := by
        intro b hb
        refine br_c (fun e => ?_) (fun e => qy_gather R hups hlos hp (fun met' pile' hmet => ?_))
        · have z : b = false := by
            cases h : b
            · rfl
            · rw [h, e] at hb
              have := qN_lt R q hq q hb.symm
              omega
          rw [z]; exact HQ _ _ J
        · have z : met' q = qI b := by rw [hmet q hq, decide_eq_false (Ne.symm e), Bool.false_or, hb]
          show narrow .boolean (.int (met' q)) = .int (met' q) ∧ Q (qI b) (met' q) _
          rw [z]
          exact ⟨qI_fit b, HQ _ _ (q_rel R X Y)⟩
      cases h : qb_t (N p) q
      · exact ⟨fun _ => main false h.symm, fun z => absurd rfl z⟩
      · exact ⟨(fun z => nomatch z), fun _ => main true h.symm⟩
theorem i_vc_needed {k : Nat} {u : SX} {v : SY} (I : i_Rel k u v) (hk : k + 4 ≤ 2048) (v1 : Int32) : wpX_needed (fun r => wpY_needed (fun r' v' => r' = r ∧ i_Rel (k + 4) u v') v v1) u v1 := by
  obtain ⟨m, U, D, pl, C, S, P, N, pu, up, lo, ct, L, tx, ot, tl, ol, ups, los, cts, sets, met, pile, ty, oth, W, rfl, rfl, R, X, Y⟩ := I
  suffices H : ∀ Q : Int32 → Int32 → SY → Prop, (∀ r v', i_Rel (k + 4) (nI m, P, N, pu, up, lo, ct, L, tx, ot) v' → Q r r v') → wpX_needed (fun r => wpY_needed (fun r' v' => Q r r' v') (nI m, tl, ol, ups, los, cts, sets, met, pile, ty, oth, W) v1) (nI m, P, N, pu, up, lo, ct, L, tx, ot) v1 from H (fun r r' v' => r' = r ∧ i_Rel (k + 4) (nI m, P, N, pu, up, lo, ct, L, tx, ot) v') (fun r v' h => ⟨rfl, h⟩)
  intro Q HQ
  obtain ⟨hm, hU, hD, hst, hsd, hN, hC⟩ := id R
  obtain ⟨hpu, hup, hlo, hct, hP⟩ := id X
  obtain ⟨hups, hlos, hcts, hS⟩ := id Y
  have J := q_rel (k := k + 4) (L := L) (tx := tx) (ot := ot) (tl := tl) (ol := ol) (met := met) (pile := pile) (ty := ty) (oth := oth) (W := W) R X Y
  rcases q_ix v1 (n := m) (by omega) with b | ⟨p, hp, rfl⟩
  · simp only [wpX_needed, wpY_needed, qx_pb b, qy_pb b, qz_0, qz_1, true_implies, not_true, not_false_iff, false_implies, and_true, true_and]
    exact HQ _ _ J
  · simp only [wpX_needed, wpY_needed, qx_pg hm hp, qy_pg hm hp, qn_in (show p < 60 by omega) (show 60 < 2 ^ 31 by omega), nI_clamp (show p < 2 ^ 31 by omega), qz_0, qz_1, true_implies, not_true, not_false_iff, false_implies, and_true, true_and]
    refine qx_size (qy_gather R hups hlos hp (fun met' pile' hmet => ?_))
    have e1 : qs (fun i => (qb_t (N p) i).toNat) 60 = qs (fun i => (qb_t (N p) i).toNat) m := q_60 hm (fun j => by
      by_cases z : j < m
      · rw [decide_eq_true z, Bool.true_and]
      · rw [decide_eq_false z, Bool.false_and]
        cases h : qb_t (N p) j
        · rfl
        · have := qN_lt R p hp j h
          omega)
    have z : qb_t (N p) p = false := by
      cases h : qb_t (N p) p
      · rfl
      · have := qN_lt R p hp p h
        omega
    have e2 : qs (fun i => (decide (i = p) || qb_t (N p) i).toNat) m = qs (fun i => (qb_t (N p) i).toNat) m + 1 := by
      rw [← qs_put z m hp]
      exact qs_congr m (fun i _ => by rw [Bool.or_comm])
    have T := qy_nd20 (post := fun r' v' => Q (nI (qs (fun i => (qb_t (N p) i).toNat) 60)) r' v') (tl := tl) (ol := ol) (ups := ups) (los := los) (cts := cts) (sets := sets) (pile := pile') (ty := ty) (oth := oth) (W := W) hm hmet (by
      rw [e2, qm_1, e1]
      exact HQ _ _ (q_rel R X Y)) (m + 1) 0 (by omega) (by omega)
    rw [show nI (qs (fun i => (decide (i = p) || qb_t (N p) i).toNat) 0) + (-1) = -1 from by show nI 0 + (-1) = -1; decide] at T
    exact ⟨m + 1, T⟩
theorem i_vc_loose {k : Nat} {u : SX} {v : SY} (I : i_Rel k u v) (hk : k + 4 ≤ 2048) (v1 : Int32) : wpX_loose (fun r => wpY_loose (fun r' => r' = r ∧ i_Rel (k + 4) u v) v v1) u v1 := by
  obtain ⟨m, U, D, pl, C, S, P, N, pu, up, lo, ct, L, tx, ot, tl, ol, ups, los, cts, sets, met, pile, ty, oth, W, rfl, rfl, R, X, Y⟩ := I
  suffices H : ∀ Q : Int32 → Int32 → Prop, (∀ r, Q r r) → wpX_loose (fun r => wpY_loose (fun r' => Q r r') (nI m, tl, ol, ups, los, cts, sets, met, pile, ty, oth, W) v1) (nI m, P, N, pu, up, lo, ct, L, tx, ot) v1 from H (fun r r' => r' = r ∧ i_Rel (k + 4) (nI m, P, N, pu, up, lo, ct, L, tx, ot) (nI m, tl, ol, ups, los, cts, sets, met, pile, ty, oth, W)) (fun r => ⟨rfl, q_rel R X Y⟩)
  intro Q HQ
  obtain ⟨hm, hU, hD, hst, hsd, hN, hC⟩ := id R
  obtain ⟨hpu, hup, hlo, hct, hP⟩ := id X
  obtain ⟨hups, hlos, hcts, hS⟩ := id Y
  rcases q_ix v1 (n := 3) (by omega) with b | ⟨s, hs, rfl⟩
  · simp only [wpX_loose, wpY_loose, qx_sb b, qy_sb b, qz_0, qz_1, true_implies, not_true, not_false_iff, false_implies, and_true, true_and]
    exact HQ _
  · simp only [wpX_loose, wpY_loose, qx_sg hs, qy_sg hs, qn_in hs (show 3 < 2 ^ 31 by omega), nI_clamp (show s < 2 ^ 31 by omega), qz_0, qz_1, true_implies, not_true, not_false_iff, false_implies, and_true, true_and]
    refine qx_need hm hs (q_hP hs hP) (fun w hw => qx_size ?_)
    have e : qs (fun i => (qb_t (P s &&& (w ^^^ (-1))) i).toNat) 60 = qs (fun i => (S s i && !qe (fun q => S s q && (decide (U q = some i) || decide (D q = some i))) m).toNat) m := q_60 (F := fun i => S s i && !qe (fun q => S s q && (decide (U q = some i) || decide (D q = some i))) m) hm (fun j => by
      rw [qb_not, hP s hs j, hw j, qN_nd R hs j, Bool.and_assoc])
    rw [e]
    exact ⟨m + 1, qy_ls15 hm hs hups hlos hU hD hsd (hS s hs) (HQ _) (m + 1) 0 (by omega) (by omega)⟩
theorem i_vc_agree {k : Nat} {u : SX} {v : SY} (I : i_Rel k u v) (hk : k + 4 ≤ 2048) (v1 : Int32) (v2 : Int32) : wpX_agree (fun r => wpY_agree (fun r' => r' = r ∧ i_Rel (k + 4) u v) v v1 v2) u v1 v2 := by
  obtain ⟨m, U, D, pl, C, S, P, N, pu, up, lo, ct, L, tx, ot, tl, ol, ups, los, cts, sets, met, pile, ty, oth, W, rfl, rfl, R, X, Y⟩ := I
  suffices H : ∀ Q : Int32 → Int32 → Prop, (∀ r, Q r r) → wpX_agree (fun r => wpY_agree (fun r' => Q r r') (nI m, tl, ol, ups, los, cts, sets, met, pile, ty, oth, W) v1 v2) (nI m, P, N, pu, up, lo, ct, L, tx, ot) v1 v2 from H (fun r r' => r' = r ∧ i_Rel (k + 4) (nI m, P, N, pu, up, lo, ct, L, tx, ot) (nI m, tl, ol, ups, los, cts, sets, met, pile, ty, oth, W)) (fun r => ⟨rfl, q_rel R X Y⟩)
  intro Q HQ
  obtain ⟨hm, hU, hD, hst, hsd, hN, hC⟩ := id R
  obtain ⟨hpu, hup, hlo, hct, hP⟩ := id X
  obtain ⟨hups, hlos, hcts, hS⟩ := id Y
  rcases q_ix v1 (n := 3) (by omega) with b | ⟨s, hs, rfl⟩
  · simp only [wpX_agree, wpY_agree, qx_sb b, qy_sb b, qz_0, qz_1, true_implies, not_true, not_false_iff, false_implies, and_true, true_and]
    exact HQ _
  · rcases q_ix v2 (n := 3) (by omega) with b | ⟨t, ht, rfl⟩
    · simp only [wpX_agree, wpY_agree, qx_sg hs, qy_sg hs, qn_in hs (show 3 < 2 ^ 31 by omega), nI_clamp (show s < 2 ^ 31 by omega), qx_sb b, qy_sb b, qz_0, qz_1, true_implies, not_true, not_false_iff, false_implies, and_true, true_and]
      exact HQ _
    · simp only [wpX_agree, wpY_agree, qx_sg hs, qy_sg hs, qn_in hs (show 3 < 2 ^ 31 by omega), nI_clamp (show s < 2 ^ 31 by omega), qx_sg ht, qy_sg ht, qn_in ht (show 3 < 2 ^ 31 by omega), nI_clamp (show t < 2 ^ 31 by omega), qz_0, qz_1, true_implies, not_true, not_false_iff, false_implies, and_true, true_and]
      have main : ∀ b, b = !qe (fun j => !decide (S s j = S t j)) m → ∃ n20 : Nat, wY_agree_20 (fun r' => Q (qI b) r') (nI s) (nI t) (nI m) tl ol ups los cts sets met pile ty oth W n20 0 := fun b hb =>
        ⟨m + 1, qy_ag20 hm hs ht (hS s hs) (hS t ht) (by rw [← hb]; exact HQ _) (m + 1) 0 (by omega) (by omega) (fun j hj => by omega)⟩
      refine br_c (fun e => main true ?_) (fun e => main false ?_)
      · rw [qe_f.mpr (fun j hj => ?_)]
        · rfl
        · rw [← q_hP hs hP j hj, ← q_hP ht hP j hj, e, decide_eq_true rfl]; rfl
      · cases h : qe (fun j => !decide (S s j = S t j)) m
        · refine absurd (qb_ext (fun j _ => ?_)) e
          rw [hP s hs j, hP t ht j]
          by_cases z : j < m
          · have := qe_f.mp h j z
            by_cases y : S s j = S t j
            · rw [y]
            · rw [decide_eq_false y] at this; cases this
          · rw [decide_eq_false z, Bool.false_and, Bool.false_and]
        · rfl
