/-! length, line, content, before -/
theorem i_vc_length {k : Nat} {u : SX} {v : SY} (I : i_Rel k u v) (hk : k + 4 ≤ 2048) (v1 : Int32) : wpX_length (fun r u' => wpY_length (fun r' v' => r' = r ∧ i_Rel (k + 4) u' v') v v1) u v1 := by
  obtain ⟨m, U, D, pl, C, S, P, N, pu, up, lo, ct, L, tx, ot, tl, ol, ups, los, cts, sets, met, pile, ty, oth, W, rfl, rfl, R, X, Y⟩ := I
  suffices H : ∀ Q : Int32 → SX → Int32 → SY → Prop, (∀ r u' v', i_Rel (k + 4) u' v' → Q r u' r v') → wpX_length (fun r u' => wpY_length (fun r' v' => Q r u' r' v') (nI m, tl, ol, ups, los, cts, sets, met, pile, ty, oth, W) v1) (nI m, P, N, pu, up, lo, ct, L, tx, ot) v1 from H (fun r u' r' v' => r' = r ∧ i_Rel (k + 4) u' v') (fun r u' v' h => ⟨rfl, h⟩)
  intro Q HQ
  obtain ⟨hm, hU, hD, hst, hsd, hN, hC⟩ := id R
  obtain ⟨hpu, hup, hlo, hct, hP⟩ := id X
  obtain ⟨hups, hlos, hcts, hS⟩ := id Y
  have J := q_rel (k := k + 4) (L := L) (tx := tx) (ot := ot) (tl := tl) (ol := ol) (met := met) (pile := pile) (ty := ty) (oth := oth) (W := W) R X Y
  rcases q_ix v1 (n := 3) (by omega) with b | ⟨s, hs, rfl⟩
  · simp only [wpX_length, wpY_length, qx_sb b, qy_sb b, qz_0, qz_1, true_implies, not_true, not_false_iff, false_implies, and_true, true_and]
    exact HQ _ _ _ J
  · simp only [wpX_length, wpY_length, qx_sg hs, qy_sg hs, qn_in hs (show 3 < 2 ^ 31 by omega), nI_clamp (show s < 2 ^ 31 by omega), qz_0, qz_1, true_implies, not_true, not_false_iff, false_implies, and_true, true_and]
    refine qx_text hm hs hpu hup hlo hU hD hst (q_hP hs hP) (fun L' tx' hL ht => ?_)
    refine qy_text hm hs hups hlos hU hD (hS s hs) (fun met' ty' W' hW hty => ?_)
    exact HQ _ _ _ (q_rel R X Y)
theorem i_vc_line {k : Nat} {u : SX} {v : SY} (I : i_Rel k u v) (hk : k + 4 ≤ 2048) (v1 : Int32) (v2 : Int32) : wpX_line (fun r u' => wpY_line (fun r' v' => r' = r ∧ i_Rel (k + 4) u' v') v v1 v2) u v1 v2 := by
  obtain ⟨m, U, D, pl, C, S, P, N, pu, up, lo, ct, L, tx, ot, tl, ol, ups, los, cts, sets, met, pile, ty, oth, W, rfl, rfl, R, X, Y⟩ := I
  suffices H : ∀ Q : Int32 → SX → Int32 → SY → Prop, (∀ r u' v', i_Rel (k + 4) u' v' → Q r u' r v') → wpX_line (fun r u' => wpY_line (fun r' v' => Q r u' r' v') (nI m, tl, ol, ups, los, cts, sets, met, pile, ty, oth, W) v1 v2) (nI m, P, N, pu, up, lo, ct, L, tx, ot) v1 v2 from H (fun r u' r' v' => r' = r ∧ i_Rel (k + 4) u' v') (fun r u' v' h => ⟨rfl, h⟩)
  intro Q HQ
  obtain ⟨hm, hU, hD, hst, hsd, hN, hC⟩ := id R
  obtain ⟨hpu, hup, hlo, hct, hP⟩ := id X
  obtain ⟨hups, hlos, hcts, hS⟩ := id Y
  have J := q_rel (k := k + 4) (L := L) (tx := tx) (ot := ot) (tl := tl) (ol := ol) (met := met) (pile := pile) (ty := ty) (oth := oth) (W := W) R X Y
  rcases q_ix v1 (n := 3) (by omega) with b | ⟨s, hs, rfl⟩
  · simp only [wpX_line, wpY_line, qx_sb b, qy_sb b, qz_0, qz_1, true_implies, not_true, not_false_iff, false_implies, and_true, true_and]
    exact HQ _ _ _ J
  · have hc := qd_nm m U pl (S s)
    simp only [wpX_line, wpY_line, qx_sg hs, qy_sg hs, qn_in hs (show 3 < 2 ^ 31 by omega), nI_clamp (show s < 2 ^ 31 by omega), qz_0, qz_1, true_implies, not_true, not_false_iff, false_implies, and_true, true_and]
    refine qx_text hm hs hpu hup hlo hU hD hst (q_hP hs hP) (fun L' tx' hL ht => ?_)
    rcases q_ix v2 (n := qd_n m U pl (S s)) (by omega) with b | ⟨j, hj, rfl⟩
    · by_cases h0 : v2 < 0
      · simp only [h0, qz_0, qz_1, true_implies, not_true, not_false_iff, false_implies, and_true, true_and]
        refine qy_text hm hs hups hlos hU hD (hS s hs) (fun met' ty' W' hW hty => ?_)
        exact HQ _ _ _ (q_rel R X Y)
      · have h1 := b.resolve_left h0
        have h2 : ¬ v2 < nI (qd_n m U pl (S s)) := Int32.not_lt.mpr h1
        simp only [h0, h2, qz_0, qz_1, true_implies, not_true, not_false_iff, false_implies, and_true, true_and]
        refine qy_text hm hs hups hlos hU hD (hS s hs) (fun met' ty' W' hW hty => ?_)
        simp only [h1, qz_0, qz_1, true_implies, not_true, not_false_iff, false_implies, and_true, true_and]
        exact HQ _ _ _ (q_rel R X Y)
    · have hT := qd_Tm (D := D) hj
      have h2 : (nI j < nI (qd_n m U pl (S s))) = True := eq_true (nI_lt hj (by omega))
      have h3 : (nI (qd_n m U pl (S s)) ≤ nI j) = False := eq_false (nI_ge hj (by omega))
      simp only [qn_neg (show j < 2 ^ 31 by omega), h2, qn_in (show j < 60 by omega) (show 60 < 2 ^ 31 by omega), nI_clamp (show j < 2 ^ 31 by omega), ht j hj, qz_0, qz_1, true_implies, not_true, not_false_iff, false_implies, and_true, true_and]
      refine qy_text hm hs hups hlos hU hD (hS s hs) (fun met' ty' W' hW hty => ?_)
      simp only [h3, hty j hj, qz_0, qz_1, true_implies, not_true, not_false_iff, false_implies, and_true, true_and]
      exact HQ _ _ _ (q_rel R X Y)
theorem i_vc_content {k : Nat} {u : SX} {v : SY} (I : i_Rel k u v) (hk : k + 4 ≤ 2048) (v1 : Int32) (v2 : Int32) : wpX_content (fun r u' => wpY_content (fun r' v' => r' = r ∧ i_Rel (k + 4) u' v') v v1 v2) u v1 v2 := by
  obtain ⟨m, U, D, pl, C, S, P, N, pu, up, lo, ct, L, tx, ot, tl, ol, ups, los, cts, sets, met, pile, ty, oth, W, rfl, rfl, R, X, Y⟩ := I
  suffices H : ∀ Q : Int32 → SX → Int32 → SY → Prop, (∀ r u' v', i_Rel (k + 4) u' v' → Q r u' r v') → wpX_content (fun r u' => wpY_content (fun r' v' => Q r u' r' v') (nI m, tl, ol, ups, los, cts, sets, met, pile, ty, oth, W) v1 v2) (nI m, P, N, pu, up, lo, ct, L, tx, ot) v1 v2 from H (fun r u' r' v' => r' = r ∧ i_Rel (k + 4) u' v') (fun r u' v' h => ⟨rfl, h⟩)
  intro Q HQ
  obtain ⟨hm, hU, hD, hst, hsd, hN, hC⟩ := id R
  obtain ⟨hpu, hup, hlo, hct, hP⟩ := id X
  obtain ⟨hups, hlos, hcts, hS⟩ := id Y
  have J := q_rel (k := k + 4) (L := L) (tx := tx) (ot := ot) (tl := tl) (ol := ol) (met := met) (pile := pile) (ty := ty) (oth := oth) (W := W) R X Y
  rcases q_ix v1 (n := 3) (by omega) with b | ⟨s, hs, rfl⟩
  · simp only [wpX_content, wpY_content, qx_sb b, qy_sb b, qz_0, qz_1, true_implies, not_true, not_false_iff, false_implies, and_true, true_and]
    exact HQ _ _ _ J
  · have hc := qd_nm m U pl (S s)
    simp only [wpX_content, wpY_content, qx_sg hs, qy_sg hs, qn_in hs (show 3 < 2 ^ 31 by omega), nI_clamp (show s < 2 ^ 31 by omega), qz_0, qz_1, true_implies, not_true, not_false_iff, false_implies, and_true, true_and]
    refine qx_text hm hs hpu hup hlo hU hD hst (q_hP hs hP) (fun L' tx' hL ht => ?_)
    rcases q_ix v2 (n := qd_n m U pl (S s)) (by omega) with b | ⟨j, hj, rfl⟩
    · by_cases h0 : v2 < 0
      · simp only [h0, qz_0, qz_1, true_implies, not_true, not_false_iff, false_implies, and_true, true_and]
        refine qy_text hm hs hups hlos hU hD (hS s hs) (fun met' ty' W' hW hty => ?_)
        exact HQ _ _ _ (q_rel R X Y)
      · have h1 := b.resolve_left h0
        have h2 : ¬ v2 < nI (qd_n m U pl (S s)) := Int32.not_lt.mpr h1
        simp only [h0, h2, qz_0, qz_1, true_implies, not_true, not_false_iff, false_implies, and_true, true_and]
        refine qy_text hm hs hups hlos hU hD (hS s hs) (fun met' ty' W' hW hty => ?_)
        simp only [h1, qz_0, qz_1, true_implies, not_true, not_false_iff, false_implies, and_true, true_and]
        exact HQ _ _ _ (q_rel R X Y)
    · have hT := qd_Tm (D := D) hj
      have h2 : (nI j < nI (qd_n m U pl (S s))) = True := eq_true (nI_lt hj (by omega))
      have h3 : (nI (qd_n m U pl (S s)) ≤ nI j) = False := eq_false (nI_ge hj (by omega))
      simp only [qn_neg (show j < 2 ^ 31 by omega), h2, qn_in (show j < 60 by omega) (show 60 < 2 ^ 31 by omega), nI_clamp (show j < 2 ^ 31 by omega), ht j hj, qn_in (show qd_T m U D pl (S s) j < 60 by omega) (show 60 < 2 ^ 31 by omega), nI_clamp (show qd_T m U D pl (S s) j < 2 ^ 31 by omega), hct _ hT, hcts _ hT, qz_0, qz_1, true_implies, not_true, not_false_iff, false_implies, and_true, true_and]
      refine qy_text hm hs hups hlos hU hD (hS s hs) (fun met' ty' W' hW hty => ?_)
      simp only [h3, hty j hj, qn_in (show qd_T m U D pl (S s) j < 60 by omega) (show 60 < 2 ^ 31 by omega), nI_clamp (show qd_T m U D pl (S s) j < 2 ^ 31 by omega), hct _ hT, hcts _ hT, qz_0, qz_1, true_implies, not_true, not_false_iff, false_implies, and_true, true_and]
      exact HQ _ _ _ (q_rel R X Y)
theorem i_vc_before {k : Nat} {u : SX} {v : SY} (I : i_Rel k u v) (hk : k + 4 ≤ 2048) (v1 : Int32) (v2 : Int32) (v3 : Int32) : wpX_before (fun r u' => wpY_before (fun r' v' => r' = r ∧ i_Rel (k + 4) u' v') v v1 v2 v3) u v1 v2 v3 := by
  obtain ⟨m, U, D, pl, C, S, P, N, pu, up, lo, ct, L, tx, ot, tl, ol, ups, los, cts, sets, met, pile, ty, oth, W, rfl, rfl, R, X, Y⟩ := I
  suffices H : ∀ Q : Int32 → SX → Int32 → SY → Prop, (∀ r u' v', i_Rel (k + 4) u' v' → Q r u' r v') → wpX_before (fun r u' => wpY_before (fun r' v' => Q r u' r' v') (nI m, tl, ol, ups, los, cts, sets, met, pile, ty, oth, W) v1 v2 v3) (nI m, P, N, pu, up, lo, ct, L, tx, ot) v1 v2 v3 from H (fun r u' r' v' => r' = r ∧ i_Rel (k + 4) u' v') (fun r u' v' h => ⟨rfl, h⟩)
  intro Q HQ
  obtain ⟨hm, hU, hD, hst, hsd, hN, hC⟩ := id R
  obtain ⟨hpu, hup, hlo, hct, hP⟩ := id X
  obtain ⟨hups, hlos, hcts, hS⟩ := id Y
  have J := q_rel (k := k + 4) (L := L) (tx := tx) (ot := ot) (tl := tl) (ol := ol) (met := met) (pile := pile) (ty := ty) (oth := oth) (W := W) R X Y
  simp only [wpX_before, wpY_before, wpX_isLineOf]
  rcases q_ix v1 (n := 3) (by omega) with b | ⟨s, hs, rfl⟩
  · simp only [qx_sb b, qy_sb b, qz_0, qz_1, true_implies, not_true, not_false_iff, false_implies, and_true, true_and]
    exact HQ _ _ _ J
  · rcases q_ix v2 (n := m) (by omega) with b | ⟨a, ha, rfl⟩
    · simp only [qx_sg hs, qy_sg hs, qn_in hs (show 3 < 2 ^ 31 by omega), nI_clamp (show s < 2 ^ 31 by omega), qx_pb b, qy_pb b, qz_0, qz_1, true_implies, not_true, not_false_iff, false_implies, and_true, true_and]
      exact HQ _ _ _ J
    · simp only [qx_sg hs, qy_sg hs, qn_in hs (show 3 < 2 ^ 31 by omega), nI_clamp (show s < 2 ^ 31 by omega), qx_pg hm ha, qy_pg hm ha, qn_in (show a < 60 by omega) (show 60 < 2 ^ 31 by omega), nI_clamp (show a < 2 ^ 31 by omega), hpu a ha, qx_isIn (show a < 64 by omega), q_hP hs hP a ha, qI_0, qz_0, qz_1, true_implies, not_true, not_false_iff, false_implies, and_true, true_and]
      rcases q_ix v3 (n := m) (by omega) with b | ⟨c, hc, rfl⟩
      · simp only [qx_pb b, qy_pb b, qz_0, qz_1, true_implies, not_true, not_false_iff, false_implies, and_true, true_and]
        cases pl a <;> cases S s a <;> simp only [reduceCtorEq, qz_0, qz_1, true_implies, not_true, not_false_iff, false_implies, and_true, true_and] <;> exact HQ _ _ _ J
      · simp only [qx_pg hm hc, qy_pg hm hc, qn_in (show c < 60 by omega) (show 60 < 2 ^ 31 by omega), nI_clamp (show c < 2 ^ 31 by omega), hpu c hc, qx_isIn (show c < 64 by omega), q_hP hs hP c hc, qn_eq (show a < 2 ^ 31 by omega) (show c < 2 ^ 31 by omega), qy_hasIt hs (show a < 60 by omega) (hS s hs a ha), qy_hasIt hs (show c < 60 by omega) (hS s hs c hc), qy_isLine hm ha (hlos a ha) (hD a ha), qy_isLine hm hc (hlos c hc) (hD c hc), qI_0, qz_0, qz_1, true_implies, not_true, not_false_iff, false_implies, and_true, true_and]
        cases h1 : pl a
        · cases S s a <;> cases S s c <;> simp only [reduceCtorEq, qz_0, qz_1, true_implies, not_true, not_false_iff, false_implies, and_true, true_and] <;> exact br_c (fun _ => HQ _ _ _ J) (fun _ => HQ _ _ _ J)
        · cases h2 : S s a
          · cases S s c <;> simp only [reduceCtorEq, qz_0, qz_1, true_implies, not_true, not_false_iff, false_implies, and_true, true_and] <;> exact br_c (fun _ => HQ _ _ _ J) (fun _ => HQ _ _ _ J)
          · cases h3 : pl c
            · cases S s c <;> simp only [reduceCtorEq, qz_0, qz_1, true_implies, not_true, not_false_iff, false_implies, and_true, true_and] <;> exact br_c (fun _ => HQ _ _ _ J) (fun _ => HQ _ _ _ J)
            · cases h4 : S s c
              · simp only [reduceCtorEq, qz_0, qz_1, true_implies, not_true, not_false_iff, false_implies, and_true, true_and]
                exact br_c (fun _ => HQ _ _ _ J) (fun _ => HQ _ _ _ J)
              · simp only [reduceCtorEq, qz_0, qz_1, true_implies, not_true, not_false_iff, false_implies, and_true, true_and]
                refine qx_findWays hm hs hpu hup hlo hU hD (q_hP hs hP) (fun L' hL => ?_)
                simp only [qx_bef (show a < 60 by omega) (show c < 60 by omega), qI_fit, qz_0, qz_1, true_implies, not_true, not_false_iff, false_implies, and_true, true_and]
                have e1 : qt_bef L' a c = qt_bef (qw_W m U D pl (S s)) a c := by unfold qt_bef; rw [hL a ha, hL c hc]
                rw [e1]
                refine br_c (fun e => ?_) (fun e => ?_)
                · rw [e, qt_self]
                  exact HQ _ _ _ (q_rel R X Y)
                · refine qy_findWays hm hs hups hlos hU hD (hS s hs) (fun W' hW => ?_)
                  have e2 : qt_bef W' a c = qt_bef (qw_W m U D pl (S s)) a c := by unfold qt_bef; rw [hW a ha, hW c hc]
                  simp only [qy_bef (show a < 60 by omega) (show c < 60 by omega), qI_fit, e2, qz_0, qz_1, true_implies, not_true, not_false_iff, false_implies, and_true, true_and]
                  exact HQ _ _ _ (q_rel R X Y)
