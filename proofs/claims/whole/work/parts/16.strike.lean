/-! strike -/
theorem i_vc_strike {k : Nat} {u : SX} {v : SY} (I : i_Rel k u v) (hk : k + 4 ≤ 2048) (v1 : Int32) (v2 : Int32) : wpX_strike (fun r u' => wpY_strike (fun r' v' => r' = r ∧ i_Rel (k + 4) u' v') v v1 v2) u v1 v2 := by
  obtain ⟨m, U, D, pl, C, S, P, N, pu, up, lo, ct, L, tx, ot, tl, ol, ups, los, cts, sets, met, pile, ty, oth, W, rfl, rfl, R, X, Y⟩ := I
  suffices H : ∀ Q : Int32 → SX → Int32 → SY → Prop, (∀ r u' v', i_Rel (k + 4) u' v' → Q r u' r v') → wpX_strike (fun r u' => wpY_strike (fun r' v' => Q r u' r' v') (nI m, tl, ol, ups, los, cts, sets, met, pile, ty, oth, W) v1 v2) (nI m, P, N, pu, up, lo, ct, L, tx, ot) v1 v2 from H (fun r u' r' v' => r' = r ∧ i_Rel (k + 4) u' v') (fun r u' v' h => ⟨rfl, h⟩)
  intro Q HQ
  obtain ⟨hm, hU, hD, hst, hsd, hN, hC⟩ := id R
  obtain ⟨hpu, hup, hlo, hct, hP⟩ := id X
  obtain ⟨hups, hlos, hcts, hS⟩ := id Y
  have J := q_rel (k := k + 4) (L := L) (tx := tx) (ot := ot) (tl := tl) (ol := ol) (met := met) (pile := pile) (ty := ty) (oth := oth) (W := W) R X Y
  rcases q_ix v1 (n := 3) (by omega) with b | ⟨s, hs, rfl⟩
  · simp only [wpX_strike, wpY_strike, qx_sb b, qy_sb b, qz_0, qz_1, true_implies, not_true, not_false_iff, false_implies, and_true, true_and]
    exact HQ _ _ _ J
  · have hc := qd_nm m U pl (S s)
    simp only [wpX_strike, wpY_strike, qx_sg hs, qy_sg hs, qn_in hs (show 3 < 2 ^ 31 by omega), nI_clamp (show s < 2 ^ 31 by omega), qz_0, qz_1, true_implies, not_true, not_false_iff, false_implies, and_true, true_and]
    refine qx_text hm hs hpu hup hlo hU hD hst (q_hP hs hP) (fun L' tx' hL ht => ?_)
    rcases q_ix v2 (n := qd_n m U pl (S s)) (by omega) with b | ⟨j, hj, rfl⟩
    · by_cases h0 : v2 < 0
      · simp only [h0, qz_0, qz_1, true_implies, not_true, not_false_iff, false_implies, and_true, true_and]
        refine qy_text hm hs hups hlos hU hD (hS s hs) (fun met' ty' W' hW hty => ?_)
        exact HQ _ _ _ (q_rel R X Y)
      · have h2 : ¬ v2 < nI (qd_n m U pl (S s)) := Int32.not_lt.mpr (b.resolve_left h0)
        simp only [h0, h2, qz_0, qz_1, true_implies, not_true, not_false_iff, false_implies, and_true, true_and]
        refine qy_text hm hs hups hlos hU hD (hS s hs) (fun met' ty' W' hW hty => ?_)
        simp only [h2, qz_0, qz_1, true_implies, not_true, not_false_iff, false_implies, and_true, true_and]
        exact HQ _ _ _ (q_rel R X Y)
    · have hT := qd_Tm (D := D) hj
      have h2 : (nI j < nI (qd_n m U pl (S s))) = True := eq_true (nI_lt hj (by omega))
      simp only [qn_neg (show j < 2 ^ 31 by omega), h2, qn_in (show j < 60 by omega) (show 60 < 2 ^ 31 by omega), nI_clamp (show j < 2 ^ 31 by omega), ht j hj, qn_60, qn_lt (show m < 2 ^ 31 by omega) (show 60 < 2 ^ 31 by omega), qz_0, qz_1, true_implies, not_true, not_false_iff, false_implies, and_true, true_and]
      refine br_c (fun h60 => ?_) (fun h60 => ?_)
      · refine qx_make (o1 := some (qd_T m U D pl (S s) j)) (o2 := none) (b := false) h60 hs (fun a ha => by rw [← Option.some.inj ha]; exact hT) (fun a ha => nomatch ha) ?_
        refine qy_text hm hs hups hlos hU hD (hS s hs) (fun met' ty' W' hW hty => ?_)
        simp only [h2, hty j hj, qz_0, qz_1, true_implies, not_true, not_false_iff, false_implies, and_true, true_and]
        refine qy_make hm hs hS (fun _ sets' hsets => ?_) (fun e => by omega)
        exact HQ _ _ _ (q_rel (qR_make (o1 := some (qd_T m U D pl (S s) j)) (o2 := none) (b := false) R h60 (fun a ha => by rw [← Option.some.inj ha]; exact ⟨hT, qd_TS j⟩) (fun a ha => nomatch ha) (fun _ => ⟨_, rfl⟩) (fun _ => rfl)) (qX_make X h60 hs) (qY_make Y hsets))
      · refine qy_text hm hs hups hlos hU hD (hS s hs) (fun met' ty' W' hW hty => ?_)
        simp only [h2, hty j hj, qz_0, qz_1, true_implies, not_true, not_false_iff, false_implies, and_true, true_and]
        refine qy_make hm hs hS (fun e => absurd e h60) (fun _ => ?_)
        exact HQ _ _ _ (q_rel R X Y)
