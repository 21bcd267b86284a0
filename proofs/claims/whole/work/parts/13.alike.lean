/-! alike -/
section
variable {m c : Nat} {T V : Nat → Nat} {C : Nat → Int32} {P N L : Nat → Int64} {pu up lo ct tx ot : Nat → Int32}
theorem qx_al48 {post : Int32 → SX → Prop} (hm : m ≤ 60) (hc : c ≤ m) (hct : ∀ p, p < m → ct p = C p) (hT : ∀ i, i < c → tx i = nI (T i)) (hTm : ∀ i, i < c → T i < m) (hV : ∀ i, i < c → ot i = nI (V i)) (hVm : ∀ i, i < c → V i < m) (K : post (qI (!qe (fun j => !decide (C (T j) = C (V j))) c)) (nI m, P, N, pu, up, lo, ct, L, tx, ot)) :
    ∀ n i, i ≤ c → c - i < n → (∀ j, j < i → C (T j) = C (V j)) → wX_alike_48 post (nI c) (nI m) P N pu up lo ct L tx ot n (nI i) := by
  intro n
  induction n with
  | zero => intro i hi hn; omega
  | succ n ih =>
    intro i hi hn hI
    simp only [wX_alike_48]
    rcases Nat.lt_or_ge i c with hlt | hge
    · refine br_f (nI_ge hlt (by omega)) ?_
      have ti := hTm i hlt
      have vi := hVm i hlt
      simp only [qn_in (show i < 60 by omega) (show 60 < 2 ^ 31 by omega), nI_clamp (show i < 2 ^ 31 by omega), hT i hlt, hV i hlt, qn_in (show T i < 60 by omega) (show 60 < 2 ^ 31 by omega), nI_clamp (show T i < 2 ^ 31 by omega), qn_in (show V i < 60 by omega) (show 60 < 2 ^ 31 by omega), nI_clamp (show V i < 2 ^ 31 by omega), hct _ ti, hct _ vi, nI_1, forall_eq, true_and]
      refine br_c (fun h => ih (i + 1) (by omega) (by omega) (fun j hj => ?_)) (fun h => ?_)
      · rcases Nat.lt_or_ge j i with z | z
        · exact hI j z
        · rw [show j = i by omega]; exact h
      · have e : qe (fun j => !decide (C (T j) = C (V j))) c = true := qe_t.mpr ⟨i, hlt, by rw [decide_eq_false h]; rfl⟩
        rw [e] at K; exact K
    · have e : i = c := by omega
      subst e
      have e : qe (fun j => !decide (C (T j) = C (V j))) i = false := qe_f.mpr (fun j hj => by rw [decide_eq_true (hI j hj)]; rfl)
      rw [e] at K
      exact br_t (nI_le (Nat.le_refl _) (by omega)) K
end
section
variable {m c : Nat} {T V : Nat → Nat} {C : Nat → Int32} {ups los cts sets met pile ty oth : Nat → Int32} {W : Nat → Int64} {mc tl ol : Int32}
theorem qy_al89 {post : Int32 → SY → Prop} {b : Bool} (hm : m ≤ 60) (hc : c ≤ m) (hcts : ∀ p, p < m → cts p = C p) (hV : ∀ i, i < c → ty i = nI (V i)) (hVm : ∀ i, i < c → V i < m) (hO : b = true → ∀ i, i < c → oth i = C (T i)) (K : post (qI (b && !qe (fun j => !decide (C (T j) = C (V j))) c)) (nI m, nI c, ol, ups, los, cts, sets, met, pile, ty, oth, W)) :
    ∀ n i, i ≤ c → c - i < n → wY_alike_89 post (nI m) (nI c) ol ups los cts sets met pile ty oth W n (qI (b && !qe (fun j => !decide (C (T j) = C (V j))) i)) (nI i) := by
  intro n
  induction n with
  | zero => intro i hi hn; omega
  | succ n ih =>
    intro i hi hn
    simp only [wY_alike_89]
    rcases Nat.lt_or_ge i c with hlt | hge
    · refine br_f (nI_ge hlt (by omega)) ?_
      have vi := hVm i hlt
      have IH := ih (i + 1) (by omega) (by omega)
      simp only [qe] at IH
      simp only [qn_in (show i < 60 by omega) (show 60 < 2 ^ 31 by omega), nI_clamp (show i < 2 ^ 31 by omega), hV i hlt, qn_in (show V i < 60 by omega) (show 60 < 2 ^ 31 by omega), nI_clamp (show V i < 2 ^ 31 by omega), hcts _ vi, nI_1, forall_eq, true_and, qI_0]
      cases h0 : b && !qe (fun j => !decide (C (T j) = C (V j))) i
      · refine ⟨fun _ => ?_, fun z => absurd rfl z⟩
        have e : (b && !(qe (fun j => !decide (C (T j) = C (V j))) i || !decide (C (T i) = C (V i)))) = false := by
          revert h0
          cases b <;> cases qe (fun j => !decide (C (T j) = C (V j))) i <;> simp
        rw [e] at IH; exact IH
      · have hh : b = true ∧ qe (fun j => !decide (C (T j) = C (V j))) i = false := by
          revert h0
          cases b <;> cases qe (fun j => !decide (C (T j) = C (V j))) i <;> simp
        rw [hh.1, hh.2, Bool.true_and, Bool.false_or, Bool.not_not] at IH
        refine ⟨(fun z => nomatch z), fun _ => ?_⟩
        rw [hO hh.1 i hlt]
        refine br_c (fun h => ?_) (fun h => ?_)
        · rw [decide_eq_true h] at IH; exact IH
        · rw [decide_eq_false h] at IH; exact IH
    · have e : i = c := by omega
      subst e
      exact br_t (nI_le (Nat.le_refl _) (by omega)) ⟨qI_fit _, K⟩
theorem qy_al33 {post : Int32 → SY → Prop} {t : Int32} (hm : m ≤ 60) (hc : c ≤ m) (hcts : ∀ p, p < m → cts p = C p) (hT : ∀ i, i < c → ty i = nI (T i)) (hTm : ∀ i, i < c → T i < m)
    (K : ∀ oth, (∀ i, i < c → oth i = C (T i)) → wpY_findText (fun u => match u with | (f_made_44, f_textLength_45, f_otherLength_46, a_uppers_47, a_lowers_48, a_contents_49, a_sets_50, a_met_51, a_pile_52, a_text_53, a_others_54, a_ways_55) => (((f_otherLength_46 = f_textLength_45 → (∃ n89 : Nat, wY_alike_89 post f_made_44 f_textLength_45 f_otherLength_46 a_uppers_47 a_lowers_48 a_contents_49 a_sets_50 a_met_51 a_pile_52 a_text_53 a_others_54 a_ways_55 n89 1 0)) ∧ (¬ f_otherLength_46 = f_textLength_45 → (∃ n89 : Nat, wY_alike_89 post f_made_44 f_textLength_45 f_otherLength_46 a_uppers_47 a_lowers_48 a_contents_49 a_sets_50 a_met_51 a_pile_52 a_text_53 a_others_54 a_ways_55 n89 0 0))))) (nI m, nI c, nI c, ups, los, cts, sets, met, pile, ty, oth, W) t) :
    ∀ n i oth, i ≤ c → c - i < n → (∀ j, j < i → oth j = C (T j)) → wY_alike_33 post t (nI m) (nI c) (nI c) n (nI i) ups los cts sets met pile ty oth W := by
  intro n
  induction n with
  | zero => intro i oth hi hn; omega
  | succ n ih =>
    intro i oth hi hn hO
    simp only [wY_alike_33]
    rcases Nat.lt_or_ge i c with hlt | hge
    · refine br_f (nI_ge hlt (by omega)) ?_
      have ti := hTm i hlt
      simp only [qn_in (show i < 60 by omega) (show 60 < 2 ^ 31 by omega), nI_clamp (show i < 2 ^ 31 by omega), hT i hlt, qn_in (show T i < 60 by omega) (show 60 < 2 ^ 31 by omega), nI_clamp (show T i < 2 ^ 31 by omega), hcts _ ti, nI_1, forall_eq, true_and]
      refine ih (i + 1) _ (by omega) (by omega) (fun j hj => ?_)
      by_cases z : j = i
      · rw [z, qu_s]
      · rw [qu_n z]; exact hO j (by omega)
    · have e : i = c := by omega
      subst e
      exact br_t (nI_le (Nat.le_refl _) (by omega)) (K oth hO)
end
theorem i_vc_alike {k : Nat} {u : SX} {v : SY} (I : i_Rel k u v) (hk : k + 4 ≤ 2048) (v1 : Int32) (v2 : Int32) : wpX_alike (fun r u' => wpY_alike (fun r' v' => r' = r ∧ i_Rel (k + 4) u' v') v v1 v2) u v1 v2 := by
  obtain ⟨m, U, D, pl, C, S, P, N, pu, up, lo, ct, L, tx, ot, tl, ol, ups, los, cts, sets, met, pile, ty, oth, W, rfl, rfl, R, X, Y⟩ := I
  suffices H : ∀ Q : Int32 → SX → Int32 → SY → Prop, (∀ r u' v', i_Rel (k + 4) u' v' → Q r u' r v') → wpX_alike (fun r u' => wpY_alike (fun r' v' => Q r u' r' v') (nI m, tl, ol, ups, los, cts, sets, met, pile, ty, oth, W) v1 v2) (nI m, P, N, pu, up, lo, ct, L, tx, ot) v1 v2 from H (fun r u' r' v' => r' = r ∧ i_Rel (k + 4) u' v') (fun r u' v' h => ⟨rfl, h⟩)
  intro Q HQ
  obtain ⟨hm, hU, hD, hst, hsd, hN, hC⟩ := id R
  obtain ⟨hpu, hup, hlo, hct, hP⟩ := id X
  obtain ⟨hups, hlos, hcts, hS⟩ := id Y
  have J := q_rel (k := k + 4) (L := L) (tx := tx) (ot := ot) (tl := tl) (ol := ol) (met := met) (pile := pile) (ty := ty) (oth := oth) (W := W) R X Y
  rcases q_ix v1 (n := 3) (by omega) with b | ⟨s, hs, rfl⟩
  · simp only [wpX_alike, wpY_alike, qx_sb b, qy_sb b, qz_0, qz_1, true_implies, not_true, not_false_iff, false_implies, and_true, true_and]
    exact HQ _ _ _ J
  · rcases q_ix v2 (n := 3) (by omega) with b | ⟨t, ht, rfl⟩
    · simp only [wpX_alike, wpY_alike, qx_sg hs, qy_sg hs, qn_in hs (show 3 < 2 ^ 31 by omega), nI_clamp (show s < 2 ^ 31 by omega), qx_sb b, qy_sb b, qz_0, qz_1, true_implies, not_true, not_false_iff, false_implies, and_true, true_and]
      exact HQ _ _ _ J
    · have hc := qd_nm m U pl (S s)
      have hd := qd_nm m U pl (S t)
      simp only [wpX_alike, wpY_alike, qx_sg hs, qy_sg hs, qx_sg ht, qy_sg ht, qz_0, qz_1, true_implies, not_true, not_false_iff, false_implies, and_true, true_and]
      refine qx_text hm hs hpu hup hlo hU hD hst (q_hP hs hP) (fun L' tx' hL hx => ?_)
      refine qx_texto hm ht hpu hup hlo hU hD hst (q_hP ht hP) (fun L2 ot' hL2 ho => ?_)
      have yy : ∀ (r : Int32) (L tx ot : _), r = qI (decide (qd_n m U pl (S s) = qd_n m U pl (S t)) && !qe (fun j => !decide (C (qd_T m U D pl (S s) j) = C (qd_T m U D pl (S t) j))) (qd_n m U pl (S t))) → wpY_alike (fun r' v' => Q r (nI m, P, N, pu, up, lo, ct, L, tx, ot) r' v') (nI m, tl, ol, ups, los, cts, sets, met, pile, ty, oth, W) (nI s) (nI t) := by
        intro r L tx ot hr
        simp only [wpY_alike, qy_sg hs, qy_sg ht, qz_0, qz_1, true_implies, not_true, not_false_iff, false_implies, and_true, true_and]
        refine qy_text hm hs hups hlos hU hD (hS s hs) (fun met' ty' W' hW hty => ?_)
        refine ⟨qd_n m U pl (S s) + 1, qy_al33 (T := qd_T m U D pl (S s)) hm hc hcts hty (fun i hi => qd_Tm hi) (fun oth' hoth => ?_) (qd_n m U pl (S s) + 1) 0 oth (by omega) (by omega) (fun j hj => by omega)⟩
        refine qy_text hm ht hups hlos hU hD (hS t ht) (fun met2 ty2 W2 hW2 hty2 => ?_)
        simp only [qn_eq (show qd_n m U pl (S s) < 2 ^ 31 by omega) (show qd_n m U pl (S t) < 2 ^ 31 by omega)]
        refine br_c (fun e => ?_) (fun e => ?_)
        · refine ⟨qd_n m U pl (S t) + 1, qy_al89 (b := true) (T := qd_T m U D pl (S s)) (V := qd_T m U D pl (S t)) hm hd hcts hty2 (fun i hi => qd_Tm hi) (fun _ i hi => hoth i (by omega)) ?_ (qd_n m U pl (S t) + 1) 0 (by omega) (by omega)⟩
          rw [decide_eq_true e] at hr
          rw [← hr]
          exact HQ _ _ _ (q_rel R X Y)
        · refine ⟨qd_n m U pl (S t) + 1, qy_al89 (b := false) (T := qd_T m U D pl (S s)) (V := qd_T m U D pl (S t)) hm hd hcts hty2 (fun i hi => qd_Tm hi) (fun z => nomatch z) ?_ (qd_n m U pl (S t) + 1) 0 (by omega) (by omega)⟩
          rw [decide_eq_false e] at hr
          rw [← hr]
          exact HQ _ _ _ (q_rel R X Y)
      simp only [wpY_alike, qy_sg hs, qy_sg ht, qz_0, qz_1, true_implies, not_true, not_false_iff, false_implies, and_true, true_and] at yy
      simp only [qn_eq (show qd_n m U pl (S s) < 2 ^ 31 by omega) (show qd_n m U pl (S t) < 2 ^ 31 by omega)]
      refine br_c (fun e => ?_) (fun e => ?_)
      · refine ⟨qd_n m U pl (S s) + 1, qx_al48 (T := qd_T m U D pl (S s)) (V := qd_T m U D pl (S t)) hm hc hct hx (fun i hi => qd_Tm hi) (fun i hi => ho i (by omega)) (fun i hi => qd_Tm (by omega)) ?_ (qd_n m U pl (S s) + 1) 0 (by omega) (by omega) (fun j hj => by omega)⟩
        exact yy _ _ _ _ (by rw [decide_eq_true e, Bool.true_and, e])
      · exact yy _ _ _ _ (by rw [decide_eq_false e]; rfl)
