/-! conflicts, rings: pairs of places of the text -/
def qp_g (fl : Bool) (M : Nat → Int64) (a b : Nat) : Bool := bif fl then (qb_t (M a) b && qb_t (M b) a) else (!qt_bef M a b && !qt_bef M b a)
def qp_h (fl : Bool) (M : Nat → Int64) (T : Nat → Nat) (i j : Nat) : Nat := (decide (i < j) && qp_g fl M (T i) (T j)).toNat
section
variable {m c : Nat} {T : Nat → Nat} {M : Nat → Int64} {P N L : Nat → Int64} {pu up lo ct tx ot : Nat → Int32}
theorem qx_conflicts37 {post : Int32 → SX → Prop} {J : Int32 → Int32 → Prop} {i A : Nat} (hm : m ≤ 60) (hc : c ≤ m) (hT : ∀ i, i < c → tx i = nI (T i)) (hTm : ∀ i, i < c → T i < m) (hL : qq m L M) (hi : i < c) (K : J (nI (A + qs (qp_h false M T i) c)) (nI (i + 1))) :
    ∀ n j, i < j → j ≤ c → c - j < n → wX_conflicts_37 post J (nI c) (nI i) (nI m) P N pu up lo ct L tx ot n (nI (A + qs (qp_h false M T i) j)) (nI j) := by
  intro n
  induction n with
  | zero => intro j h1 h2 hn; omega
  | succ n ih =>
    intro j hij hj hn
    simp only [wX_conflicts_37]
    rcases Nat.lt_or_ge j c with hlt | hge
    · refine br_f (nI_ge hlt (by omega)) ?_
      have ti := hTm i hi
      have tj := hTm j hlt
      have IH := ih (j + 1) (by omega) (by omega) (by omega)
      simp only [qs] at IH
      rw [← Nat.add_assoc] at IH
      have e : qp_h false M T i j = (qp_g false L (T i) (T j)).toNat := by
        unfold qp_h qp_g qt_bef
        rw [hL _ ti, hL _ tj, decide_eq_true hij, Bool.true_and]
      rw [e] at IH
      simp only [qp_g, cond_true, cond_false] at IH
      simp only [qn_in (show i < 60 by omega) (show 60 < 2 ^ 31 by omega), qn_in (show j < 60 by omega) (show 60 < 2 ^ 31 by omega), nI_clamp (show i < 2 ^ 31 by omega), nI_clamp (show j < 2 ^ 31 by omega), hT i hi, hT j hlt, qx_bef (show T i < 60 by omega) (show T j < 60 by omega), qx_bef (show T j < 60 by omega) (show T i < 60 by omega), qI_0, nI_1, forall_eq, true_and]
      cases h1 : qt_bef L (T i) (T j)
      · refine ⟨fun _ => ?_, fun z => absurd rfl z⟩
        cases h2 : qt_bef L (T j) (T i)
        · rw [h1, h2] at IH
          exact ⟨fun _ => IH, fun z => absurd rfl z⟩
        · rw [h1, h2] at IH
          exact ⟨(fun z => nomatch z), fun _ => IH⟩
      · rw [h1] at IH
        exact ⟨(fun z => nomatch z), fun _ => IH⟩
    · have e : j = c := by omega
      subst e
      refine br_t (nI_le (Nat.le_refl _) (by omega)) ?_
      simp only [nI_1, forall_eq]
      exact K
theorem qx_conflicts25 {post : Int32 → SX → Prop} (hm : m ≤ 60) (hc : c ≤ m) (hT : ∀ i, i < c → tx i = nI (T i)) (hTm : ∀ i, i < c → T i < m) (hL : qq m L M) (K : post (nI (qs (fun i => qs (qp_h false M T i) c) c)) (nI m, P, N, pu, up, lo, ct, L, tx, ot)) :
    ∀ n i, i ≤ c → c - i < n → wX_conflicts_25 post (nI c) (nI m) P N pu up lo ct L tx ot n (nI (qs (fun i => qs (qp_h false M T i) c) i)) (nI i) := by
  intro n
  induction n with
  | zero => intro i hi hn; omega
  | succ n ih =>
    intro i hi hn
    simp only [wX_conflicts_25]
    rcases Nat.lt_or_ge i c with hlt | hge
    · refine br_f (nI_ge hlt (by omega)) ?_
      simp only [nI_1, forall_eq]
      have T := qx_conflicts37 (post := post) (P := P) (N := N) (pu := pu) (up := up) (lo := lo) (ct := ct) (ot := ot) (A := qs (fun i => qs (qp_h false M T i) c) i) hm hc hT hTm hL hlt (ih (i + 1) (by omega) (by omega)) (c + 1) (i + 1) (by omega) (by omega) (by omega)
      rw [qs_zero (i + 1) (fun j hj => by unfold qp_h; rw [decide_eq_false (by omega), Bool.false_and]; rfl), Nat.add_zero] at T
      exact ⟨c + 1, T⟩
    · have e : i = c := by omega
      subst e
      exact br_t (nI_le (Nat.le_refl _) (by omega)) K
theorem qx_rings37 {post : Int32 → SX → Prop} {J : Int32 → Int32 → Prop} {i A : Nat} (hm : m ≤ 60) (hc : c ≤ m) (hT : ∀ i, i < c → tx i = nI (T i)) (hTm : ∀ i, i < c → T i < m) (hL : qq m L M) (hi : i < c) (K : J (nI (A + qs (qp_h true M T i) c)) (nI (i + 1))) :
    ∀ n j, i < j → j ≤ c → c - j < n → wX_rings_37 post J (nI c) (nI i) (nI m) P N pu up lo ct L tx ot n (nI (A + qs (qp_h true M T i) j)) (nI j) := by
  intro n
  induction n with
  | zero => intro j h1 h2 hn; omega
  | succ n ih =>
    intro j hij hj hn
    simp only [wX_rings_37]
    rcases Nat.lt_or_ge j c with hlt | hge
    · refine br_f (nI_ge hlt (by omega)) ?_
      have ti := hTm i hi
      have tj := hTm j hlt
      have IH := ih (j + 1) (by omega) (by omega) (by omega)
      simp only [qs] at IH
      rw [← Nat.add_assoc] at IH
      have e : qp_h true M T i j = (qp_g true L (T i) (T j)).toNat := by
        unfold qp_h qp_g qt_bef
        rw [hL _ ti, hL _ tj, decide_eq_true hij, Bool.true_and]
      rw [e] at IH
      simp only [qp_g, cond_true, cond_false] at IH
      simp only [qn_in (show i < 60 by omega) (show 60 < 2 ^ 31 by omega), qn_in (show j < 60 by omega) (show 60 < 2 ^ 31 by omega), nI_clamp (show i < 2 ^ 31 by omega), nI_clamp (show j < 2 ^ 31 by omega), hT i hi, hT j hlt, qx_each (show T i < 60 by omega) (show T j < 60 by omega), qI_0, nI_1, forall_eq, true_and]
      cases h1 : qb_t (L (T i)) (T j) && qb_t (L (T j)) (T i)
      · rw [h1] at IH
        exact ⟨fun _ => IH, fun z => absurd rfl z⟩
      · rw [h1] at IH
        exact ⟨(fun z => nomatch z), fun _ => IH⟩
    · have e : j = c := by omega
      subst e
      refine br_t (nI_le (Nat.le_refl _) (by omega)) ?_
      simp only [nI_1, forall_eq]
      exact K
theorem qx_rings25 {post : Int32 → SX → Prop} (hm : m ≤ 60) (hc : c ≤ m) (hT : ∀ i, i < c → tx i = nI (T i)) (hTm : ∀ i, i < c → T i < m) (hL : qq m L M) (K : post (nI (qs (fun i => qs (qp_h true M T i) c) c)) (nI m, P, N, pu, up, lo, ct, L, tx, ot)) :
    ∀ n i, i ≤ c → c - i < n → wX_rings_25 post (nI c) (nI m) P N pu up lo ct L tx ot n (nI (qs (fun i => qs (qp_h true M T i) c) i)) (nI i) := by
  intro n
  induction n with
  | zero => intro i hi hn; omega
  | succ n ih =>
    intro i hi hn
    simp only [wX_rings_25]
    rcases Nat.lt_or_ge i c with hlt | hge
    · refine br_f (nI_ge hlt (by omega)) ?_
      simp only [nI_1, forall_eq]
      have T := qx_rings37 (post := post) (P := P) (N := N) (pu := pu) (up := up) (lo := lo) (ct := ct) (ot := ot) (A := qs (fun i => qs (qp_h true M T i) c) i) hm hc hT hTm hL hlt (ih (i + 1) (by omega) (by omega)) (c + 1) (i + 1) (by omega) (by omega) (by omega)
      rw [qs_zero (i + 1) (fun j hj => by unfold qp_h; rw [decide_eq_false (by omega), Bool.false_and]; rfl), Nat.add_zero] at T
      exact ⟨c + 1, T⟩
    · have e : i = c := by omega
      subst e
      exact br_t (nI_le (Nat.le_refl _) (by omega)) K
end
section
variable {m c : Nat} {T : Nat → Nat} {M : Nat → Int64} {ups los cts sets met pile ty oth : Nat → Int32} {W : Nat → Int64} {ol : Int32}
theorem qy_cp22 {post : Int32 → SY → Prop} {J : Int32 → Int32 → Prop} {i A : Nat} {fl : Bool} (hm : m ≤ 60) (hc : c ≤ m) (hT : ∀ i, i < c → ty i = nI (T i)) (hTm : ∀ i, i < c → T i < m) (hW : qq m W M) (hi : i < c) (K : J (nI (A + qs (fun k => qp_h fl M T k i) i)) (nI (i + 1))) :
    ∀ n j, j ≤ i → i - j < n → wY_countPairs_22 post J (qI fl) (nI i) (nI m) (nI c) ol ups los cts sets met pile ty oth W n (nI (A + qs (fun k => qp_h fl M T k i) j)) (nI j) := by
  intro n
  induction n with
  | zero => intro j h1 hn; omega
  | succ n ih =>
    intro j hj hn
    simp only [wY_countPairs_22]
    rcases Nat.lt_or_ge j i with hlt | hge
    · refine br_f (nI_ge hlt (by omega)) ?_
      have ti := hTm i hi
      have tj := hTm j (by omega)
      have IH := ih (j + 1) (by omega) (by omega)
      simp only [qs] at IH
      rw [← Nat.add_assoc] at IH
      have e : qp_h fl M T j i = (qp_g fl W (T j) (T i)).toNat := by
        unfold qp_h qp_g qt_bef
        rw [hW _ ti, hW _ tj, decide_eq_true hlt, Bool.true_and]
      rw [e] at IH
      simp only [qn_in (show i < 60 by omega) (show 60 < 2 ^ 31 by omega), qn_in (show j < 60 by omega) (show 60 < 2 ^ 31 by omega), nI_clamp (show i < 2 ^ 31 by omega), nI_clamp (show j < 2 ^ 31 by omega), hT i hi, hT j (by omega), qy_leads (show T i < 60 by omega) (show T j < 60 by omega), qy_leads (show T j < 60 by omega) (show T i < 60 by omega), qI_0, qI_inj, nI_1, forall_eq, true_and]
      unfold qp_g qt_bef at IH
      cases fl <;> cases h1 : qb_t (W (T i)) (T j) <;> cases h2 : qb_t (W (T j)) (T i) <;> rw [h1, h2] at IH <;> simp only [reduceCtorEq, true_implies, not_true, not_false_iff, false_implies, and_true, true_and] <;> exact IH
    · have e : j = i := by omega
      subst e
      refine br_t (nI_le (Nat.le_refl _) (by omega)) ?_
      simp only [nI_1, forall_eq]
      exact K
theorem qy_cp10 {post : Int32 → SY → Prop} {fl : Bool} (hm : m ≤ 60) (hc : c ≤ m) (hT : ∀ i, i < c → ty i = nI (T i)) (hTm : ∀ i, i < c → T i < m) (hW : qq m W M) (K : post (nI (qs (fun i => qs (fun k => qp_h fl M T k i) c) c)) (nI m, nI c, ol, ups, los, cts, sets, met, pile, ty, oth, W)) :
    ∀ n i, i ≤ c → c - i < n → wY_countPairs_10 post (qI fl) (nI m) (nI c) ol ups los cts sets met pile ty oth W n (nI (qs (fun i => qs (fun k => qp_h fl M T k i) c) i)) (nI i) := by
  intro n
  induction n with
  | zero => intro i hi hn; omega
  | succ n ih =>
    intro i hi hn
    simp only [wY_countPairs_10]
    rcases Nat.lt_or_ge i c with hlt | hge
    · refine br_f (nI_ge hlt (by omega)) ?_
      have e : qs (fun k => qp_h fl M T k i) c = qs (fun k => qp_h fl M T k i) i := by
        have := qs_ext (f := fun k => qp_h fl M T k i) (n := i) (c - i) (fun k hk => by unfold qp_h; rw [decide_eq_false (by omega), Bool.false_and]; rfl)
        rw [show i + (c - i) = c by omega] at this
        exact this
      have IH := ih (i + 1) (by omega) (by omega)
      simp only [qs] at IH
      rw [e] at IH
      exact ⟨i + 1, qy_cp22 hm hc hT hTm hW hlt IH (i + 1) 0 (by omega) (by omega)⟩
    · have e : i = c := by omega
      subst e
      exact br_t (nI_le (Nat.le_refl _) (by omega)) K
end
theorem i_vc_conflicts {k : Nat} {u : SX} {v : SY} (I : i_Rel k u v) (hk : k + 4 ≤ 2048) (v1 : Int32) : wpX_conflicts (fun r u' => wpY_conflicts (fun r' v' => r' = r ∧ i_Rel (k + 4) u' v') v v1) u v1 := by
  obtain ⟨m, U, D, pl, C, S, P, N, pu, up, lo, ct, L, tx, ot, tl, ol, ups, los, cts, sets, met, pile, ty, oth, W, rfl, rfl, R, X, Y⟩ := I
  suffices H : ∀ Q : Int32 → SX → Int32 → SY → Prop, (∀ r u' v', i_Rel (k + 4) u' v' → Q r u' r v') → wpX_conflicts (fun r u' => wpY_conflicts (fun r' v' => Q r u' r' v') (nI m, tl, ol, ups, los, cts, sets, met, pile, ty, oth, W) v1) (nI m, P, N, pu, up, lo, ct, L, tx, ot) v1 from H (fun r u' r' v' => r' = r ∧ i_Rel (k + 4) u' v') (fun r u' v' h => ⟨rfl, h⟩)
  intro Q HQ
  obtain ⟨hm, hU, hD, hst, hsd, hN, hC⟩ := id R
  obtain ⟨hpu, hup, hlo, hct, hP⟩ := id X
  obtain ⟨hups, hlos, hcts, hS⟩ := id Y
  have J := q_rel (k := k + 4) (L := L) (tx := tx) (ot := ot) (tl := tl) (ol := ol) (met := met) (pile := pile) (ty := ty) (oth := oth) (W := W) R X Y
  rcases q_ix v1 (n := 3) (by omega) with b | ⟨s, hs, rfl⟩
  · simp only [wpX_conflicts, wpY_conflicts, qx_sb b, qy_sb b, qz_0, qz_1, true_implies, not_true, not_false_iff, false_implies, and_true, true_and]
    exact HQ _ _ _ J
  · have hc := qd_nm m U pl (S s)
    simp only [wpX_conflicts, wpY_conflicts, wpY_countPairs, qx_sg hs, qy_sg hs, qn_in hs (show 3 < 2 ^ 31 by omega), nI_clamp (show s < 2 ^ 31 by omega), qz_0, qz_1, true_implies, not_true, not_false_iff, false_implies, and_true, true_and]
    refine qx_text hm hs hpu hup hlo hU hD hst (q_hP hs hP) (fun L' tx' hL ht => ?_)
    refine ⟨qd_n m U pl (S s) + 1, qx_conflicts25 (T := qd_T m U D pl (S s)) hm hc ht (fun i hi => qd_Tm hi) hL ?_ (qd_n m U pl (S s) + 1) 0 (by omega) (by omega)⟩
    refine qy_text hm hs hups hlos hU hD (hS s hs) (fun met' ty' W' hW hty => ?_)
    refine ⟨qd_n m U pl (S s) + 1, qy_cp10 (fl := false) (T := qd_T m U D pl (S s)) hm hc hty (fun i hi => qd_Tm hi) hW ?_ (qd_n m U pl (S s) + 1) 0 (by omega) (by omega)⟩
    rw [← qs_swap]
    exact HQ _ _ _ (q_rel R X Y)
theorem i_vc_rings {k : Nat} {u : SX} {v : SY} (I : i_Rel k u v) (hk : k + 4 ≤ 2048) (v1 : Int32) : wpX_rings (fun r u' => wpY_rings (fun r' v' => r' = r ∧ i_Rel (k + 4) u' v') v v1) u v1 := by
  obtain ⟨m, U, D, pl, C, S, P, N, pu, up, lo, ct, L, tx, ot, tl, ol, ups, los, cts, sets, met, pile, ty, oth, W, rfl, rfl, R, X, Y⟩ := I
  suffices H : ∀ Q : Int32 → SX → Int32 → SY → Prop, (∀ r u' v', i_Rel (k + 4) u' v' → Q r u' r v') → wpX_rings (fun r u' => wpY_rings (fun r' v' => Q r u' r' v') (nI m, tl, ol, ups, los, cts, sets, met, pile, ty, oth, W) v1) (nI m, P, N, pu, up, lo, ct, L, tx, ot) v1 from H (fun r u' r' v' => r' = r ∧ i_Rel (k + 4) u' v') (fun r u' v' h => ⟨rfl, h⟩)
  intro Q HQ
  obtain ⟨hm, hU, hD, hst, hsd, hN, hC⟩ := id R
  obtain ⟨hpu, hup, hlo, hct, hP⟩ := id X
  obtain ⟨hups, hlos, hcts, hS⟩ := id Y
  have J := q_rel (k := k + 4) (L := L) (tx := tx) (ot := ot) (tl := tl) (ol := ol) (met := met) (pile := pile) (ty := ty) (oth := oth) (W := W) R X Y
  rcases q_ix v1 (n := 3) (by omega) with b | ⟨s, hs, rfl⟩
  · simp only [wpX_rings, wpY_rings, qx_sb b, qy_sb b, qz_0, qz_1, true_implies, not_true, not_false_iff, false_implies, and_true, true_and]
    exact HQ _ _ _ J
  · have hc := qd_nm m U pl (S s)
    simp only [wpX_rings, wpY_rings, wpY_countPairs, qx_sg hs, qy_sg hs, qn_in hs (show 3 < 2 ^ 31 by omega), nI_clamp (show s < 2 ^ 31 by omega), qz_0, qz_1, true_implies, not_true, not_false_iff, false_implies, and_true, true_and]
    refine qx_text hm hs hpu hup hlo hU hD hst (q_hP hs hP) (fun L' tx' hL ht => ?_)
    refine ⟨qd_n m U pl (S s) + 1, qx_rings25 (T := qd_T m U D pl (S s)) hm hc ht (fun i hi => qd_Tm hi) hL ?_ (qd_n m U pl (S s) + 1) 0 (by omega) (by omega)⟩
    refine qy_text hm hs hups hlos hU hD (hS s hs) (fun met' ty' W' hW hty => ?_)
    refine ⟨qd_n m U pl (S s) + 1, qy_cp10 (fl := true) (T := qd_T m U D pl (S s)) hm hc hty (fun i hi => qd_Tm hi) hW ?_ (qd_n m U pl (S s) + 1) 0 (by omega) (by omega)⟩
    rw [← qs_swap]
    exact HQ _ _ _ (q_rel R X Y)
