/-! the relation -/
def i_Rel (_ : Nat) (u : SX) (v : SY) : Prop :=
  ∃ (m : Nat) (U D : Nat → Option Nat) (pl : Nat → Bool) (C : Nat → Int32) (S : Nat → Nat → Bool) (P N : Nat → Int64) (pu up lo ct : Nat → Int32) (L : Nat → Int64) (tx ot : Nat → Int32) (tl ol : Int32) (ups los cts sets met pile ty oth : Nat → Int32) (W : Nat → Int64),
    u = (nI m, P, N, pu, up, lo, ct, L, tx, ot) ∧ v = (nI m, tl, ol, ups, los, cts, sets, met, pile, ty, oth, W) ∧ qR m U D pl S N ∧ qX m U D pl C S P pu up lo ct ∧ qY m U D pl C S ups los cts sets
theorem q_rel {k m : Nat} {U D : Nat → Option Nat} {pl : Nat → Bool} {C : Nat → Int32} {S : Nat → Nat → Bool} {P N : Nat → Int64} {pu up lo ct : Nat → Int32} {L : Nat → Int64} {tx ot : Nat → Int32} {tl ol : Int32} {ups los cts sets met pile ty oth : Nat → Int32} {W : Nat → Int64}
    (R : qR m U D pl S N) (X : qX m U D pl C S P pu up lo ct) (Y : qY m U D pl C S ups los cts sets) : i_Rel k (nI m, P, N, pu, up, lo, ct, L, tx, ot) (nI m, tl, ol, ups, los, cts, sets, met, pile, ty, oth, W) :=
  ⟨m, U, D, pl, C, S, P, N, pu, up, lo, ct, L, tx, ot, tl, ol, ups, los, cts, sets, met, pile, ty, oth, W, rfl, rfl, R, X, Y⟩
theorem i_up {k : Nat} {u : SX} {v : SY} (h : i_Rel k u v) : i_Rel (k + 4) u v := h
theorem i_vc0 : wpX_init (fun u => wpY_init (fun v => i_Rel 0 u v)) := by
  refine q_rel (k := 0) (m := 0) (U := fun _ => none) (D := fun _ => none) (pl := fun _ => true) (C := fun _ => 0) (S := fun _ _ => false) ?_ ?_ ?_
  · exact ⟨by decide, fun p hp => by omega, fun p hp => by omega, fun p hp => by omega, fun p hp => by omega, fun p hp => by omega, fun s hs q hq => by omega⟩
  · refine ⟨fun p hp => by omega, fun p hp => by omega, fun p hp => by omega, fun p hp => by omega, fun s hs j => ?_⟩
    show qb_t 0 j = _
    rw [qb_0]; simp
  · exact ⟨fun p hp => by omega, fun p hp => by omega, fun p hp => by omega, fun s hs p hp => by omega⟩
/-! is it a store, is it a patch -/
def q_bad (n : Nat) (x : Int32) : Prop := x < 0 ∨ nI n ≤ x
theorem q_ix (x : Int32) {n : Nat} (hn : n < 2 ^ 31) : q_bad n x ∨ ∃ j : Nat, j < n ∧ x = nI j := by
  by_cases h : x < 0
  · exact Or.inl (Or.inl h)
  · obtain ⟨j, hj, rfl⟩ := nI_of h
    by_cases h2 : j < n
    · exact Or.inr ⟨j, h2, rfl⟩
    · exact Or.inl (Or.inr (nI_le (by omega) hj))
theorem qx_sg {post : Int32 → Prop} {s : Nat} (hs : s < 3) : wpX_isStore post (nI s) = post 1 := by
  have a : (nI s < 0) = False := qn_neg (by omega)
  have b : ((3 : Int32) ≤ nI s) = False := by rw [qn_3, qn_le (by omega) (by omega)]; exact eq_false (by omega)
  simp only [wpX_isStore, a, b, false_implies, not_false_iff, true_implies, true_and]
theorem qx_sb {post : Int32 → Prop} {x : Int32} (h : q_bad 3 x) : wpX_isStore post x = post 0 := by
  by_cases h0 : x < 0
  · simp only [wpX_isStore, h0, true_implies, not_true, false_implies, and_true]
  · obtain ⟨j, hj, rfl⟩ := nI_of h0
    have h3 : nI 3 ≤ nI j := h.resolve_left h0
    have b : ((3 : Int32) ≤ nI j) = True := eq_true h3
    simp only [wpX_isStore, qn_neg hj, b, true_implies, not_true, not_false_iff, false_implies, and_true, true_and]
section
variable {m : Nat} {P N L : Nat → Int64} {pu up lo ct tx ot : Nat → Int32} {ups los cts sets met pile ty oth : Nat → Int32} {W : Nat → Int64} {mc tl ol : Int32}
theorem qy_sg {post : Int32 → Prop} {s : Nat} (hs : s < 3) : wpY_isStore post (mc, tl, ol, ups, los, cts, sets, met, pile, ty, oth, W) (nI s) = post 1 := by
  have a : (nI s < 0) = False := qn_neg (by omega)
  have b : ((2 : Int32) < nI s) = False := by rw [qn_2, qn_lt (by omega) (by omega)]; exact eq_false (by omega)
  simp only [wpY_isStore, a, b, false_implies, not_false_iff, true_implies, true_and]
theorem qy_sb {post : Int32 → Prop} {x : Int32} (h : q_bad 3 x) : wpY_isStore post (mc, tl, ol, ups, los, cts, sets, met, pile, ty, oth, W) x = post 0 := by
  by_cases h0 : x < 0
  · simp only [wpY_isStore, h0, true_implies, not_true, false_implies, and_true]
  · obtain ⟨j, hj, rfl⟩ := nI_of h0
    have h3 : nI 3 ≤ nI j := h.resolve_left h0
    rw [qn_le (by omega) hj] at h3
    have b : ((2 : Int32) < nI j) = True := by rw [qn_2, qn_lt (by omega) hj]; exact eq_true (by omega)
    simp only [wpY_isStore, qn_neg hj, b, true_implies, not_true, not_false_iff, false_implies, and_true, true_and]
theorem qx_pg {post : Int32 → Prop} {p : Nat} (hm : m ≤ 60) (hp : p < m) : wpX_isPatch post (nI m, P, N, pu, up, lo, ct, L, tx, ot) (nI p) = post 1 := by
  have a : (nI p < 0) = False := qn_neg (by omega)
  have b : (nI m ≤ nI p) = False := by rw [qn_le (by omega) (by omega)]; exact eq_false (by omega)
  simp only [wpX_isPatch, a, b, false_implies, not_false_iff, true_implies, true_and]
theorem qx_pb {post : Int32 → Prop} {x : Int32} (h : q_bad m x) : wpX_isPatch post (nI m, P, N, pu, up, lo, ct, L, tx, ot) x = post 0 := by
  by_cases h0 : x < 0
  · simp only [wpX_isPatch, h0, true_implies, not_true, false_implies, and_true]
  · have b : (nI m ≤ x) = True := eq_true (h.resolve_left h0)
    simp only [wpX_isPatch, h0, b, true_implies, not_true, not_false_iff, false_implies, and_true, true_and]
theorem qy_pg {post : Int32 → Prop} {p : Nat} (hm : m ≤ 60) (hp : p < m) : wpY_isPatch post (nI m, tl, ol, ups, los, cts, sets, met, pile, ty, oth, W) (nI p) = post 1 := by
  have a : (nI p < 0) = False := qn_neg (by omega)
  have b : (nI m ≤ nI p) = False := by rw [qn_le (by omega) (by omega)]; exact eq_false (by omega)
  simp only [wpY_isPatch, a, b, false_implies, not_false_iff, true_implies, true_and]
theorem qy_pb {post : Int32 → Prop} {x : Int32} (h : q_bad m x) : wpY_isPatch post (nI m, tl, ol, ups, los, cts, sets, met, pile, ty, oth, W) x = post 0 := by
  by_cases h0 : x < 0
  · simp only [wpY_isPatch, h0, true_implies, not_true, false_implies, and_true]
  · have b : (nI m ≤ x) = True := eq_true (h.resolve_left h0)
    simp only [wpY_isPatch, h0, b, true_implies, not_true, not_false_iff, false_implies, and_true, true_and]
end
theorem q_60 {m : Nat} {w : Int64} {F : Nat → Bool} (hm : m ≤ 60) (h : ∀ j, qb_t w j = (decide (j < m) && F j)) : qs (fun i => (qb_t w i).toNat) 60 = qs (fun i => (F i).toNat) m := by
  rw [show 60 = m + (60 - m) by omega, qs_ext (60 - m) (fun i hi => by rw [h i, decide_eq_false (by omega)]; rfl)]
  exact qs_congr m (fun i hi => by rw [h i, decide_eq_true hi, Bool.true_and])
theorem q_hP {m s : Nat} {S : Nat → Nat → Bool} {P : Nat → Int64} (hs : s < 3) (h : ∀ s, s < 3 → ∀ j, qb_t (P s) j = (decide (j < m) && S s j)) : ∀ j, j < m → qb_t (P s) j = S s j := by
  intro j hj
  rw [h s hs j, decide_eq_true hj, Bool.true_and]
theorem i_vc_made {k : Nat} {u : SX} {v : SY} (I : i_Rel k u v) (hk : k + 4 ≤ 2048) : wpX_made (fun r => wpY_made (fun r' => r' = r ∧ i_Rel (k + 4) u v) v) u := by
  obtain ⟨m, U, D, pl, C, S, P, N, pu, up, lo, ct, L, tx, ot, tl, ol, ups, los, cts, sets, met, pile, ty, oth, W, rfl, rfl, R, X, Y⟩ := I
  suffices H : ∀ Q : Int32 → Int32 → Prop, (∀ r, Q r r) → wpX_made (fun r => wpY_made (fun r' => Q r r') (nI m, tl, ol, ups, los, cts, sets, met, pile, ty, oth, W)) (nI m, P, N, pu, up, lo, ct, L, tx, ot) from H (fun r r' => r' = r ∧ i_Rel (k + 4) (nI m, P, N, pu, up, lo, ct, L, tx, ot) (nI m, tl, ol, ups, los, cts, sets, met, pile, ty, oth, W)) (fun r => ⟨rfl, q_rel R X Y⟩)
  intro Q HQ
  obtain ⟨hm, hU, hD, hst, hsd, hN, hC⟩ := id R
  obtain ⟨hpu, hup, hlo, hct, hP⟩ := id X
  obtain ⟨hups, hlos, hcts, hS⟩ := id Y
  simp only [wpX_made, wpY_made]
  exact HQ _
theorem i_vc_patches {k : Nat} {u : SX} {v : SY} (I : i_Rel k u v) (hk : k + 4 ≤ 2048) (v1 : Int32) : wpX_patches (fun r => wpY_patches (fun r' => r' = r ∧ i_Rel (k + 4) u v) v v1) u v1 := by
  obtain ⟨m, U, D, pl, C, S, P, N, pu, up, lo, ct, L, tx, ot, tl, ol, ups, los, cts, sets, met, pile, ty, oth, W, rfl, rfl, R, X, Y⟩ := I
  suffices H : ∀ Q : Int32 → Int32 → Prop, (∀ r, Q r r) → wpX_patches (fun r => wpY_patches (fun r' => Q r r') (nI m, tl, ol, ups, los, cts, sets, met, pile, ty, oth, W) v1) (nI m, P, N, pu, up, lo, ct, L, tx, ot) v1 from H (fun r r' => r' = r ∧ i_Rel (k + 4) (nI m, P, N, pu, up, lo, ct, L, tx, ot) (nI m, tl, ol, ups, los, cts, sets, met, pile, ty, oth, W)) (fun r => ⟨rfl, q_rel R X Y⟩)
  intro Q HQ
  obtain ⟨hm, hU, hD, hst, hsd, hN, hC⟩ := id R
  obtain ⟨hpu, hup, hlo, hct, hP⟩ := id X
  obtain ⟨hups, hlos, hcts, hS⟩ := id Y
  rcases q_ix v1 (n := 3) (by omega) with b | ⟨s, hs, rfl⟩
  · simp only [wpX_patches, wpY_patches, qx_sb b, qy_sb b, qz_0, qz_1, true_implies, not_true, not_false_iff, false_implies, and_true, true_and]
    exact HQ _
  · simp only [wpX_patches, wpY_patches, qx_sg hs, qy_sg hs, qn_in hs (show 3 < 2 ^ 31 by omega), nI_clamp (show s < 2 ^ 31 by omega), qz_0, qz_1, true_implies, not_true, not_false_iff, false_implies, and_true, true_and]
    refine qx_size (qy_count hm hs (hS s hs) ?_)
    rw [q_60 hm (hP s hs)]
    exact HQ _
theorem i_vc_has {k : Nat} {u : SX} {v : SY} (I : i_Rel k u v) (hk : k + 4 ≤ 2048) (v1 : Int32) (v2 : Int32) : wpX_has (fun r => wpY_has (fun r' => r' = r ∧ i_Rel (k + 4) u v) v v1 v2) u v1 v2 := by
  obtain ⟨m, U, D, pl, C, S, P, N, pu, up, lo, ct, L, tx, ot, tl, ol, ups, los, cts, sets, met, pile, ty, oth, W, rfl, rfl, R, X, Y⟩ := I
  suffices H : ∀ Q : Int32 → Int32 → Prop, (∀ r, Q r r) → wpX_has (fun r => wpY_has (fun r' => Q r r') (nI m, tl, ol, ups, los, cts, sets, met, pile, ty, oth, W) v1 v2) (nI m, P, N, pu, up, lo, ct, L, tx, ot) v1 v2 from H (fun r r' => r' = r ∧ i_Rel (k + 4) (nI m, P, N, pu, up, lo, ct, L, tx, ot) (nI m, tl, ol, ups, los, cts, sets, met, pile, ty, oth, W)) (fun r => ⟨rfl, q_rel R X Y⟩)
  intro Q HQ
  obtain ⟨hm, hU, hD, hst, hsd, hN, hC⟩ := id R
  obtain ⟨hpu, hup, hlo, hct, hP⟩ := id X
  obtain ⟨hups, hlos, hcts, hS⟩ := id Y
  rcases q_ix v1 (n := 3) (by omega) with b | ⟨s, hs, rfl⟩
  · simp only [wpX_has, wpY_has, qx_sb b, qy_sb b, qz_0, qz_1, true_implies, not_true, not_false_iff, false_implies, and_true, true_and]
    exact HQ _
  · rcases q_ix v2 (n := m) (by omega) with b | ⟨p, hp, rfl⟩
    · simp only [wpX_has, wpY_has, qx_sg hs, qy_sg hs, qn_in hs (show 3 < 2 ^ 31 by omega), nI_clamp (show s < 2 ^ 31 by omega), qx_pb b, qy_pb b, qz_0, qz_1, true_implies, not_true, not_false_iff, false_implies, and_true, true_and]
      exact HQ _
    · simp only [wpX_has, wpY_has, qx_sg hs, qy_sg hs, qn_in hs (show 3 < 2 ^ 31 by omega), nI_clamp (show s < 2 ^ 31 by omega), qx_pg hm hp, qy_pg hm hp, qx_isIn (show p < 64 by omega), qy_hasIt hs (show p < 60 by omega) (hS s hs p hp), q_hP hs hP p hp, qI_0, qz_0, qz_1, true_implies, not_true, not_false_iff, false_implies, and_true, true_and]
      cases S s p
      · exact ⟨fun _ => ⟨fun _ => HQ _, fun z => absurd rfl z⟩, fun z => absurd rfl z⟩
      · exact ⟨(fun z => nomatch z), fun _ => ⟨(fun z => nomatch z), fun _ => HQ _⟩⟩
theorem i_vc_patch {k : Nat} {u : SX} {v : SY} (I : i_Rel k u v) (hk : k + 4 ≤ 2048) (v1 : Int32) (v2 : Int32) : wpX_patch (fun r => wpY_patch (fun r' => r' = r ∧ i_Rel (k + 4) u v) v v1 v2) u v1 v2 := by
  obtain ⟨m, U, D, pl, C, S, P, N, pu, up, lo, ct, L, tx, ot, tl, ol, ups, los, cts, sets, met, pile, ty, oth, W, rfl, rfl, R, X, Y⟩ := I
  suffices H : ∀ Q : Int32 → Int32 → Prop, (∀ r, Q r r) → wpX_patch (fun r => wpY_patch (fun r' => Q r r') (nI m, tl, ol, ups, los, cts, sets, met, pile, ty, oth, W) v1 v2) (nI m, P, N, pu, up, lo, ct, L, tx, ot) v1 v2 from H (fun r r' => r' = r ∧ i_Rel (k + 4) (nI m, P, N, pu, up, lo, ct, L, tx, ot) (nI m, tl, ol, ups, los, cts, sets, met, pile, ty, oth, W)) (fun r => ⟨rfl, q_rel R X Y⟩)
  intro Q HQ
  obtain ⟨hm, hU, hD, hst, hsd, hN, hC⟩ := id R
  obtain ⟨hpu, hup, hlo, hct, hP⟩ := id X
  obtain ⟨hups, hlos, hcts, hS⟩ := id Y
  simp only [wpX_patch, wpY_patch]
  by_cases h0 : v2 < 0
  · simp only [h0, qz_0, qz_1, true_implies, not_true, not_false_iff, false_implies, and_true, true_and]
    exact HQ _
  · by_cases h2 : v2 ≤ 2
    · simp only [h0, h2, qz_0, qz_1, true_implies, not_true, not_false_iff, false_implies, and_true, true_and]
      rcases q_ix v1 (n := m) (by omega) with b | ⟨p, hp, rfl⟩
      · simp only [qx_pb b, qy_pb b, qz_0, qz_1, true_implies, not_true, not_false_iff, false_implies, and_true, true_and]
        exact HQ _
      · simp only [qx_pg hm hp, qy_pg hm hp, qn_in (show p < 60 by omega) (show 60 < 2 ^ 31 by omega), nI_clamp (show p < 2 ^ 31 by omega), qy_isLine hm hp (hlos p hp) (hD p hp), hpu p hp, hup p hp, hlo p hp, hups p hp, hlos p hp, qI_0, wY_patch_61, qz_0, qz_1, true_implies, not_true, not_false_iff, false_implies, and_true, true_and]
        have key : ∀ (o : Option Nat) (y : Int32), (∀ b, o = some b → b < 2 ^ 31) → (y < 0) = (o = none) → (∀ b, o = some b → y = nI b) → ((0 ≤ y → Q (qo_X o) y) ∧ (¬ 0 ≤ y → Q (qo_X o) (-1000000003))) := by
          intro o y h1 h2 h3
          cases o with
          | none =>
            have hy : y < 0 := by rw [h2]
            exact ⟨fun z => absurd hy (Int32.not_lt.mpr z), fun _ => HQ _⟩
          | some b =>
            rw [h3 b rfl]
            exact ⟨fun _ => HQ _, fun z => absurd (nI_pos' (h1 b rfl)) z⟩
        refine br_c (fun h3 => ?_) (fun h3 => br_c (fun h4 => ?_) (fun h4 => ?_))
        · simp only [h3, qz_0, qz_1, true_implies, not_true, not_false_iff, false_implies, and_true, true_and]
          cases pl p
          · exact ⟨fun _ => ⟨fun _ => HQ _, fun z => absurd rfl z⟩, fun z => absurd rfl z⟩
          · exact ⟨(fun z => nomatch z), fun _ => ⟨(fun z => nomatch z), fun _ => HQ _⟩⟩
        · simp only [h4, qz_0, qz_1, true_implies, not_true, not_false_iff, false_implies, and_true, true_and]
          exact key (U p) _ (fun b hb => by have := hU p hp b hb; omega) (qo_Yneg (fun b hb => by have := hU p hp b hb; omega)) (fun b hb => by rw [hb]; rfl)
        · simp only [h3, h4, qz_0, qz_1, true_implies, not_true, not_false_iff, false_implies, and_true, true_and]
          exact key (D p) _ (fun b hb => by have := hD p hp b hb; omega) (qo_Lneg (fun b hb => by have := hD p hp b hb; omega) (hsd p hp)) (fun b hb => by
            cases h : pl p
            · rw [hsd p hp h] at hb; cases hb
            · rw [hb]; rfl)
    · simp only [h0, h2, qz_0, qz_1, true_implies, not_true, not_false_iff, false_implies, and_true, true_and]
      exact HQ _
