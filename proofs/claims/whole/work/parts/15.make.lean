/-! a new patch -/
def qv {α : Type} (f : Nat → α) (m : Nat) (x : α) : Nat → α := fun j => if j = m then x else f j
theorem qv_s {α : Type} {f : Nat → α} {m : Nat} {x : α} : qv f m x m = x := if_pos rfl
theorem qv_n {α : Type} {f : Nat → α} {m j : Nat} {x : α} (h : j ≠ m) : qv f m x j = f j := if_neg h
def qS_n (S : Nat → Nat → Bool) (m s : Nat) (t j : Nat) : Bool := if j = m then decide (t = s) else S t j
theorem qS_ns {S : Nat → Nat → Bool} {m s t : Nat} : qS_n S m s t m = decide (t = s) := if_pos rfl
theorem qS_nn {S : Nat → Nat → Bool} {m s t j : Nat} (h : j ≠ m) : qS_n S m s t j = S t j := if_neg h
def qn_m (N : Nat → Int64) (o : Option Nat) : Int64 := match o with | none => 0 | some a => N a ||| qb_on a
theorem qn_mt {N : Nat → Int64} {o : Option Nat} (ho : ∀ a, o = some a → a < 64) (j : Nat) : qb_t (qn_m N o) j = qn_th N o j := by
  cases o with
  | none => exact qb_0 j
  | some a =>
    show qb_t (N a ||| qb_on a) j = (qb_t (N a) j || decide (j = a))
    rw [qb_or, qb_one (ho a rfl)]
theorem qn_thc {N : Nat → Int64} {m : Nat} {x : Int64} {o : Option Nat} (ho : ∀ a, o = some a → a < m) (j : Nat) : qn_th (vp_updL N m x) o j = qn_th N o j := by
  cases o with
  | none => rfl
  | some a =>
    show (qb_t (vp_updL N m x a) j || decide (j = a)) = (qb_t (N a) j || decide (j = a))
    rw [qu_Ln (by have := ho a rfl; omega)]
section
variable {m s : Nat} {U D : Nat → Option Nat} {pl : Nat → Bool} {C : Nat → Int32} {S : Nat → Nat → Bool} {P N L : Nat → Int64} {pu up lo ct tx ot : Nat → Int32} {ups los cts sets met pile ty oth : Nat → Int32} {W : Nat → Int64} {mc tl ol : Int32} {o1 o2 : Option Nat} {b : Bool} {x : Int32}
theorem qR_make (R : qR m U D pl S N) (h60 : m < 60) (h1 : ∀ a, o1 = some a → a < m ∧ (a = 0 ∨ S s a = true)) (h2 : ∀ a, o2 = some a → a < m ∧ (a = 0 ∨ S s a = true)) (hb1 : b = false → ∃ a, o1 = some a) (hb2 : b = false → o2 = none) : qR (m + 1) (qv U m o1) (qv D m o2) (qv pl m b) (qS_n S m s) (vp_updL N m (qn_m N o1 ||| qn_m N o2)) := by
  obtain ⟨hm, hU, hD, hst, hsd, hN, hC⟩ := id R
  refine ⟨by omega, fun p hp a ha => ?_, fun p hp a ha => ?_, fun p hp hb => ?_, fun p hp hb => ?_, fun p hp j => ?_, fun t ht q hq h j hj => ?_⟩
  · by_cases e : p = m
    · rw [e, qv_s] at ha
      rw [e]; exact (h1 a ha).1
    · rw [qv_n e] at ha
      exact hU p (by omega) a ha
  · by_cases e : p = m
    · rw [e, qv_s] at ha
      rw [e]; exact (h2 a ha).1
    · rw [qv_n e] at ha
      exact hD p (by omega) a ha
  · by_cases e : p = m
    · rw [e, qv_s] at hb ⊢
      exact hb1 hb
    · rw [qv_n e] at hb ⊢
      exact hst p (by omega) hb
  · by_cases e : p = m
    · rw [e, qv_s] at hb ⊢
      exact hb2 hb
    · rw [qv_n e] at hb ⊢
      exact hsd p (by omega) hb
  · by_cases e : p = m
    · rw [e, qv_s, qv_s, qu_Ls, qb_or, qn_mt (fun a ha => by have := (h1 a ha).1; omega), qn_mt (fun a ha => by have := (h2 a ha).1; omega), qn_thc (fun a ha => (h1 a ha).1), qn_thc (fun a ha => (h2 a ha).1)]
    · have hp : p < m := by omega
      rw [qv_n e, qv_n e, qu_Ln e, hN p hp j, qn_thc (fun a ha => by have := hU p hp a ha; omega), qn_thc (fun a ha => by have := hD p hp a ha; omega)]
  · by_cases e : q = m
    · subst e
      rw [qS_ns] at h
      have ht : t = s := of_decide_eq_true h
      subst ht
      rw [qu_Ls, qb_or, qn_mt (fun a ha => by have := (h1 a ha).1; omega), qn_mt (fun a ha => by have := (h2 a ha).1; omega), Bool.or_eq_true] at hj
      have main : ∀ o, (∀ a, o = some a → a < q ∧ (a = 0 ∨ S t a = true)) → qn_th N o j = true → j = 0 ∨ qS_n S q t t j = true := by
        intro o ho hh
        cases o with
        | none => cases hh
        | some a =>
          have hh : (qb_t (N a) j || decide (j = a)) = true := hh
          rw [Bool.or_eq_true] at hh
          obtain ⟨l, z⟩ := ho a rfl
          rcases hh with hh | hh
          · have lj := qN_lt R a l j hh
            rw [qS_nn (by omega)]
            rcases z with z | z
            · omega
            · exact hC t ht a l z j hh
          · have e : j = a := of_decide_eq_true hh
            rw [e, qS_nn (by omega)]
            exact z
      rcases hj with hj | hj
      · exact main o1 h1 hj
      · exact main o2 h2 hj
    · have hq : q < m := by omega
      rw [qS_nn e] at h
      rw [qu_Ln e] at hj
      have lj := qN_lt R q hq j hj
      rw [qS_nn (by omega)]
      exact hC t ht q hq h j hj
theorem qX_make (X : qX m U D pl C S P pu up lo ct) (h60 : m < 60) (hs : s < 3) : qX (m + 1) (qv U m o1) (qv D m o2) (qv pl m b) (qv C m x) (qS_n S m s) (vp_updL P s (P s ||| qb_on m)) (upd pu m (qI b)) (upd up m (qo_X o1)) (upd lo m (qo_X o2)) (upd ct m x) := by
  obtain ⟨hpu, hup, hlo, hct, hP⟩ := id X
  refine ⟨fun p hp => ?_, fun p hp => ?_, fun p hp => ?_, fun p hp => ?_, fun t ht j => ?_⟩
  · by_cases e : p = m
    · rw [e, qu_s, qv_s]
    · rw [qu_n e, qv_n e, hpu p (by omega)]
  · by_cases e : p = m
    · rw [e, qu_s, qv_s]
    · rw [qu_n e, qv_n e, hup p (by omega)]
  · by_cases e : p = m
    · rw [e, qu_s, qv_s]
    · rw [qu_n e, qv_n e, hlo p (by omega)]
  · by_cases e : p = m
    · rw [e, qu_s, qv_s]
    · rw [qu_n e, qv_n e, hct p (by omega)]
  · have e0 : qb_t (vp_updL P s (P s ||| qb_on m) t) j = (qb_t (P t) j || (decide (t = s) && decide (j = m))) := by
      by_cases e : t = s
      · rw [e, qu_Ls, qb_or, qb_one (by omega), decide_eq_true rfl, Bool.true_and]
      · rw [qu_Ln e, decide_eq_false e, Bool.false_and, Bool.or_false]
    rw [e0, hP t ht j]
    by_cases e : j = m
    · rw [e, qS_ns, decide_eq_false (show ¬ m < m by omega), decide_eq_true (show m = m from rfl), decide_eq_true (show m < m + 1 by omega)]; simp
    · rw [qS_nn e, decide_eq_false e, show decide (j < m + 1) = decide (j < m) from decide_eq_decide.mpr (by omega)]; simp
theorem qY_make (Y : qY m U D pl C S ups los cts sets) (hS : ∀ t, t < 3 → ∀ q, q < m + 1 → met (60 * t + q) = qI (qS_n S m s t q)) : qY (m + 1) (qv U m o1) (qv D m o2) (qv pl m b) (qv C m x) (qS_n S m s) (upd ups m (qo_Y o1)) (upd los m (bif b then qo_Y o2 else -2)) (upd cts m x) met := by
  obtain ⟨hups, hlos, hcts, _⟩ := id Y
  refine ⟨fun p hp => ?_, fun p hp => ?_, fun p hp => ?_, hS⟩
  · by_cases e : p = m
    · rw [e, qu_s, qv_s]
    · rw [qu_n e, qv_n e, hups p (by omega)]
  · by_cases e : p = m
    · rw [e, qu_s, qv_s, qv_s]
    · rw [qu_n e, qv_n e, qv_n e, hlos p (by omega)]
  · by_cases e : p = m
    · rw [e, qu_s, qv_s]
    · rw [qu_n e, qv_n e, hcts p (by omega)]
theorem qx_nt {post : Int64 → Prop} {o : Option Nat} (ho : ∀ a, o = some a → a < 60) : wpX_needsThrough post (mc, P, N, pu, up, lo, ct, L, tx, ot) (qo_X o) = post (qn_m N o) := by
  cases o with
  | none => simp only [wpX_needsThrough, qo_Xn, qz_nn, qn_m, true_implies, not_true, false_implies, and_true]
  | some a =>
    have h := ho a rfl
    simp only [wpX_needsThrough, qo_Xs, qn_none (show a < 2 ^ 31 by omega), qn_in h (show 60 < 2 ^ 31 by omega), nI_clamp (show a < 2 ^ 31 by omega), qx_only, qn_m, not_false_iff, true_implies, false_implies, true_and]
theorem qx_make {post : Int32 → SX → Prop} (h60 : m < 60) (hs : s < 3) (h1 : ∀ a, o1 = some a → a < m) (h2 : ∀ a, o2 = some a → a < m)
    (K : post (nI m) (nI (m + 1), vp_updL P s (P s ||| qb_on m), vp_updL N m (qn_m N o1 ||| qn_m N o2), upd pu m (qI b), upd up m (qo_X o1), upd lo m (qo_X o2), upd ct m x, L, tx, ot)) :
    wpX_makePatch post (nI m, P, N, pu, up, lo, ct, L, tx, ot) (nI s) (qI b) (qo_X o1) (qo_X o2) x := by
  simp only [wpX_makePatch, qn_in h60 (show 60 < 2 ^ 31 by omega), nI_clamp (show m < 2 ^ 31 by omega), qn_in hs (show 3 < 2 ^ 31 by omega), nI_clamp (show s < 2 ^ 31 by omega), qI_nar, qx_nt (fun a ha => Nat.lt_trans (h1 a ha) h60), qx_nt (fun a ha => Nat.lt_trans (h2 a ha) h60), qx_only, nI_1, forall_eq, true_and]
  exact K
theorem qy_mk46 {post : Int32 → SY → Prop} (h60 : m < 60) (hs : s < 3)
    (K : ∀ sets, (∀ t, t < 3 → ∀ q, q < m + 1 → sets (60 * t + q) = qI (qS_n S m s t q)) → post (nI m) (nI (m + 1), tl, ol, ups, los, cts, sets, met, pile, ty, oth, W)) :
    ∀ n t sets, t ≤ 3 → 3 - t < n → (∀ t, t < 3 → ∀ q, q < m → sets (60 * t + q) = qI (S t q)) → (∀ t', t' < t → sets (60 * t' + m) = qI (decide (t' = s))) → wY_make_46 post (nI s) (nI m) tl ol n (nI t) ups los cts sets met pile ty oth W := by
  intro n
  induction n with
  | zero => intro t sets ht hn; omega
  | succ n ih =>
    intro t sets ht hn h0 h1
    simp only [wY_make_46]
    rcases Nat.lt_or_ge t 3 with hlt | hge
    · refine br_f (nI_ge (b := 3) hlt (by decide)) ?_
      simp only [qy_ix, qn_in (show 60 * t + m < 180 by omega) (show 180 < 2 ^ 31 by omega), nI_clamp (show 60 * t + m < 2 ^ 31 by omega), qn_eq (show t < 2 ^ 31 by omega) (show s < 2 ^ 31 by omega), qI_nar1, qI_nar0, nI_1, forall_eq, true_and]
      have main : ∀ v, v = qI (decide (t = s)) → wY_make_46 post (nI s) (nI m) tl ol n (nI (t + 1)) ups los cts (upd sets (60 * t + m) v) met pile ty oth W := by
        intro v hv
        refine ih (t + 1) _ (by omega) (by omega) (fun t' ht' q hq => ?_) (fun t' ht' => ?_)
        · rw [qu_n (by omega)]; exact h0 t' ht' q hq
        · by_cases e : t' = t
          · rw [e, qu_s, hv]
          · rw [qu_n (by omega)]; exact h1 t' (by omega)
      exact br_c (fun e => main 1 (by rw [decide_eq_true e]; rfl)) (fun e => main 0 (by rw [decide_eq_false e]; rfl))
    · have e : t = 3 := by omega
      subst e
      refine br_t (nI_le (b := 3) (Nat.le_refl _) (by decide)) ?_
      simp only [nI_1, forall_eq, nI_pred]
      refine K sets (fun t ht q hq => ?_)
      by_cases e : q = m
      · rw [e, qS_ns]; exact h1 t ht
      · rw [qS_nn e]; exact h0 t ht q (by omega)
theorem qy_make {post : Int32 → SY → Prop} {u l : Int32} (hm : m ≤ 60) (hs : s < 3) (hS : ∀ t, t < 3 → ∀ q, q < m → sets (60 * t + q) = qI (S t q))
    (K1 : m < 60 → ∀ sets, (∀ t, t < 3 → ∀ q, q < m + 1 → sets (60 * t + q) = qI (qS_n S m s t q)) → post (nI m) (nI (m + 1), tl, ol, upd ups m u, upd los m l, upd cts m x, sets, met, pile, ty, oth, W))
    (K0 : m = 60 → post (-1000000002) (nI m, tl, ol, ups, los, cts, sets, met, pile, ty, oth, W)) : wpY_make post (nI m, tl, ol, ups, los, cts, sets, met, pile, ty, oth, W) (nI s) u l x := by
  simp only [wpY_make, qn_60, qn_eq (show m < 2 ^ 31 by omega) (show 60 < 2 ^ 31 by omega)]
  refine br_c K0 (fun e => ?_)
  have h60 : m < 60 := by omega
  simp only [qn_in h60 (show 60 < 2 ^ 31 by omega), nI_clamp (show m < 2 ^ 31 by omega), forall_eq, true_and]
  exact ⟨4, qy_mk46 h60 hs (K1 h60) 4 0 sets (by omega) (by omega) hS (fun t' ht' => by omega)⟩
theorem qd_TS {Sg : Nat → Bool} (k : Nat) : qd_T m U D pl Sg k = 0 ∨ Sg (qd_T m U D pl Sg k) = true := by
  rcases qt_Ts (m := m) (W := qw_W m U D pl Sg) (l := qt_op m U pl Sg) k with h | h
  · refine Or.inr ?_
    have e := h.2
    unfold qt_op at e
    rw [Bool.and_eq_true, Bool.and_eq_true, Bool.and_eq_true] at e
    exact e.1.2.1
  · exact Or.inl h
/-! put -/
def qk_1 (T : Nat → Nat) (j : Nat) : Option Nat := match j with | 0 => none | j + 1 => some (T j)
def qk_2 (T : Nat → Nat) (n j : Nat) : Option Nat := if j = n then none else some (T j)
theorem qk_b {T : Nat → Nat} {n j : Nat} {A : Nat → Prop} (hj : j ≤ n) (h : ∀ i, i < n → A (T i)) : (∀ a, qk_1 T j = some a → A a) ∧ (∀ a, qk_2 T n j = some a → A a) := by
  constructor
  · intro a ha
    cases j with
    | zero => cases ha
    | succ j =>
      have e : T j = a := Option.some.inj ha
      rw [← e]; exact h j (by omega)
  · intro a ha
    unfold qk_2 at ha
    by_cases e : j = n
    · rw [if_pos e] at ha; cases ha
    · rw [if_neg e] at ha
      have e : T j = a := Option.some.inj ha
      rw [← e]; exact h j (by omega)
theorem qx_putk {post : Int32 → SX → Prop} {T : Nat → Nat} {n j : Nat} (h60 : m < 60) (hs : s < 3) (hn : n ≤ m) (hj : j ≤ n) (ht : ∀ i, i < n → tx i = nI (T i)) (hT : ∀ i, i < n → T i < m)
    (K : post (nI m) (nI (m + 1), vp_updL P s (P s ||| qb_on m), vp_updL N m (qn_m N (qk_1 T j) ||| qn_m N (qk_2 T n j)), upd pu m (qI true), upd up m (qo_X (qk_1 T j)), upd lo m (qo_X (qk_2 T n j)), upd ct m x, L, tx, ot)) :
    (nI j = 0 → wX_put_63 post (nI s) (nI j) x (nI n) (-1000000003) (nI m) P N pu up lo ct L tx ot) ∧ (¬ nI j = 0 → (vp_in (nI j - 1) 60 ∧ wX_put_63 post (nI s) (nI j) x (nI n) (tx (nI j - 1).toNatClampNeg) (nI m) P N pu up lo ct L tx ot)) := by
  have B := qk_b (A := fun a => a < m) hj hT
  have main : wX_put_63 post (nI s) (nI j) x (nI n) (qo_X (qk_1 T j)) (nI m) P N pu up lo ct L tx ot := by
    simp only [wX_put_63, wX_put_82, qn_eq (show j < 2 ^ 31 by omega) (show n < 2 ^ 31 by omega)]
    refine br_c (fun e => ?_) (fun e => ⟨vp_in_nI (by omega) (by omega), ?_⟩)
    · have h2 : qk_2 T n j = none := if_pos e
      rw [h2] at K
      exact qx_make (b := true) (o2 := none) h60 hs B.1 (fun a ha => nomatch ha) K
    · have h2 : qk_2 T n j = some (T j) := if_neg e
      rw [h2] at K
      rw [nI_clamp (by omega), ht j (by omega)]
      exact qx_make (b := true) (o2 := some (T j)) h60 hs B.1 (fun a ha => by rw [← Option.some.inj ha]; exact hT j (by omega)) K
  cases j with
  | zero => exact br_t rfl main
  | succ j =>
    refine br_f (nI_ne0 (by omega) (by omega)) ?_
    rw [nI_pred, nI_clamp (by omega), ht j (by omega)]
    exact ⟨vp_in_nI (by omega) (by omega), main⟩
theorem qy_putk {post : Int32 → SY → Prop} {T : Nat → Nat} {n j : Nat} (hm : m ≤ 60) (hs : s < 3) (hn : n ≤ m) (hj : j ≤ n) (hS : ∀ t, t < 3 → ∀ q, q < m → sets (60 * t + q) = qI (S t q)) (ht : ∀ i, i < n → ty i = nI (T i)) (hT : ∀ i, i < n → T i < m)
    (K1 : m < 60 → ∀ sets, (∀ t, t < 3 → ∀ q, q < m + 1 → sets (60 * t + q) = qI (qS_n S m s t q)) → post (nI m) (nI (m + 1), nI n, ol, upd ups m (qo_Y (qk_1 T j)), upd los m (qo_Y (qk_2 T n j)), upd cts m x, sets, met, pile, ty, oth, W))
    (K0 : m = 60 → post (-1000000002) (nI m, nI n, ol, ups, los, cts, sets, met, pile, ty, oth, W)) :
    (nI j ≤ 0 → wY_put_49 post (nI j) x (-1) (nI s) (nI m) (nI n) ol ups los cts sets met pile ty oth W) ∧ (¬ nI j ≤ 0 → (vp_in (nI j - 1) 60 ∧ wY_put_49 post (nI j) x (ty (nI j - 1).toNatClampNeg) (nI s) (nI m) (nI n) ol ups los cts sets met pile ty oth W)) := by
  have main : wY_put_49 post (nI j) x (qo_Y (qk_1 T j)) (nI s) (nI m) (nI n) ol ups los cts sets met pile ty oth W := by
    simp only [wY_put_49, wY_put_67, qn_le (show n < 2 ^ 31 by omega) (show j < 2 ^ 31 by omega)]
    refine br_c (fun e => ?_) (fun e => ⟨vp_in_nI (by omega) (by omega), ?_⟩)
    · have h2 : qk_2 T n j = none := if_pos (by omega)
      rw [h2] at K1
      exact qy_make hm hs hS K1 K0
    · have h2 : qk_2 T n j = some (T j) := if_neg (by omega)
      rw [h2] at K1
      rw [nI_clamp (by omega), ht j (by omega)]
      exact qy_make hm hs hS K1 K0
  cases j with
  | zero => exact br_t (nI_le (b := 0) (Nat.le_refl _) (by decide)) main
  | succ j =>
    refine br_f (nI_nle (by omega) (by omega)) ?_
    rw [nI_pred, nI_clamp (by omega), ht j (by omega)]
    exact ⟨vp_in_nI (by omega) (by omega), main⟩
end
theorem i_vc_put {k : Nat} {u : SX} {v : SY} (I : i_Rel k u v) (hk : k + 4 ≤ 2048) (v1 : Int32) (v2 : Int32) (v3 : Int32) : wpX_put (fun r u' => wpY_put (fun r' v' => r' = r ∧ i_Rel (k + 4) u' v') v v1 v2 v3) u v1 v2 v3 := by
  obtain ⟨m, U, D, pl, C, S, P, N, pu, up, lo, ct, L, tx, ot, tl, ol, ups, los, cts, sets, met, pile, ty, oth, W, rfl, rfl, R, X, Y⟩ := I
  suffices H : ∀ Q : Int32 → SX → Int32 → SY → Prop, (∀ r u' v', i_Rel (k + 4) u' v' → Q r u' r v') → wpX_put (fun r u' => wpY_put (fun r' v' => Q r u' r' v') (nI m, tl, ol, ups, los, cts, sets, met, pile, ty, oth, W) v1 v2 v3) (nI m, P, N, pu, up, lo, ct, L, tx, ot) v1 v2 v3 from H (fun r u' r' v' => r' = r ∧ i_Rel (k + 4) u' v') (fun r u' v' h => ⟨rfl, h⟩)
  intro Q HQ
  obtain ⟨hm, hU, hD, hst, hsd, hN, hC⟩ := id R
  obtain ⟨hpu, hup, hlo, hct, hP⟩ := id X
  obtain ⟨hups, hlos, hcts, hS⟩ := id Y
  have J := q_rel (k := k + 4) (L := L) (tx := tx) (ot := ot) (tl := tl) (ol := ol) (met := met) (pile := pile) (ty := ty) (oth := oth) (W := W) R X Y
  rcases q_ix v1 (n := 3) (by omega) with b | ⟨s, hs, rfl⟩
  · simp only [wpX_put, wpY_put, qx_sb b, qy_sb b, qz_0, qz_1, true_implies, not_true, not_false_iff, false_implies, and_true, true_and]
    exact HQ _ _ _ J
  · have hc := qd_nm m U pl (S s)
    have hT : ∀ i, i < qd_n m U pl (S s) → qd_T m U D pl (S s) i < m := fun i hi => qd_Tm hi
    simp only [wpX_put, wpY_put, qx_sg hs, qy_sg hs, qn_in hs (show 3 < 2 ^ 31 by omega), nI_clamp (show s < 2 ^ 31 by omega), qz_0, qz_1, true_implies, not_true, not_false_iff, false_implies, and_true, true_and]
    refine qx_text hm hs hpu hup hlo hU hD hst (q_hP hs hP) (fun L' tx' hL ht => ?_)
    by_cases h0 : v2 < 0
    · simp only [h0, qz_0, qz_1, true_implies, not_true, not_false_iff, false_implies, and_true, true_and]
      refine qy_text hm hs hups hlos hU hD (hS s hs) (fun met' ty' W' hW hty => ?_)
      exact HQ _ _ _ (q_rel R X Y)
    · obtain ⟨j, hj31, rfl⟩ := nI_of h0
      by_cases hj : j ≤ qd_n m U pl (S s)
      · have h1 : (nI j ≤ nI (qd_n m U pl (S s))) = True := eq_true (nI_le hj (by omega))
        simp only [qn_neg hj31, h1, qn_60, qn_lt (show m < 2 ^ 31 by omega) (show 60 < 2 ^ 31 by omega), qz_0, qz_1, true_implies, not_true, not_false_iff, false_implies, and_true, true_and]
        have B := qk_b (T := qd_T m U D pl (S s)) (A := fun a => a < m ∧ (a = 0 ∨ S s a = true)) hj (fun i hi => ⟨hT i hi, qd_TS i⟩)
        refine br_c (fun h60 => ?_) (fun h60 => ?_)
        · refine qx_putk (T := qd_T m U D pl (S s)) h60 hs hc hj ht hT ?_
          refine qy_text hm hs hups hlos hU hD (hS s hs) (fun met' ty' W' hW hty => ?_)
          simp only [h1, qz_0, qz_1, true_implies, not_true, not_false_iff, false_implies, and_true, true_and]
          refine qy_putk (T := qd_T m U D pl (S s)) hm hs hc hj hS hty hT (fun _ sets' hsets => ?_) (fun e => by omega)
          exact HQ _ _ _ (q_rel (qR_make (b := true) R h60 B.1 B.2 (fun z => nomatch z) (fun z => nomatch z)) (qX_make X h60 hs) (qY_make Y hsets))
        · refine qy_text hm hs hups hlos hU hD (hS s hs) (fun met' ty' W' hW hty => ?_)
          simp only [h1, qz_0, qz_1, true_implies, not_true, not_false_iff, false_implies, and_true, true_and]
          refine qy_putk (T := qd_T m U D pl (S s)) hm hs hc hj hS hty hT (fun e => absurd e h60) (fun _ => ?_)
          exact HQ _ _ _ (q_rel R X Y)
      · have h1 : (nI j ≤ nI (qd_n m U pl (S s))) = False := eq_false (nI_ge (by omega) hj31)
        simp only [qn_neg hj31, h1, qz_0, qz_1, true_implies, not_true, not_false_iff, false_implies, and_true, true_and]
        refine qy_text hm hs hups hlos hU hD (hS s hs) (fun met' ty' W' hW hty => ?_)
        simp only [h1, qz_0, qz_1, true_implies, not_true, not_false_iff, false_implies, and_true, true_and]
        exact HQ _ _ _ (q_rel R X Y)
