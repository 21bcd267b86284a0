/-! what a patch needs: N p is the mask of the patches that p needs -/
def qn_th (N : Nat → Int64) (o : Option Nat) (j : Nat) : Bool := match o with | none => false | some a => qb_t (N a) j || decide (j = a)
def qR (m : Nat) (U D : Nat → Option Nat) (pl : Nat → Bool) (S : Nat → Nat → Bool) (N : Nat → Int64) : Prop :=
  m ≤ 60 ∧ (∀ p, p < m → ∀ a, U p = some a → a < p) ∧ (∀ p, p < m → ∀ a, D p = some a → a < p) ∧ (∀ p, p < m → pl p = false → ∃ a, U p = some a) ∧ (∀ p, p < m → pl p = false → D p = none) ∧ (∀ p, p < m → ∀ j, qb_t (N p) j = (qn_th N (U p) j || qn_th N (D p) j)) ∧ (∀ s, s < 3 → ∀ q, q < m → S s q = true → ∀ j, qb_t (N q) j = true → j = 0 ∨ S s j = true)
def qX (m : Nat) (U D : Nat → Option Nat) (pl : Nat → Bool) (C : Nat → Int32) (S : Nat → Nat → Bool) (P : Nat → Int64) (pu up lo ct : Nat → Int32) : Prop :=
  (∀ p, p < m → pu p = qI (pl p)) ∧ (∀ p, p < m → up p = qo_X (U p)) ∧ (∀ p, p < m → lo p = qo_X (D p)) ∧ (∀ p, p < m → ct p = C p) ∧ (∀ s, s < 3 → ∀ j, qb_t (P s) j = (decide (j < m) && S s j))
def qY (m : Nat) (U D : Nat → Option Nat) (pl : Nat → Bool) (C : Nat → Int32) (S : Nat → Nat → Bool) (ups los cts sets : Nat → Int32) : Prop :=
  (∀ p, p < m → ups p = qo_Y (U p)) ∧ (∀ p, p < m → los p = (bif pl p then qo_Y (D p) else -2)) ∧ (∀ p, p < m → cts p = C p) ∧ (∀ s, s < 3 → ∀ p, p < m → sets (60 * s + p) = qI (S s p))
theorem qN_d {m : Nat} {U D : Nat → Option Nat} {N : Nat → Int64} (hN : ∀ p, p < m → ∀ j, qb_t (N p) j = (qn_th N (U p) j || qn_th N (D p) j)) {p a : Nat} (hp : p < m) (h : U p = some a ∨ D p = some a) : ∀ j, (j = a ∨ qb_t (N a) j = true) → qb_t (N p) j = true := by
  intro j hj
  have e : qn_th N (some a) j = true := by
    show (qb_t (N a) j || decide (j = a)) = true
    rcases hj with z | z
    · rw [decide_eq_true z, Bool.or_true]
    · rw [z, Bool.true_or]
  rw [hN p hp j]
  rcases h with h | h
  · rw [h, e, Bool.true_or]
  · rw [h, e, Bool.or_true]
theorem qN_c {m : Nat} {U D : Nat → Option Nat} {N : Nat → Int64} (hN : ∀ p, p < m → ∀ j, qb_t (N p) j = (qn_th N (U p) j || qn_th N (D p) j)) {p j : Nat} (hp : p < m) (h : qb_t (N p) j = true) : ∃ a, (U p = some a ∨ D p = some a) ∧ (j = a ∨ qb_t (N a) j = true) := by
  rw [hN p hp j, Bool.or_eq_true] at h
  have e : ∀ o, qn_th N o j = true → ∃ a, o = some a ∧ (j = a ∨ qb_t (N a) j = true) := by
    intro o ho
    cases o with
    | none => cases ho
    | some a =>
      have ho : (qb_t (N a) j || decide (j = a)) = true := ho
      rw [Bool.or_eq_true] at ho
      rcases ho with z | z
      · exact ⟨a, rfl, Or.inr z⟩
      · exact ⟨a, rfl, Or.inl (of_decide_eq_true z)⟩
  rcases h with h | h
  · obtain ⟨a, e1, e2⟩ := e _ h
    exact ⟨a, Or.inl e1, e2⟩
  · obtain ⟨a, e1, e2⟩ := e _ h
    exact ⟨a, Or.inr e1, e2⟩
section
variable {m : Nat} {U D : Nat → Option Nat} {pl : Nat → Bool} {S : Nat → Nat → Bool} {N : Nat → Int64}
theorem qN_lt' {p a : Nat} (R : qR m U D pl S N) (hp : p < m) (h : U p = some a ∨ D p = some a) : a < p := by
  obtain ⟨hm, hU, hD, hst, hsd, hN, hC⟩ := R
  rcases h with h | h
  · exact hU p hp a h
  · exact hD p hp a h
theorem qN_lt (R : qR m U D pl S N) : ∀ p, p < m → ∀ j, qb_t (N p) j = true → j < p := by
  intro p
  induction p using Nat.strongRecOn with
  | ind p ih =>
    intro hp j hj
    obtain ⟨a, ha, e⟩ := qN_c R.2.2.2.2.2.1 hp hj
    have l := qN_lt' R hp ha
    rcases e with e | e
    · omega
    · have := ih a l (by omega) j e
      omega
theorem qN_tr (R : qR m U D pl S N) : ∀ p, p < m → ∀ a b, qb_t (N p) a = true → qb_t (N a) b = true → qb_t (N p) b = true := by
  intro p
  induction p using Nat.strongRecOn with
  | ind p ih =>
    intro hp a b ha hb
    obtain ⟨c, hc, e⟩ := qN_c R.2.2.2.2.2.1 hp ha
    have l := qN_lt' R hp hc
    refine qN_d R.2.2.2.2.2.1 hp hc b (Or.inr ?_)
    rcases e with e | e
    · rw [← e]; exact hb
    · exact ih c l (by omega) a b e hb
theorem qN_nd (R : qR m U D pl S N) {s : Nat} (hs : s < 3) (p : Nat) : qe (fun q => S s q && qb_t (N q) p) m = qe (fun q => S s q && (decide (U q = some p) || decide (D q = some p))) m := by
  have fw : ∀ q, q < m → S s q = true → qb_t (N q) p = true → ∃ q', q' < m ∧ (S s q' && (decide (U q' = some p) || decide (D q' = some p))) = true := by
    intro q
    induction q using Nat.strongRecOn with
    | ind q ih =>
      intro hq hSq hN
      obtain ⟨a, ha, e⟩ := qN_c R.2.2.2.2.2.1 hq hN
      have l := qN_lt' R hq ha
      rcases e with e | e
      · subst e
        refine ⟨q, hq, ?_⟩
        rw [hSq]
        rcases ha with ha | ha
        · rw [decide_eq_true ha]; rfl
        · rw [decide_eq_true ha, Bool.or_true]; rfl
      · have t : qb_t (N q) a = true := qN_d R.2.2.2.2.2.1 hq ha a (Or.inl rfl)
        rcases R.2.2.2.2.2.2 s hs q hq hSq a t with z | z
        · subst z
          have := qN_lt R 0 (by omega) p e
          omega
        · exact ih a l (by omega) z e
  cases h : qe (fun q => S s q && (decide (U q = some p) || decide (D q = some p))) m
  · refine qe_f.mpr (fun q hq => ?_)
    cases z : S s q && qb_t (N q) p
    · rfl
    · rw [Bool.and_eq_true] at z
      obtain ⟨q', h1, h2⟩ := fw q hq z.1 z.2
      rw [qe_f.mp h q' h1] at h2
      cases h2
  · obtain ⟨q, hq, e⟩ := qe_t.mp h
    rw [Bool.and_eq_true, Bool.or_eq_true] at e
    refine qe_t.mpr ⟨q, hq, ?_⟩
    rw [e.1, qN_d R.2.2.2.2.2.1 hq (a := p) (e.2.imp of_decide_eq_true of_decide_eq_true) p (Or.inl rfl)]
    rfl
end
theorem qs_put {Z : Nat → Bool} {q : Nat} (hz : Z q = false) : ∀ m, q < m → qs (fun j => (Z j || decide (j = q)).toNat) m = qs (fun j => (Z j).toNat) m + 1 := by
  intro m
  induction m with
  | zero => intro h; omega
  | succ m ih =>
    intro h
    show qs (fun j => (Z j || decide (j = q)).toNat) m + (Z m || decide (m = q)).toNat = qs (fun j => (Z j).toNat) m + (Z m).toNat + 1
    by_cases e : m = q
    · rw [decide_eq_true e, e, hz, qs_congr (g := fun j => (Z j).toNat) q (fun i hi => by rw [decide_eq_false (by omega), Bool.or_false])]
      rfl
    · rw [decide_eq_false e, Bool.or_false, ih (by omega)]
      omega
/-! X: neededIn; Y: count, isNeeded -/
section
variable {m s : Nat} {U D : Nat → Option Nat} {pl Sg : Nat → Bool} {P N L : Nat → Int64} {pu up lo ct tx ot : Nat → Int32}
theorem qx_need5 {post : Int64 → Prop} (hm : m ≤ 60) (hs : s < 3) (hP : ∀ j, j < m → qb_t (P s) j = Sg j)
    (K : ∀ w, (∀ j, qb_t w j = qe (fun q => Sg q && qb_t (N q) j) m) → post w) :
    ∀ n p y, p ≤ m → m - p < n → (∀ j, qb_t y j = qe (fun q => Sg q && qb_t (N q) j) p) → wX_neededIn_5 post (nI s) (nI m) P N pu up lo ct L tx ot n y (nI p) := by
  intro n
  induction n with
  | zero => intro p y hp hn; omega
  | succ n ih =>
    intro p y hp hn hy
    simp only [wX_neededIn_5]
    rcases Nat.lt_or_ge p m with hlt | hge
    · refine br_f (nI_ge hlt (by omega)) ?_
      have fi : vp_in (nI p) 60 = True := qn_in (by omega) (by omega)
      have fs : vp_in (nI s) 3 = True := qn_in (by omega) (by omega)
      simp only [fi, fs, nI_clamp (show p < 2 ^ 31 by omega), nI_clamp (show s < 2 ^ 31 by omega), hP p hlt, qx_isIn (show p < 64 by omega), qI_0, nI_1, forall_eq, true_and]
      cases h2 : Sg p
      · refine ⟨fun _ => ih (p + 1) y (by omega) (by omega) (fun j => ?_), fun z => absurd rfl z⟩
        rw [hy j]; simp [qe, h2]
      · refine ⟨(fun z => nomatch z), fun _ => ih (p + 1) _ (by omega) (by omega) (fun j => ?_)⟩
        rw [qb_or, hy j]; simp [qe, h2]
    · have e : p = m := by omega
      subst e
      exact br_t (nI_le (Nat.le_refl _) (by omega)) (K _ hy)
theorem qx_need {post : Int64 → Prop} (hm : m ≤ 60) (hs : s < 3) (hP : ∀ j, j < m → qb_t (P s) j = Sg j)
    (K : ∀ w, (∀ j, qb_t w j = qe (fun q => Sg q && qb_t (N q) j) m) → post w) : wpX_neededIn post (nI m, P, N, pu, up, lo, ct, L, tx, ot) (nI s) := by
  simp only [wpX_neededIn]
  exact ⟨m + 1, qx_need5 hm hs hP K (m + 1) 0 0 (by omega) (by omega) (fun j => by rw [qb_0]; rfl)⟩
end
section
variable {m s : Nat} {U D : Nat → Option Nat} {pl Sg : Nat → Bool} {ups los cts sets met pile tx oth : Nat → Int32} {W : Nat → Int64} {mc tl ol : Int32}
theorem qy_count4 {post : Int32 → Prop} (hm : m ≤ 60) (hs : s < 3) (hS : ∀ p, p < m → sets (60 * s + p) = qI (Sg p)) (K : post (nI (qs (fun i => (Sg i).toNat) m))) :
    ∀ n i, i ≤ m → m - i < n → wY_count_4 post (nI s) (nI m) tl ol ups los cts sets met pile tx oth W n (nI (qs (fun i => (Sg i).toNat) i)) (nI i) := by
  intro n
  induction n with
  | zero => intro i hi hn; omega
  | succ n ih =>
    intro i hi hn
    simp only [wY_count_4]
    rcases Nat.lt_or_ge i m with hlt | hge
    · refine br_f (nI_ge hlt (by omega)) ?_
      have IH := ih (i + 1) (by omega) (by omega)
      rw [qy_hasIt hs (by omega) (hS i hlt)]
      simp only [qI_0, nI_1, forall_eq]
      simp only [qs] at IH
      cases h : Sg i
      · rw [h] at IH; exact ⟨fun _ => IH, fun z => absurd rfl z⟩
      · rw [h] at IH; exact ⟨(fun z => nomatch z), fun _ => IH⟩
    · have e : i = m := by omega
      subst e
      exact br_t (nI_le (Nat.le_refl _) (by omega)) K
theorem qy_count {post : Int32 → Prop} (hm : m ≤ 60) (hs : s < 3) (hS : ∀ p, p < m → sets (60 * s + p) = qI (Sg p)) (K : post (nI (qs (fun i => (Sg i).toNat) m))) : wpY_count post (nI m, tl, ol, ups, los, cts, sets, met, pile, tx, oth, W) (nI s) := by
  simp only [wpY_count]
  exact ⟨m + 1, qy_count4 hm hs hS K (m + 1) 0 (by omega) (by omega)⟩
theorem qo_Leq {o : Option Nat} {b : Bool} {a : Nat} (ho : ∀ b, o = some b → b < 2 ^ 31) (hb : b = false → o = none) (ha : a < 2 ^ 31) : ((bif b then qo_Y o else -2) = nI a) = (o = some a) := by
  cases b
  · rw [hb rfl]
    refine propext ⟨fun e => ?_, fun e => nomatch e⟩
    exact (cast (qn_m2 ha) (Eq.symm e)).elim
  · exact qo_Yeq ho ha
theorem qy_needed2 {post : Int32 → Prop} {a : Nat} (hm : m ≤ 60) (hs : s < 3) (ha : a < m) (hups : ∀ p, p < m → ups p = qo_Y (U p)) (hlos : ∀ p, p < m → los p = (bif pl p then qo_Y (D p) else -2)) (hU : ∀ p, p < m → ∀ a, U p = some a → a < p) (hD : ∀ p, p < m → ∀ a, D p = some a → a < p) (hsd : ∀ p, p < m → pl p = false → D p = none) (hS : ∀ p, p < m → sets (60 * s + p) = qI (Sg p))
    (K : post (qI (qe (fun q => Sg q && (decide (U q = some a) || decide (D q = some a))) m))) :
    ∀ n i, i ≤ m → m - i < n → (∀ j, j < i → (Sg j && (decide (U j = some a) || decide (D j = some a))) = false) → wY_isNeeded_2 post (nI s) (nI a) (nI m) tl ol ups los cts sets met pile tx oth W n (nI i) := by
  intro n
  induction n with
  | zero => intro i hi hn; omega
  | succ n ih =>
    intro i hi hn hI
    simp only [wY_isNeeded_2]
    rcases Nat.lt_or_ge i m with hlt | hge
    · refine br_f (nI_ge hlt (by omega)) ?_
      have IH : (Sg i && (decide (U i = some a) || decide (D i = some a))) = false → wY_isNeeded_2 post (nI s) (nI a) (nI m) tl ol ups los cts sets met pile tx oth W n (nI (i + 1)) := fun h => ih (i + 1) (by omega) (by omega) (fun j hj => by
        rcases Nat.lt_or_ge j i with z | z
        · exact hI j z
        · rw [show j = i by omega]; exact h)
      have fi : vp_in (nI i) 60 = True := qn_in (by omega) (by omega)
      rw [qy_hasIt hs (by omega) (hS i hlt)]
      simp only [fi, nI_clamp (show i < 2 ^ 31 by omega), hups i hlt, hlos i hlt, qo_Yeq (fun b hb => Nat.lt_trans (hU i hlt b hb) (by omega)) (show a < 2 ^ 31 by omega), qo_Leq (fun b hb => Nat.lt_trans (hD i hlt b hb) (by omega)) (hsd i hlt) (show a < 2 ^ 31 by omega), true_and, nI_1, forall_eq, qI_0]
      have yes : (Sg i && (decide (U i = some a) || decide (D i = some a))) = true → post 1 := fun h => by
        have e : qe (fun q => Sg q && (decide (U q = some a) || decide (D q = some a))) m = true := qe_t.mpr ⟨i, hlt, h⟩
        rw [e] at K; exact K
      cases h2 : Sg i
      · exact ⟨fun _ => IH (by rw [h2, Bool.false_and]), fun z => absurd rfl z⟩
      · refine ⟨(fun z => nomatch z), fun _ => br_c (fun h3 => yes (by rw [h2, decide_eq_true h3]; rfl)) (fun h3 => br_c (fun h4 => yes (by rw [h2, decide_eq_true h4, Bool.or_true]; rfl)) (fun h4 => IH (by rw [decide_eq_false h3, decide_eq_false h4]; simp)))⟩
    · have e : i = m := by omega
      subst e
      have e : qe (fun q => Sg q && (decide (U q = some a) || decide (D q = some a))) i = false := qe_f.mpr hI
      rw [e] at K
      exact br_t (nI_le (Nat.le_refl _) (by omega)) K
theorem qy_needed {post : Int32 → Prop} {a : Nat} (hm : m ≤ 60) (hs : s < 3) (ha : a < m) (hups : ∀ p, p < m → ups p = qo_Y (U p)) (hlos : ∀ p, p < m → los p = (bif pl p then qo_Y (D p) else -2)) (hU : ∀ p, p < m → ∀ a, U p = some a → a < p) (hD : ∀ p, p < m → ∀ a, D p = some a → a < p) (hsd : ∀ p, p < m → pl p = false → D p = none) (hS : ∀ p, p < m → sets (60 * s + p) = qI (Sg p))
    (K : post (qI (qe (fun q => Sg q && (decide (U q = some a) || decide (D q = some a))) m))) : wpY_isNeeded post (nI m, tl, ol, ups, los, cts, sets, met, pile, tx, oth, W) (nI s) (nI a) := by
  simp only [wpY_isNeeded]
  exact ⟨m + 1, qy_needed2 hm hs ha hups hlos hU hD hsd hS K (m + 1) 0 (by omega) (by omega) (fun j hj => by omega)⟩
end
