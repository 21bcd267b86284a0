/-! Y: gather -/
theorem qm_1 (n : Nat) : nI (n + 1) + (-1) = nI n := by
  rw [← nI_1, Int32.add_assoc, show (1 : Int32) + (-1) = 0 from rfl, Int32.add_zero]
theorem qo_Yneg {o : Option Nat} (ho : ∀ b, o = some b → b < 2 ^ 31) : (qo_Y o < 0) = (o = none) := by
  cases o with
  | none => rw [qo_Yn, qz_n1]; simp
  | some b => rw [qo_Ys, qn_neg (ho b rfl)]; simp
theorem qo_Lneg {o : Option Nat} {b : Bool} (ho : ∀ b, o = some b → b < 2 ^ 31) (hb : b = false → o = none) : ((bif b then qo_Y o else -2) < 0) = (o = none) := by
  cases b
  · rw [hb rfl, cond_false, qz_n2]; simp
  · exact qo_Yneg ho
section
variable {m p : Nat} {U D : Nat → Option Nat} {pl : Nat → Bool} {S : Nat → Nat → Bool} {N : Nat → Int64} {ups los cts sets met pile tx oth : Nat → Int32} {W : Nat → Int64} {mc tl ol : Int32}
theorem qg_cl (R : qR m U D pl S N) {Z : Nat → Bool} (hc : ∀ j, j < m → Z j = true → ∀ a, (U j = some a ∨ D j = some a) → Z a = true) : ∀ q, q < m → Z q = true → ∀ j, qb_t (N q) j = true → Z j = true := by
  intro q
  induction q using Nat.strongRecOn with
  | ind q ih =>
    intro hq hz j hj
    obtain ⟨a, ha, e⟩ := qN_c R.2.2.2.2.2.1 hq hj
    have l := qN_lt' R hq ha
    have za := hc q hq hz a ha
    rcases e with e | e
    · rw [e]; exact za
    · exact ih a l (by omega) za j e
theorem qy_g32 {post : SY → Prop} (R : qR m U D pl S N) (hups : ∀ p, p < m → ups p = qo_Y (U p)) (hlos : ∀ p, p < m → los p = (bif pl p then qo_Y (D p) else -2)) (hp : p < m)
    (K : ∀ met pile, (∀ j, j < m → met j = qI (decide (j = p) || qb_t (N p) j)) → post (nI m, tl, ol, ups, los, cts, sets, met, pile, tx, oth, W)) :
    ∀ n c (Z : Nat → Bool) met pile, c ≤ 1 + qs (fun j => (Z j).toNat) m → c + 3 * (m - qs (fun j => (Z j).toNat) m) < n → (∀ j, j < m → met j = qI (Z j)) → (∀ i, i < c → ∃ a, a < m ∧ (a = p ∨ qb_t (N p) a = true) ∧ pile i = nI a) → (∀ j, j < m → Z j = true → (j = p ∨ qb_t (N p) j = true)) → (∀ j, j < m → Z j = true → ∀ a, (U j = some a ∨ D j = some a) → Z a = true ∨ ∃ i, i < c ∧ pile i = nI a) → (Z p = true ∨ ∃ i, i < c ∧ pile i = nI p) →
      wY_gather_32 post (nI m) tl ol n (nI c) ups los cts sets met pile tx oth W := by
  obtain ⟨hm, hU, hD, hst, hsd, hN, hC⟩ := id R
  intro n
  induction n with
  | zero => intro c Z met pile h1 h2; omega
  | succ n ih =>
    intro c Z met pile hc1 hc2 hmet hpile hZ hcl hzp
    have hcm := qs_le (f := Z) m
    simp only [wY_gather_32]
    cases c with
    | zero =>
      refine br_t (nI_le (b := 0) (Nat.le_refl _) (by decide)) (K _ _ (fun j hj => ?_))
      rw [hmet j hj]
      have hzp : Z p = true := by
        rcases hzp with z | ⟨i, hi, _⟩
        · exact z
        · omega
      have hcl : ∀ j, j < m → Z j = true → ∀ a, (U j = some a ∨ D j = some a) → Z a = true := by
        intro j hj hz a ha
        rcases hcl j hj hz a ha with z | ⟨i, hi, _⟩
        · exact z
        · omega
      congr 1
      cases h : Z j
      · cases h2 : decide (j = p) || qb_t (N p) j
        · rfl
        · rw [Bool.or_eq_true] at h2
          rcases h2 with z | z
          · rw [of_decide_eq_true z, hzp] at h; cases h
          · rw [qg_cl R hcl p hp hzp j z] at h; cases h
      · rcases hZ j hj h with z | z
        · rw [decide_eq_true z]; rfl
        · rw [z, Bool.or_true]
    | succ c =>
      obtain ⟨q, hq, hgq, eq⟩ := hpile c (by omega)
      have fi : vp_in (nI q) 60 = True := qn_in (by omega) (by omega)
      have fc : vp_in (nI c) 130 = True := qn_in (by omega) (by omega)
      have gc : (nI c).toNatClampNeg = c := nI_clamp (by omega)
      refine br_f (nI_nle (by omega) (by omega)) ?_
      simp only [qm_1, forall_eq, fc, gc, true_and, eq, fi, nI_clamp (show q < 2 ^ 31 by omega), hmet q hq, qI_0, qI_nar1]
      cases hz : Z q
      · refine ⟨fun _ => ?_, fun z => absurd rfl z⟩
        have hput := qs_put hz m hq
        have step : ∀ c2 (pile2 : Nat → Int32), c ≤ c2 → c2 ≤ c + 2 → (∀ i, i < c → pile2 i = pile i) → (∀ i, c ≤ i → i < c2 → ∃ a, (U q = some a ∨ D q = some a) ∧ pile2 i = nI a) → (∀ a, (U q = some a ∨ D q = some a) → ∃ i, i < c2 ∧ pile2 i = nI a) → wY_gather_32 post (nI m) tl ol n (nI c2) ups los cts sets (upd met q 1) pile2 tx oth W := by
          intro c2 pile2 a1 a2 a3 a4 a5
          have hcm2 := qs_le (f := fun j => Z j || decide (j = q)) m
          have gd : ∀ a, (U q = some a ∨ D q = some a) → a < m ∧ qb_t (N p) a = true := by
            intro a ha
            have l := qN_lt' R hq ha
            refine ⟨by omega, ?_⟩
            have t : qb_t (N q) a = true := qN_d hN hq ha a (Or.inl rfl)
            rcases hgq with z | z
            · rw [← z]; exact t
            · exact qN_tr R p hp q a z t
          refine ih c2 (fun j => Z j || decide (j = q)) _ pile2 (by omega) (by omega) (fun j hj => ?_) (fun i hi => ?_) (fun j hj h => ?_) (fun j hj h a ha => ?_) ?_
          · by_cases z : j = q
            · rw [z, qu_s, decide_eq_true rfl, Bool.or_true]; rfl
            · rw [qu_n z, hmet j hj, decide_eq_false z, Bool.or_false]
          · rcases Nat.lt_or_ge i c with z | z
            · obtain ⟨a, b1, b2, b3⟩ := hpile i (by omega)
              exact ⟨a, b1, b2, by rw [a3 i z]; exact b3⟩
            · obtain ⟨a, b1, b2⟩ := a4 i z hi
              exact ⟨a, (gd a b1).1, Or.inr (gd a b1).2, b2⟩
          · rw [Bool.or_eq_true] at h
            rcases h with z | z
            · exact hZ j hj z
            · rw [of_decide_eq_true z]; exact hgq
          · rw [Bool.or_eq_true] at h
            show (Z a || decide (a = q)) = true ∨ _
            rcases h with z | z
            · rcases hcl j hj z a ha with y | ⟨i, hi, y⟩
              · rw [y]; exact Or.inl rfl
              · rcases Nat.lt_or_ge i c with x | x
                · exact Or.inr ⟨i, by omega, by rw [a3 i x]; exact y⟩
                · have ei : i = c := by omega
                  rw [ei, eq] at y
                  have l := qN_lt' R hj ha
                  have e2 : q = a := (nI_eq (by omega) (by omega)).mp y
                  rw [decide_eq_true e2.symm, Bool.or_true]; exact Or.inl rfl
            · have e2 : j = q := of_decide_eq_true z
              rw [e2] at ha
              exact Or.inr (a5 a ha)
          · show (Z p || decide (p = q)) = true ∨ _
            rcases hzp with z | ⟨i, hi, y⟩
            · rw [z]; exact Or.inl rfl
            · rcases Nat.lt_or_ge i c with x | x
              · exact Or.inr ⟨i, by omega, by rw [a3 i x]; exact y⟩
              · have ei : i = c := by omega
                rw [ei, eq] at y
                have e2 : q = p := (nI_eq (by omega) (by omega)).mp y
                rw [decide_eq_true e2.symm, Bool.or_true]; exact Or.inl rfl
        have hq31 : ∀ b, (U q = some b ∨ D q = some b) → b < 2 ^ 31 := fun b hb => by have := qN_lt' R hq hb; omega
        simp only [wY_gather_86, fi, nI_clamp (show q < 2 ^ 31 by omega), hups q hq, hlos q hq, qo_Yneg (fun b hb => hq31 b (Or.inl hb)), qo_Lneg (fun b hb => hq31 b (Or.inr hb)) (hsd q hq), true_and, nI_1, forall_eq, fc, gc]
        have hv : ∀ a, D q = some a → (bif pl q then qo_Y (D q) else -2) = nI a := by
          intro a ha
          cases h : pl q
          · rw [hsd q hq h] at ha; cases ha
          · rw [ha]; rfl
        cases h3 : U q with
        | none =>
          refine ⟨fun _ => ?_, fun z => absurd rfl z⟩
          cases h4 : D q with
          | none =>
            refine ⟨fun _ => step c pile (by omega) (by omega) (fun _ _ => rfl) (fun i h1 h2 => by omega) (fun a ha => ?_), fun z => absurd rfl z⟩
            rw [h3, h4] at ha
            rcases ha with ha | ha <;> cases ha
          | some b =>
            refine ⟨(fun z => nomatch z), fun _ => ?_⟩
            have hvb := hv b h4
            rw [h4] at hvb
            rw [hvb]
            refine step (c + 1) _ (by omega) (by omega) (fun i hi => qu_n (by omega)) (fun i h1 h2 => ?_) (fun a ha => ?_)
            · exact ⟨b, Or.inr h4, by rw [show i = c by omega, qu_s]⟩
            · rw [h3, h4] at ha
              rcases ha with ha | ha
              · cases ha
              · cases ha
                exact ⟨c, by omega, qu_s⟩
        | some a =>
          refine ⟨(fun z => nomatch z), fun _ => ?_⟩
          have fc1 : vp_in (nI (c + 1)) 130 = True := qn_in (by omega) (by omega)
          simp only [fc1, nI_clamp (show c + 1 < 2 ^ 31 by omega), true_and, qo_Ys]
          cases h4 : D q with
          | none =>
            refine ⟨fun _ => step (c + 1) _ (by omega) (by omega) (fun i hi => qu_n (by omega)) (fun i h1 h2 => ?_) (fun a' ha => ?_), fun z => absurd rfl z⟩
            · exact ⟨a, Or.inl h3, by rw [show i = c by omega, qu_s]⟩
            · rw [h3, h4] at ha
              rcases ha with ha | ha
              · cases ha
                exact ⟨c, by omega, qu_s⟩
              · cases ha
          | some b =>
            refine ⟨(fun z => nomatch z), fun _ => ?_⟩
            have hvb := hv b h4
            rw [h4] at hvb
            rw [hvb]
            refine step (c + 1 + 1) _ (by omega) (by omega) (fun i hi => by rw [qu_n (by omega), qu_n (by omega)]) (fun i h1 h2 => ?_) (fun a' ha => ?_)
            · by_cases z : i = c
              · exact ⟨a, Or.inl h3, by rw [z, qu_n (by omega), qu_s]⟩
              · exact ⟨b, Or.inr h4, by rw [show i = c + 1 by omega, qu_s]⟩
            · rw [h3, h4] at ha
              rcases ha with ha | ha
              · cases ha
                exact ⟨c, by omega, by rw [qu_n (by omega), qu_s]⟩
              · cases ha
                exact ⟨c + 1, by omega, qu_s⟩
      · refine ⟨(fun z => nomatch z), fun _ => ?_⟩
        refine ih c Z met pile (by omega) (by omega) hmet (fun i hi => hpile i (by omega)) hZ (fun j hj h a ha => ?_) ?_
        · rcases hcl j hj h a ha with y | ⟨i, hi, y⟩
          · exact Or.inl y
          · rcases Nat.lt_or_ge i c with x | x
            · exact Or.inr ⟨i, x, y⟩
            · have ei : i = c := by omega
              rw [ei, eq] at y
              have l := qN_lt' R hj ha
              have e2 : q = a := (nI_eq (by omega) (by omega)).mp y
              rw [← e2]; exact Or.inl hz
        · rcases hzp with z | ⟨i, hi, y⟩
          · exact Or.inl z
          · rcases Nat.lt_or_ge i c with x | x
            · exact Or.inr ⟨i, x, y⟩
            · have ei : i = c := by omega
              rw [ei, eq] at y
              have e2 : q = p := (nI_eq (by omega) (by omega)).mp y
              rw [← e2]; exact Or.inl hz
theorem qy_g2 {post : SY → Prop} (R : qR m U D pl S N) (hups : ∀ p, p < m → ups p = qo_Y (U p)) (hlos : ∀ p, p < m → los p = (bif pl p then qo_Y (D p) else -2)) (hp : p < m)
    (K : ∀ met pile, (∀ j, j < m → met j = qI (decide (j = p) || qb_t (N p) j)) → post (nI m, tl, ol, ups, los, cts, sets, met, pile, tx, oth, W)) :
    ∀ n i met, i ≤ m → m - i < n → (∀ j, j < i → met j = 0) → wY_gather_2 post (nI p) (nI m) tl ol n (nI i) ups los cts sets met pile tx oth W := by
  have hm : m ≤ 60 := R.1
  intro n
  induction n with
  | zero => intro i met hi hn; omega
  | succ n ih =>
    intro i met hi hn h
    simp only [wY_gather_2]
    rcases Nat.lt_or_ge i m with hlt | hge
    · refine br_f (nI_ge hlt (by omega)) ⟨vp_in_nI (by omega) (by omega), ?_⟩
      simp only [nI_clamp (show i < 2 ^ 31 by omega), qI_nar0, nI_1, forall_eq]
      refine ih (i + 1) _ (by omega) (by omega) (fun j hj => ?_)
      by_cases z : j = i
      · rw [z, qu_s]
      · rw [qu_n z]; exact h j (by omega)
    · have e : i = m := by omega
      subst e
      refine br_t (nI_le (Nat.le_refl _) (by omega)) ?_
      simp only [forall_eq]
      have hz : qs (fun j => ((fun _ => false : Nat → Bool) j).toNat) i = 0 := qs_zero i (fun _ _ => rfl)
      refine ⟨3 * i + 2, qy_g32 R hups hlos hp K (3 * i + 2) 1 (fun _ => false) met _ (by omega) (by rw [hz]; omega) h (fun k hk => ?_) (fun j hj hh => nomatch hh) (fun j hj hh => nomatch hh) (Or.inr ⟨0, by omega, qu_s⟩)⟩
      exact ⟨p, hp, Or.inl rfl, by rw [show k = 0 by omega, qu_s]⟩
theorem qy_gather {post : SY → Prop} (R : qR m U D pl S N) (hups : ∀ p, p < m → ups p = qo_Y (U p)) (hlos : ∀ p, p < m → los p = (bif pl p then qo_Y (D p) else -2)) (hp : p < m)
    (K : ∀ met pile, (∀ j, j < m → met j = qI (decide (j = p) || qb_t (N p) j)) → post (nI m, tl, ol, ups, los, cts, sets, met, pile, tx, oth, W)) :
    wpY_gather post (nI m, tl, ol, ups, los, cts, sets, met, pile, tx, oth, W) (nI p) := by
  simp only [wpY_gather]
  exact ⟨m + 1, qy_g2 R hups hlos hp K (m + 1) 0 met (by omega) (by omega) (fun j hj => by omega)⟩
end
