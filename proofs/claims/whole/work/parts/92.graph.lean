/-! quiet ways: the graph, and the class's table of treads -/
def Qs (rU rD : Nat → Nat) (a b : Nat) : Prop := a ≠ b ∧ a ≤ b + 3 ∧ b ≤ a + 3 ∧ ((b ≤ a ∧ rD b = 0) ∨ (a < b ∧ rU b = 0))
def Rn (Q : Nat → Nat → Prop) (z : Nat) : Nat → Nat → Prop
  | 0, p => p = z
  | n + 1, p => ∃ q, q < 13 ∧ Q p q ∧ Rn Q z n q
def LD (Q : Nat → Nat → Prop) (z m p : Nat) : Prop := Rn Q z m p ∧ ∀ m', m' < m → ¬ Rn Q z m' p
theorem LD.un {Q : Nat → Nat → Prop} {z m m' p : Nat} (a : LD Q z m p) (b : LD Q z m' p) : m = m' := by
  rcases Nat.lt_trichotomy m m' with h | h | h
  · exact absurd a.1 (b.2 m h)
  · exact h
  · exact absurd b.1 (a.2 m' h)
theorem LD.nx {Q : Nat → Nat → Prop} {z m p q : Nat} (a : ∀ m', m' ≤ m → ¬ Rn Q z m' p) (hq : q < 13) (h : Q p q) (r : Rn Q z m q) : LD Q z m q := by
  refine ⟨r, fun m' hm' hr => ?_⟩
  exact a (m' + 1) (by omega) ⟨q, hq, h, hr⟩
theorem LD.dn {Q : Nat → Nat → Prop} {z m p : Nat} (a : LD Q z (m + 1) p) : ∃ q, q < 13 ∧ Q p q ∧ LD Q z m q := by
  obtain ⟨q, hq, h, r⟩ := a.1
  exact ⟨q, hq, h, LD.nx (fun m' hm' => a.2 m' (by omega)) hq h r⟩
theorem LD.ex {Q : Nat → Nat → Prop} {z p : Nat} : ∀ m, Rn Q z m p → ∃ m', m' ≤ m ∧ LD Q z m' p := by
  intro m
  induction m using Nat.strongRecOn with
  | _ m ih =>
    intro h
    by_cases c : ∃ m', m' < m ∧ Rn Q z m' p
    · obtain ⟨m', h1, h2⟩ := c
      obtain ⟨m2, h3, h4⟩ := ih m' h1 h2
      exact ⟨m2, by omega, h4⟩
    · exact ⟨m, Nat.le_refl _, h, fun m' h1 h2 => c ⟨m', h1, h2⟩⟩
theorem pig : ∀ (n : Nat) (v : Nat → Nat), (∀ i, i ≤ n → v i < n) → ∃ i j, i < j ∧ j ≤ n ∧ v i = v j := by
  intro n
  induction n with
  | zero => intro v h; exact absurd (h 0 (by omega)) (by omega)
  | succ n ih =>
    intro v h
    by_cases c : ∃ i, i ≤ n ∧ v i = v (n + 1)
    · obtain ⟨i, h1, h2⟩ := c
      exact ⟨i, n + 1, by omega, by omega, h2⟩
    · have c' : ∀ i, i ≤ n → v i ≠ v (n + 1) := fun i hi e => c ⟨i, hi, e⟩
      have hw := h (n + 1) (by omega)
      obtain ⟨i, j, h1, h2, h3⟩ := ih (fun i => if v i = n then v (n + 1) else v i) (fun i hi => by
        have := h i (by omega)
        have := c' i hi
        by_cases e : v i = n
        · rw [if_pos e]; omega
        · rw [if_neg e]; omega)
      have c1 := c' i (by omega)
      have c2 := c' j (by omega)
      refine ⟨i, j, h1, by omega, ?_⟩
      by_cases e1 : v i = n
      · by_cases e2 : v j = n
        · omega
        · rw [if_pos e1, if_neg e2] at h3; omega
      · by_cases e2 : v j = n
        · rw [if_neg e1, if_pos e2] at h3; omega
        · rw [if_neg e1, if_neg e2] at h3; exact h3
theorem LD.all {Q : Nat → Nat → Prop} {z : Nat} : ∀ (m p : Nat), p < 13 → LD Q z m p → ∀ i, i ≤ m → ∃ q, q < 13 ∧ LD Q z i q := by
  intro m
  induction m with
  | zero =>
    intro p hp h i hi
    have : i = 0 := by omega
    subst this
    exact ⟨p, hp, h⟩
  | succ m ih =>
    intro p hp h i hi
    by_cases e : i = m + 1
    · subst e; exact ⟨p, hp, h⟩
    · obtain ⟨q, hq, _, hl⟩ := h.dn
      exact ih q hq hl i (by omega)
theorem LD.le12 {Q : Nat → Nat → Prop} {z m p : Nat} (hp : p < 13) (h : LD Q z m p) : m ≤ 12 := by
  by_cases c : m ≤ 12
  · exact c
  · exfalso
    have a := LD.all m p hp h
    have b : ∀ i, ∃ q, i ≤ 13 → q < 13 ∧ LD Q z i q := fun i => by
      by_cases hi : i ≤ 13
      · obtain ⟨q, h1⟩ := a i (by omega)
        exact ⟨q, fun _ => h1⟩
      · exact ⟨0, fun h => absurd h hi⟩
    obtain ⟨i, j, h1, h2, h3⟩ := pig 13 (fun i => Classical.choose (b i)) (fun i hi => (Classical.choose_spec (b i) hi).1)
    have x1 := (Classical.choose_spec (b i) (by omega)).2
    have x2 := (Classical.choose_spec (b j) h2).2
    rw [h3] at x1
    have := x1.un x2
    omega
/-- where a step is quiet -/
theorem x_isq {fu p q : Nat} {rU rD : Nat → Nat} {I : TI} {L : TL} (hq : q < 13) (hp : p < 13) (u0 : rU 0 = 0) (d0 : rD 0 = 0) : FO_X_isQuiet fu (nI p) (nI q) (hst rU 12) (hst rD 12) I L = some (1, I, L) ∧ ((q ≤ p ∧ rD q = 0) ∨ (p < q ∧ rU q = 0)) ∨ FO_X_isQuiet fu (nI p) (nI q) (hst rU 12) (hst rD 12) I L = some (0, I, L) ∧ ¬ ((q ≤ p ∧ rD q = 0) ∨ (p < q ∧ rU q = 0)) := by
  have z : ∀ r : Nat → Nat, r 0 = 0 → ((((hst r 12) >>> (nI q &&& 31)) &&& 1 = 0) ↔ r q = 0) := fun r h0 => by
    rw [bit_z hq]
    constructor
    · intro h
      by_cases c : q = 0
      · rw [c]; exact h0
      · by_cases e : r q = 0
        · exact e
        · exact absurd ⟨by omega, e⟩ h
    · intro h c
      exact c.2 h
  unfold FO_X_isQuiet
  by_cases c : q ≤ p
  · rw [if_pos (nI_le c (by omega))]
    by_cases e : rD q = 0
    · rw [if_pos ((z rD d0).mpr e)]
      exact Or.inl ⟨rfl, Or.inl ⟨c, e⟩⟩
    · rw [if_neg (fun y => e ((z rD d0).mp y))]
      refine Or.inr ⟨rfl, fun y => ?_⟩
      rcases y with y | y
      · exact e y.2
      · omega
  · rw [if_neg (nI_ge (by omega) (by omega))]
    by_cases e : rU q = 0
    · rw [if_pos ((z rU u0).mpr e)]
      exact Or.inl ⟨rfl, Or.inr ⟨by omega, e⟩⟩
    · rw [if_neg (fun y => e ((z rU u0).mp y))]
      refine Or.inr ⟨rfl, fun y => ?_⟩
      rcases y with y | y
      · omega
      · exact e y.2
theorem x_r19 {fu p hi : Nat} {x2 : Int32} {rU rD : Nat → Nat} {I : TI} {L : TL} (hp : p < 13) (hh : hi ≤ 12) (h3 : hi ≤ p + 3) (u0 : rU 0 = 0) (d0 : rD 0 = 0) : ∀ (j q f : Nat), q + j = hi + 1 → p ≤ q + 3 → j < f → (∃ q', q ≤ q' ∧ q' < 13 ∧ (Qs rU rD p q' ∧ I 328 q' = x2) ∧ (∀ q'', q ≤ q'' → q'' < q' → ¬ (Qs rU rD p q'' ∧ I 328 q'' = x2)) ∧ LO_X_reaches_19 fu f (nI p) x2 (hst rU 12) (hst rD 12) (nI hi) (nI q) I L = some (nI q', I, L)) ∨ ((∀ q', q ≤ q' → q' ≤ hi → ¬ (Qs rU rD p q' ∧ I 328 q' = x2)) ∧ LO_X_reaches_19 fu f (nI p) x2 (hst rU 12) (hst rD 12) (nI hi) (nI q) I L = some (-1, I, L)) := by
  intro j
  induction j with
  | zero =>
    intro q f hq hpq hf
    obtain ⟨f, rfl⟩ : ∃ z, f = z + 1 := ⟨f - 1, by omega⟩
    refine Or.inr ⟨fun q' h1 h2 => by omega, ?_⟩
    rw [LO_X_reaches_19, if_pos (nI_lt (by omega) (by omega))]
  | succ j ih =>
    intro q f hq hpq hf
    obtain ⟨f, rfl⟩ : ∃ z, f = z + 1 := ⟨f - 1, by omega⟩
    have go : ¬ (Qs rU rD p q ∧ I 328 q = x2) → LO_X_reaches_19 fu (f + 1) (nI p) x2 (hst rU 12) (hst rD 12) (nI hi) (nI q) I L = LO_X_reaches_19 fu f (nI p) x2 (hst rU 12) (hst rD 12) (nI hi) (nI (q + 1)) I L → (∃ q', q ≤ q' ∧ q' < 13 ∧ (Qs rU rD p q' ∧ I 328 q' = x2) ∧ (∀ q'', q ≤ q'' → q'' < q' → ¬ (Qs rU rD p q'' ∧ I 328 q'' = x2)) ∧ LO_X_reaches_19 fu (f + 1) (nI p) x2 (hst rU 12) (hst rD 12) (nI hi) (nI q) I L = some (nI q', I, L)) ∨ ((∀ q', q ≤ q' → q' ≤ hi → ¬ (Qs rU rD p q' ∧ I 328 q' = x2)) ∧ LO_X_reaches_19 fu (f + 1) (nI p) x2 (hst rU 12) (hst rD 12) (nI hi) (nI q) I L = some (-1, I, L)) := by
      intro ng e
      rcases ih (q + 1) f (by omega) (by omega) (by omega) with ⟨q', h1, h2, h3, h4, h5⟩ | ⟨h1, h2⟩
      · refine Or.inl ⟨q', by omega, h2, h3, fun q'' g1 g2 => ?_, e.trans h5⟩
        by_cases c : q'' = q
        · subst c; exact ng
        · exact h4 q'' (by omega) g2
      · refine Or.inr ⟨fun q' g1 g2 => ?_, e.trans h2⟩
        by_cases c : q' = q
        · subst c; exact ng
        · exact h1 q' (by omega) g2
    have nl : ¬ nI hi < nI q := nI_nlt (by omega) (by omega)
    have n1 : nI q + 1 = nI (q + 1) := nI_1 ..
    by_cases c1 : q = p
    · refine go (fun y => y.1.1 c1.symm) ?_
      rw [LO_X_reaches_19, if_neg nl, if_pos (by rw [c1]), n1]
    · have c1' : ¬ nI q = nI p := fun y => c1 ((nI_eq (by omega) (by omega)).mp y)
      have b13 : (0 : Int32) ≤ nI q ∧ nI q < 13 := ib (n := 13) rfl (by omega) (by omega)
      by_cases c2 : I 328 q = x2
      · rcases x_isq (fu := fu) (p := p) (q := q) (I := I) (L := L) (by omega) hp u0 d0 with ⟨a1, a2⟩ | ⟨a1, a2⟩
        · refine Or.inl ⟨q, Nat.le_refl _, by omega, ⟨⟨fun y => c1 y.symm, hpq, by omega, a2⟩, c2⟩, fun q'' g1 g2 => by omega, ?_⟩
          rw [LO_X_reaches_19, if_neg nl, if_neg c1', if_pos b13, nI_clamp (show q < 2 ^ 31 by omega), if_pos c2, a1]
          simp only [Option.bind_some]
          rw [if_neg i10]
        · refine go (fun y => a2 y.1.2.2.2) ?_
          rw [LO_X_reaches_19, if_neg nl, if_neg c1', if_pos b13, nI_clamp (show q < 2 ^ 31 by omega), if_pos c2, a1]
          simp only [Option.bind_some]
          rw [if_pos trivial, n1]
      · refine go (fun y => c2 y.2) ?_
        rw [LO_X_reaches_19, if_neg nl, if_neg c1', if_pos b13, nI_clamp (show q < 2 ^ 31 by omega), if_neg c2, n1]
theorem x_reach {fu p : Nat} {x2 : Int32} {rU rD : Nat → Nat} {I : TI} {L : TL} (hfu : 2000 ≤ fu) (hp : p < 13) (u0 : rU 0 = 0) (d0 : rD 0 = 0) : (∃ q, q < 13 ∧ (Qs rU rD p q ∧ I 328 q = x2) ∧ (∀ q', q' < q → ¬ (Qs rU rD p q' ∧ I 328 q' = x2)) ∧ FO_X_reaches fu (nI p) x2 (hst rU 12) (hst rD 12) I L = some (nI q, I, L)) ∨ ((∀ q, q < 13 → ¬ (Qs rU rD p q ∧ I 328 q = x2)) ∧ FO_X_reaches fu (nI p) x2 (hst rU 12) (hst rD 12) I L = some (-1, I, L)) := by
  have e1 : F_J_min I (nI p + 3) 12 = nI (min (p + 3) 12) := by
    unfold F_J_min
    rw [show nI p + 3 = nI (p + 3) from nI_add _ 3]
    by_cases c : 12 < p + 3
    · rw [if_pos (show (12 : Int32) < nI (p + 3) from nI_lt (a := 12) c (by omega)), Nat.min_eq_right (by omega)]; rfl
    · rw [if_neg (show ¬ (12 : Int32) < nI (p + 3) from nI_nlt (a := 12) (by omega) (by omega)), Nat.min_eq_left (by omega)]
  have e2 : F_J_max I (nI p - 3) 0 = nI (p - 3) := by
    unfold F_J_max
    by_cases c : 3 ≤ p
    · rw [show nI p - 3 = nI (p - 3) from pk_sub (b := 3) c, if_neg (nI_pos (by omega))]
    · have : p = 0 ∨ p = 1 ∨ p = 2 := by omega
      rcases this with rfl | rfl | rfl <;> decide
  unfold FO_X_reaches
  rw [e1, e2]
  rcases x_r19 (fu := fu) (p := p) (hi := min (p + 3) 12) (x2 := x2) (I := I) (L := L) hp (by omega) (by omega) u0 d0 (min (p + 3) 12 + 1 - (p - 3)) (p - 3) fu (by omega) (by omega) (by omega) with ⟨q, h1, h2, h3, h4, h5⟩ | ⟨h1, h2⟩
  · refine Or.inl ⟨q, h2, h3, fun q' g => ?_, h5⟩
    by_cases c : p - 3 ≤ q'
    · exact h4 q' c g
    · intro y
      have := y.1.2.1
      omega
  · refine Or.inr ⟨fun q hq y => ?_, h2⟩
    have y1 := y.1.2.1
    have y2 := y.1.2.2.1
    exact h1 q (by omega) (by omega) y
