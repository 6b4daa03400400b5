/-! the shortest doubt: a rest goes on by every word -/
theorem lg_1 : ∀ q, q < 64 → 2 ≤ q → 1 ≤ lg q := by decide +kernel
theorem wst_x {D : Nat → Nat} {x q : Nat} (hq : 2 ≤ q ∧ q < 64) (hx : 2 ≤ x ∧ x < 64) : wst D x q x = D x := by
  unfold wst
  have l1 := lg_1 q hq.2 hq.1
  have l2 := lg_1 x hx.2 hx.1
  cases r1 : rst x q with
  | none =>
    cases r2 : rst q x with
    | none => rfl
    | some k =>
      show lwr D k (D x + lg k) x = D x
      unfold lwr
      by_cases c : x = k
      · rw [if_neg (fun z => by have := z.2; rw [← c] at this; omega)]
      · rw [if_neg (fun z => c z.1)]
  | some k =>
    obtain ⟨a1, a2, a3, a4⟩ := rst_k hx.2 hq.2 r1
    show lwr D k (D x) x = D x
    unfold lwr
    rw [if_neg (fun z => by have := z.1; subst this; omega)]
theorem wst_le {D : Nat → Nat} {x q t : Nat} : wst D x q t ≤ D t := by
  unfold wst
  cases rst x q with
  | none =>
    cases rst q x with
    | none => exact Nat.le_refl _
    | some k => exact lwr_le
  | some k => exact lwr_le
theorem wfl_0 {D : Nat → Nat} {x q : Nat} : (wfl D x q = 0 ∧ wst D x q = D) ∨ wfl D x q = 1 := by
  unfold wfl wst
  cases rst x q with
  | none =>
    cases rst q x with
    | none => exact Or.inl ⟨rfl, rfl⟩
    | some k =>
      by_cases c : D x + lg k < D k
      · exact Or.inr (if_pos c)
      · exact Or.inl ⟨if_neg c, lwr_no c⟩
  | some k =>
    by_cases c : D x < D k
    · exact Or.inr (if_pos c)
    · exact Or.inl ⟨if_neg c, lwr_no c⟩
theorem wfl_1 {D : Nat → Nat} {x q : Nat} (hq : q < 64) (hx : x < 64) (h : wfl D x q = 1) : ∃ t, t < 64 ∧ wst D x q t < D t := by
  unfold wfl at h
  unfold wst
  cases r1 : rst x q with
  | none =>
    rw [r1] at h
    cases r2 : rst q x with
    | none =>
      rw [r2] at h
      exact absurd (show (0 : Int32) = 1 from h) (by decide)
    | some k =>
      rw [r2] at h
      by_cases c : D x + lg k < D k
      · refine ⟨k, (rst_k hq hx r2).2.1, ?_⟩
        show lwr D k (D x + lg k) k < D k
        unfold lwr
        rw [if_pos ⟨rfl, c⟩]; exact c
      · exact absurd ((if_neg c).symm.trans h) (by decide)
  | some k =>
    rw [r1] at h
    by_cases c : D x < D k
    · refine ⟨k, (rst_k hx hq r1).2.1, ?_⟩
      show lwr D k (D x) k < D k
      unfold lwr
      rw [if_pos ⟨rfl, c⟩]; exact c
    · exact absurd ((if_neg c).symm.trans h) (by decide)
theorem or11 (x : Int32) (h : x = 0 ∨ x = 1) : x ||| 1 = 1 := by
  rcases h with rfl | rfl <;> decide
/-- what all words do to a row, from the k-th on -/
def wfo (qs : Nat → Nat) (x : Nat) : Nat → Nat → (Nat → Nat) → (Nat → Nat)
  | 0, _, D => D
  | j + 1, k, D => wfo qs x j (k + 1) (wst D x (qs k))
theorem lk_g {fu n x : Nat} {L K : TL} {k116 k124 : Int32 → Int32 → TI → TL → Option (Int32 × TI × TL)} {qs ps : Nat → Nat} (hfu : 2000 ≤ fu) (hn : n ≤ 5) (hx : 2 ≤ x ∧ x < 64) (hw : ∀ k, k < n → 1 ≤ ps k ∧ ps k ≤ 22222 ∧ Vd 8 (ps k) = some (qs k) ∧ 2 ≤ qs k ∧ qs k < 64) : ∀ (j k f g : Nat) (x1 x3 : Int32) (D : Nat → Nat) (I J : TI), k + j = n → j < f → j < g → (x1 = 0 ∨ x1 = 1) → (x3 = 0 ∨ x3 = 1) → I 1 13 = nI n → J 332 5 = nI n → (∀ k, k < n → I 134 k = nI (qs k) ∧ J 332 (66 + k) = nI (ps k)) → DI D (I 326) → DI D (J 346) → D x < 1000000 → ∃ z D' I' J', (z = 0 ∨ z = 1) ∧ LO_C_goOn_5 fu f (nI x) x3 (nI k) I L = some (z, I', L) ∧ LO_M_doubt_132 fu k116 k124 g (x1 ||| x3) (nI x) (nI k) J K = k124 (x1 ||| z) (nI (x + 1)) J' K ∧ DI D' (I' 326) ∧ DI D' (J' 346) ∧ (∀ o, o ≠ 326 → I' o = I o) ∧ (∀ o, o ≠ 346 → J' o = J o) ∧ (∀ t, D' t ≤ D t) ∧ (z = 0 → x3 = 0 ∧ D' = D) ∧ D' = wfo qs x j k D ∧ (z = 1 → x3 = 1 ∨ ∃ t, t < 64 ∧ D' t < D t) := by
  intro j
  induction j with
  | zero =>
    intro k f g x1 x3 D I J hk hf hg h1 h3 e13 e5 hW dI dJ hD
    obtain ⟨f, rfl⟩ : ∃ z, f = z + 1 := ⟨f - 1, by omega⟩
    obtain ⟨g, rfl⟩ : ∃ z, g = z + 1 := ⟨g - 1, by omega⟩
    have : k = n := by omega
    subst this
    refine ⟨x3, D, I, J, h3, ?_, ?_, dI, dJ, fun _ _ => rfl, fun _ _ => rfl, fun _ => Nat.le_refl _, fun z => ⟨z, rfl⟩, rfl, fun z => Or.inl z⟩
    · rw [LO_C_goOn_5, e13, if_pos (Int32.le_refl _), if_pos h3]
    · rw [LO_M_doubt_132, e5, if_pos (Int32.le_refl _), show nI x + 1 = nI (x + 1) from nI_1 ..]
  | succ j ih =>
    intro k f g x1 x3 D I J hk hf hg h1 h3 e13 e5 hW dI dJ hD
    obtain ⟨f, rfl⟩ : ∃ z, f = z + 1 := ⟨f - 1, by omega⟩
    obtain ⟨g, rfl⟩ : ∃ z, g = z + 1 := ⟨g - 1, by omega⟩
    obtain ⟨w1, w2, w3, w4, w5⟩ := hw k (by omega)
    obtain ⟨I1, a1, a2, a3⟩ := xg (fu := fu) (f := f) (x3 := x3) (L := L) (by omega) hn (by omega) e13 (hW k (by omega)).1 ⟨w4, w5⟩ hx dI
    obtain ⟨J1, b1, b2, b3⟩ := mg (fu := fu) (f := g) (x1 := x1 ||| x3) (K := K) (k116 := k116) (k124 := k124) hfu hn (by omega) e5 w1 w2 (hW k (by omega)).2 w3 ⟨w4, w5⟩ hx dJ hD
    have zz : (if x3 = 0 then wfl D x (qs k) else 1) = 0 ∨ (if x3 = 0 then wfl D x (qs k) else 1) = 1 := by
      by_cases c : x3 = 0
      · rw [if_pos c]
        rcases wfl_0 (D := D) (x := x) (q := qs k) with h | h
        · exact Or.inl h.1
        · exact Or.inr h
      · rw [if_neg c]; exact Or.inr rfl
    have ff : (x1 ||| x3) ||| wfl D x (qs k) = x1 ||| (if x3 = 0 then wfl D x (qs k) else 1) := by
      rcases h3 with rfl | rfl
      · rw [if_pos rfl, or0]
      · rw [if_neg i10]
        rcases wfl_0 (D := D) (x := x) (q := qs k) with h | h
        · rw [h.1, or0]
        · rw [h]
          rcases h1 with rfl | rfl <;> decide
    obtain ⟨z, D', I2, J2, r0, r1, r2, r3, r4, r5, r6, r7, r8, r9, r10⟩ := ih (k + 1) f g x1 (if x3 = 0 then wfl D x (qs k) else 1) (wst D x (qs k)) I1 J1 (by omega) (by omega) (by omega) h1 zz (by rw [a3 1 (by omega)]; exact e13) (by rw [b3 332 (by omega)]; exact e5) (fun k' hk' => by rw [a3 134 (by omega), b3 332 (by omega)]; exact hW k' hk') a2 b2 (by rw [wst_x ⟨w4, w5⟩ hx]; exact hD)
    refine ⟨z, D', I2, J2, r0, a1.trans r1, ?_, r3, r4, fun o ho => (r5 o ho).trans (a3 o ho), fun o ho => (r6 o ho).trans (b3 o ho), fun t => Nat.le_trans (r7 t) wst_le, fun hz => ?_, r9, fun hz => ?_⟩
    · rw [b1, ff]; exact r2
    · obtain ⟨y1, y2⟩ := r8 hz
      by_cases c : x3 = 0
      · rw [if_pos c] at y1
        rcases wfl_0 (D := D) (x := x) (q := qs k) with h | h
        · exact ⟨c, by rw [y2, h.2]⟩
        · rw [h] at y1; exact absurd y1 i10
      · rw [if_neg c] at y1; exact absurd y1 i10
    · rcases r10 hz with y | ⟨t, t1, t2⟩
      · by_cases c : x3 = 0
        · rw [if_pos c] at y
          obtain ⟨t, t1, t2⟩ := wfl_1 w5 hx.2 y
          exact Or.inr ⟨t, t1, Nat.lt_of_le_of_lt (r7 t) t2⟩
        · exact Or.inl (h3.resolve_left c)
      · exact Or.inr ⟨t, t1, Nat.lt_of_lt_of_le t2 wst_le⟩
