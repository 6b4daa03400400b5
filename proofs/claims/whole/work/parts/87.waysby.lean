/-! ways by so many treads -/
theorem nI_dn (j : Nat) : nI (j + 1) - 1 + (-1) = nI j - 1 := by
  rw [nI_pred]
  rw [Int32.sub_eq_add_neg]
theorem lxb {fu : Nat} {x1 x2 x3 x4 : Int32} {I : TI} {g : Nat → Int64} {kk : Int32 → Int32 → Int32 → Int32 → TI → TL → Option (Int64 × TI × TL)} (hfu : 2000 ≤ fu) : ∀ (j f : Nat) (L : TL), j ≤ 13 → j < f → (∀ t, t < j → L 329 t = g t) → (∀ t, j ≤ t → t < 13 → L 329 t = bel g t) → ∃ L', LO_X_waysBy_50 fu kk f x1 x2 x3 x4 (nI j - 1) I L = kk x1 x2 x3 (x4 + 1) I L' ∧ (∀ t, t < 13 → L' 329 t = bel g t) := by
  intro j
  induction j with
  | zero =>
    intro f L hj hf h1 h2
    obtain ⟨f, rfl⟩ : ∃ z, f = z + 1 := ⟨f - 1, by omega⟩
    refine ⟨L, ?_, fun t ht => h2 t (by omega) ht⟩
    rw [LO_X_waysBy_50, if_pos (by decide)]
  | succ p ih =>
    intro f L hj hf h1 h2
    obtain ⟨f, rfl⟩ : ∃ z, f = z + 1 := ⟨f - 1, by omega⟩
    obtain ⟨L', r1, r2⟩ := ih f (sL L 329 p (bel g p)) (by omega) (by omega) (fun t ht => by rw [sM_at, pk_uLn (by omega)]; exact h1 t (by omega)) (fun t h3 h4 => by
      rw [sM_at]
      by_cases e : t = p
      · subst e; rw [pk_uLs]
      · rw [pk_uLn e]; exact h2 t (by omega) h4)
    refine ⟨L', ?_, r2⟩
    rw [LO_X_waysBy_50, nI_dn, nI_pred, if_neg (nI_pos (by omega)), x_bel hfu (by omega)]
    simp only [Option.bind_some]
    rw [if_pos (show (0 : Int32) ≤ nI p ∧ nI p < 13 from ib (n := 13) rfl (by omega) (by omega)), nI_clamp (show p < 2 ^ 31 by omega), bel_cg (g := g) (fun t ht => h1 t (by omega))]
    exact r1
theorem ms69 {fu f p : Nat} {x1 x2 x3 x4 : Int32} {J : TI} {K : TL} {kk : Int32 → Int32 → Int32 → Int32 → TI → TL → Option (Int64 × TI × TL)} (hp : p < 13) : LO_M_waysBy_69 fu kk (f + 1) x1 x2 x3 x4 (nI p) J K = LO_M_waysBy_69 fu kk f x1 x2 x3 x4 (nI p + (-1)) J (sL K 342 p (bel (K 342) p)) := by
  have b0 : (0 : Int32) ≤ nI p ∧ nI p < 13 := ib (n := 13) rfl (by omega) (by omega)
  rw [LO_M_waysBy_69, if_neg (nI_pos (by omega))]
  unfold bel
  by_cases h1 : 1 ≤ p
  · have b1 : (0 : Int32) ≤ nI (p - 1) ∧ nI (p - 1) < 13 := ib (n := 13) rfl (by omega) (by omega)
    rw [if_neg (show ¬ nI p ≤ 0 from nI_ge (a := 0) (by omega) (by omega)), show nI p - 1 = nI (p - 1) from pk_sub (b := 1) h1, if_pos b1, if_pos h1]
    by_cases h2 : 2 ≤ p
    · have b2 : (0 : Int32) ≤ nI (p - 2) ∧ nI (p - 2) < 13 := ib (n := 13) rfl (by omega) (by omega)
      rw [if_neg (show ¬ nI p ≤ 1 from nI_ge (a := 1) (by omega) (by omega)), show nI p - 2 = nI (p - 2) from pk_sub (b := 2) h2, if_pos b2, if_pos h2]
      by_cases h3 : 3 ≤ p
      · have b3 : (0 : Int32) ≤ nI (p - 3) ∧ nI (p - 3) < 13 := ib (n := 13) rfl (by omega) (by omega)
        rw [if_neg (show ¬ nI p ≤ 2 from nI_ge (a := 2) (by omega) (by omega)), show nI p - 3 = nI (p - 3) from pk_sub (b := 3) h3, if_pos b3, if_pos h3, if_pos b0, nI_clamp (show p < 2 ^ 31 by omega), nI_clamp (show p - 1 < 2 ^ 31 by omega), nI_clamp (show p - 2 < 2 ^ 31 by omega), nI_clamp (show p - 3 < 2 ^ 31 by omega)]
      · rw [if_pos (show nI p ≤ 2 from nI_le (b := 2) (by omega) (by omega)), if_neg h3, if_pos b0, nI_clamp (show p < 2 ^ 31 by omega), nI_clamp (show p - 1 < 2 ^ 31 by omega), nI_clamp (show p - 2 < 2 ^ 31 by omega)]
    · rw [if_pos (show nI p ≤ 1 from nI_le (b := 1) (by omega) (by omega)), if_neg h2, if_pos (show nI p ≤ 2 from nI_le (b := 2) (by omega) (by omega)), if_neg (show ¬ 3 ≤ p by omega), if_pos b0, nI_clamp (show p < 2 ^ 31 by omega), nI_clamp (show p - 1 < 2 ^ 31 by omega)]
  · rw [if_pos (show nI p ≤ 0 from nI_le (b := 0) (by omega) (by omega)), if_pos (show nI p ≤ 1 from nI_le (b := 1) (by omega) (by omega)), if_pos (show nI p ≤ 2 from nI_le (b := 2) (by omega) (by omega)), if_neg h1, if_neg (show ¬ 2 ≤ p by omega), if_neg (show ¬ 3 ≤ p by omega), if_pos b0, nI_clamp (show p < 2 ^ 31 by omega)]
theorem lmb {fu : Nat} {x1 x2 x3 x4 : Int32} {J : TI} {g : Nat → Int64} {kk : Int32 → Int32 → Int32 → Int32 → TI → TL → Option (Int64 × TI × TL)} : ∀ (j f : Nat) (K : TL), j ≤ 13 → j < f → (∀ t, t < j → K 342 t = g t) → (∀ t, j ≤ t → t < 13 → K 342 t = bel g t) → ∃ K', LO_M_waysBy_69 fu kk f x1 x2 x3 x4 (nI j - 1) J K = kk x1 x2 x3 (x4 + 1) J K' ∧ (∀ t, t < 13 → K' 342 t = bel g t) := by
  intro j
  induction j with
  | zero =>
    intro f K hj hf h1 h2
    obtain ⟨f, rfl⟩ : ∃ z, f = z + 1 := ⟨f - 1, by omega⟩
    refine ⟨K, ?_, fun t ht => h2 t (by omega) ht⟩
    rw [LO_M_waysBy_69, if_pos (by decide)]
  | succ p ih =>
    intro f K hj hf h1 h2
    obtain ⟨f, rfl⟩ : ∃ z, f = z + 1 := ⟨f - 1, by omega⟩
    obtain ⟨K', r1, r2⟩ := ih f (sL K 342 p (bel g p)) (by omega) (by omega) (fun t ht => by rw [sM_at, pk_uLn (by omega)]; exact h1 t (by omega)) (fun t h3 h4 => by
      rw [sM_at]
      by_cases e : t = p
      · subst e; rw [pk_uLs]
      · rw [pk_uLn e]; exact h2 t (by omega) h4)
    refine ⟨K', ?_, r2⟩
    rw [nI_pred, ms69 (by omega), bel_cg (g := g) (fun t ht => h1 t (by omega))]
    have e := nI_dn p
    rw [nI_pred] at e
    rw [e]
    exact r1
theorem lk_wb {fu a b m : Nat} {I J : TI} (hfu : 2000 ≤ fu) (hb : b < 13) (hm : m ≤ 12) : ∀ (j k f g : Nat) (L K : TL), k + j = m → j < f → j < g → (∀ t, t < 13 → L 329 t = K 342 t) → ∃ r L' K', LO_X_waysBy_40 fu f (nI a) (nI b) (nI m) (nI k) I L = some (r, I, L') ∧ LO_M_waysBy_59 fu g (nI a) (nI b) (nI m) (nI k) J K = some (r, J, K') := by
  have b0 : (0 : Int32) ≤ nI b ∧ nI b < 13 := ib (n := 13) rfl (by omega) (by omega)
  intro j
  induction j with
  | zero =>
    intro k f g L K hk hf hg h
    obtain ⟨f, rfl⟩ : ∃ z, f = z + 1 := ⟨f - 1, by omega⟩
    obtain ⟨g, rfl⟩ : ∃ z, g = z + 1 := ⟨g - 1, by omega⟩
    have : k = m := by omega
    subst this
    refine ⟨L 329 b, L, K, ?_, ?_⟩
    · rw [LO_X_waysBy_40, if_pos (Int32.le_refl _), if_pos b0, nI_clamp (show b < 2 ^ 31 by omega)]
    · rw [LO_M_waysBy_59, if_pos (Int32.le_refl _), if_pos b0, nI_clamp (show b < 2 ^ 31 by omega), h b hb]
  | succ j ih =>
    intro k f g L K hk hf hg h
    obtain ⟨f, rfl⟩ : ∃ z, f = z + 1 := ⟨f - 1, by omega⟩
    obtain ⟨g, rfl⟩ : ∃ z, g = z + 1 := ⟨g - 1, by omega⟩
    have nk : ¬ nI m ≤ nI k := nI_ge (by omega) (by omega)
    obtain ⟨L1, a1, a2⟩ := lxb (fu := fu) (x1 := nI a) (x2 := nI b) (x3 := nI m) (x4 := nI k) (I := I) (g := K 342) (kk := fun x1 x2 x3 x4 I L => LO_X_waysBy_40 fu f x1 x2 x3 x4 I L) hfu 13 fu L (by omega) (by omega) h (fun t h1 h2 => by omega)
    obtain ⟨K1, c1, c2⟩ := lmb (fu := fu) (x1 := nI a) (x2 := nI b) (x3 := nI m) (x4 := nI k) (J := J) (g := K 342) (kk := fun x1 x2 x3 x4 I L => LO_M_waysBy_59 fu g x1 x2 x3 x4 I L) 13 fu K (by omega) (by omega) (fun _ _ => rfl) (fun t h1 h2 => by omega)
    obtain ⟨r, L2, K2, r1, r2⟩ := ih (k + 1) f g L1 K1 (by omega) (by omega) (by omega) (fun t ht => (a2 t ht).trans (c2 t ht).symm)
    refine ⟨r, L2, K2, ?_, ?_⟩
    · rw [LO_X_waysBy_40, if_neg nk, show (12 : Int32) = nI 13 - 1 from rfl, a1, nI_1]
      exact r1
    · rw [LO_M_waysBy_59, if_neg nk, show (12 : Int32) = nI 13 - 1 from rfl, c1, nI_1]
      exact r2
theorem lm25 {fu a b : Nat} {x3 : Int32} {J : TI} (ha : a < 13) : ∀ (j p f : Nat) (K : TL), p + j = 13 → j < f → (∀ t, t < p → K 342 t = if t = a then 1 else 0) → ∃ K', LO_M_waysBy_25 fu f (nI a) (nI b) x3 (nI p) J K = LO_M_waysBy_59 fu fu (nI a) (nI b) x3 0 J K' ∧ ∀ t, t < 13 → K' 342 t = if t = a then 1 else 0 := by
  intro j
  induction j with
  | zero =>
    intro p f K hp hf h
    obtain ⟨f, rfl⟩ : ∃ z, f = z + 1 := ⟨f - 1, by omega⟩
    have : p = 13 := by omega
    subst this
    refine ⟨K, ?_, h⟩
    rw [LO_M_waysBy_25, if_pos (by decide)]
  | succ j ih =>
    intro p f K hp hf h
    obtain ⟨f, rfl⟩ : ∃ z, f = z + 1 := ⟨f - 1, by omega⟩
    have b0 : (0 : Int32) ≤ nI p ∧ nI p < 13 := ib (n := 13) rfl (by omega) (by omega)
    obtain ⟨K', r1, r2⟩ := ih (p + 1) f (sL K 342 p (if p = a then 1 else 0)) (by omega) (by omega) (fun t ht => by
      rw [sM_at]
      by_cases e : t = p
      · subst e; rw [pk_uLs]
      · rw [pk_uLn e]; exact h t (by omega))
    refine ⟨K', ?_, r2⟩
    rw [LO_M_waysBy_25, if_neg (show ¬ (12 : Int32) < nI p from nI_nlt (a := 12) (by omega) (by omega)), ← r1, if_pos b0, if_pos b0, nI_clamp (show p < 2 ^ 31 by omega), nI_1]
    by_cases c : p = a
    · subst c
      rw [if_pos rfl, if_pos rfl]
    · rw [if_neg (fun q => c ((nI_eq (by omega) (by omega)).mp q)), if_neg c]
theorem op_waysBy {T : TI → (Nat → Int32) → Prop} {fu : Nat} (hfu : 2000 ≤ fu) (p q w : Int32) : OpR T (fun I L => FO_X_waysBy fu p q w I L) (fun I L => FO_M_waysBy fu p q w I L) := by
  refine OpR_s (fun I J L K hR => ?_)
  unfold FO_X_waysBy FO_M_waysBy
  rcases way_up (fu := fu) (p := p) (q := q) (I := I) (J := J) (L := L) (K := K) with ⟨a, b, hab, hb, rfl, rfl, e1, e2⟩ | ⟨e1, e2⟩
  · rw [e1, e2]
    simp only [Option.bind_some]
    rw [if_neg i10, if_neg i10]
    by_cases c : 0 ≤ w ∧ w ≤ 12
    · obtain ⟨m, hm, rfl⟩ := rng (hi := 12) (by omega) c.1 c.2
      obtain ⟨K1, c1, c2⟩ := lm25 (fu := fu) (a := a) (b := b) (x3 := nI m) (J := J) (by omega) 13 0 fu K (by omega) (by omega) (fun t ht => by omega)
      obtain ⟨r, L2, K2, r1, r2⟩ := lk_wb (fu := fu) (a := a) (b := b) (m := m) (I := I) (J := J) hfu hb hm m 0 fu fu (sL (va_up L 329 (fillG (L 329) 0 13)) 329 a 1) K1 (by omega) (by omega) (by omega) (fun t ht => by
        rw [sM_at, c2 t ht]
        by_cases e : t = a
        · subst e; rw [pk_uLs, if_pos rfl]
        · rw [pk_uLn e, vu_at, if_neg e]; unfold fillG; rw [if_pos ht])
      rw [if_pos c, if_pos c, if_pos (show (0 : Int32) ≤ nI a ∧ nI a < 13 from ib (n := 13) rfl (by omega) (by omega)), nI_clamp (show a < 2 ^ 31 by omega)]
      exact ⟨r, I, L2, J, K2, r1, c1.trans r2, ScI.rf, ScJ.rf⟩
    · rw [if_neg c, if_neg c]
      exact ⟨-1, I, L, J, K, rfl, rfl, ScI.rf, ScJ.rf⟩
  · rw [e1, e2]
    exact ⟨-1, I, L, J, K, rfl, rfl, ScI.rf, ScJ.rf⟩
