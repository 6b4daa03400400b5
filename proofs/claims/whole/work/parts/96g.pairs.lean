/-! the shortest doubt: two words, one ahead of the other -/
theorem lk_w {fu n i : Nat} {L K : TL} {k11 : Int32 → TI → TL → Option (Int32 × TI × TL)} {k27 : Int32 → Int32 → TI → TL → Option (Int32 × TI × TL)} {qs ps : Nat → Nat} (hfu : 2000 ≤ fu) (hn : n ≤ 5) (hi : i < n) (hw : ∀ k, k < n → 1 ≤ ps k ∧ ps k ≤ 22222 ∧ Vd 8 (ps k) = some (qs k) ∧ 2 ≤ qs k ∧ qs k < 64) : ∀ (j k f g : Nat) (x1 : Int32) (D : Nat → Nat) (I J : TI), k + j = n → j < f → j < g → (x1 = 0 ∨ x1 = 1) → I 1 13 = nI n → J 332 5 = nI n → (∀ k, k < n → I 134 k = nI (qs k) ∧ J 332 (66 + k) = nI (ps k)) → DI D (I 326) → DI D (J 346) → (x1 = 0 → ∀ t, t < 64 → D t = 1000000) → ∃ z D' I' J', (z = 0 ∨ z = 1) ∧ LO_C_shortestDoubt_26 fu k11 f (nI i) (nI k) I L = k11 (nI (i + 1)) I' L ∧ LO_M_doubt_39 fu k27 g x1 (nI i) (nI k) J K = k27 z (nI (i + 1)) J' K ∧ DI D' (I' 326) ∧ DI D' (J' 346) ∧ (∀ o, o ≠ 326 → I' o = I o) ∧ (∀ o, o ≠ 346 → J' o = J o) ∧ (z = 0 → ∀ t, t < 64 → D' t = 1000000) := by
  intro j
  induction j with
  | zero =>
    intro k f g x1 D I J hk hf hg h1 e13 e5 hW dI dJ h0
    obtain ⟨f, rfl⟩ : ∃ z, f = z + 1 := ⟨f - 1, by omega⟩
    obtain ⟨g, rfl⟩ : ∃ z, g = z + 1 := ⟨g - 1, by omega⟩
    have : k = n := by omega
    subst this
    refine ⟨x1, D, I, J, h1, ?_, ?_, dI, dJ, fun _ _ => rfl, fun _ _ => rfl, h0⟩
    · rw [LO_C_shortestDoubt_26, e13, if_pos (Int32.le_refl _), show nI i + 1 = nI (i + 1) from nI_1 ..]
    · rw [LO_M_doubt_39, e5, if_pos (Int32.le_refl _), show nI i + 1 = nI (i + 1) from nI_1 ..]
  | succ j ih =>
    intro k f g x1 D I J hk hf hg h1 e13 e5 hW dI dJ h0
    obtain ⟨f, rfl⟩ : ∃ z, f = z + 1 := ⟨f - 1, by omega⟩
    obtain ⟨g, rfl⟩ : ∃ z, g = z + 1 := ⟨g - 1, by omega⟩
    have nk : ¬ nI n ≤ nI k := nI_ge (by omega) (by omega)
    have n5 : ¬ (5 : Int32) ≤ nI k := nI_ge (b := 5) (by omega) (by omega)
    have ek : nI k + 1 = nI (k + 1) := nI_1 ..
    by_cases c : i = k
    · rw [LO_C_shortestDoubt_26, e13, if_neg nk, if_neg n5, if_pos (by rw [c]), LO_M_doubt_39, e5, if_neg nk, if_pos (by rw [c]), or0, ek]
      exact ih (k + 1) f g x1 D I J (by omega) (by omega) (by omega) h1 e13 e5 hW dI dJ h0
    · have c' : ¬ nI i = nI k := fun y => c ((nI_eq (by omega) (by omega)).mp y)
      have bi : (0 : Int32) ≤ nI i ∧ nI i < 5 := ib (n := 5) rfl (by omega) (by omega)
      have bk : (0 : Int32) ≤ nI k ∧ nI k < 5 := ib (n := 5) rfl (by omega) (by omega)
      obtain ⟨v1, v2, v3, v4, v5⟩ := hw i hi
      obtain ⟨w1, w2, w3, w4, w5⟩ := hw k (by omega)
      obtain ⟨gi1, gi2⟩ := hW i hi
      obtain ⟨gk1, gk2⟩ := hW k (by omega)
      have l8 := lg_8 (qs i)
      have mi : FO_M_wordAt fu (nI i) J K = some (nI (qs i), J, K) := m_word hfu (by omega) v1 v2 gi2 v3
      have mk : FO_M_wordAt fu (nI k) J K = some (nI (qs k), J, K) := m_word hfu (by omega) w1 w2 gk2 w3
      rw [LO_C_shortestDoubt_26, e13, if_neg nk, if_neg n5, if_neg c', if_pos bi, if_pos bk, nI_clamp (show i < 2 ^ 31 by omega), nI_clamp (show k < 2 ^ 31 by omega), gi1, gk1, x_rest (by omega) (by omega) (by omega)]
      simp only [Option.bind_some]
      rw [if_pos bi, gi1, x_len (by omega) (by omega)]
      simp only [Option.bind_some]
      rw [LO_M_doubt_39, e5, if_neg nk, if_neg c', mi]
      simp only [Option.bind_some]
      rw [mk]
      simp only [Option.bind_some]
      rw [m_rest (by omega) (by omega) (by omega)]
      simp only [Option.bind_some]
      rw [mi]
      simp only [Option.bind_some]
      rw [m_len (by omega) (by omega)]
      simp only [Option.bind_some]
      rw [ek, or0]
      cases r1 : rst (qs i) (qs k) with
      | none =>
        dsimp only
        rw [x_low0]
        simp only [Option.bind_some]
        rw [if_pos trivial]
        exact ih (k + 1) f g x1 D I J (by omega) (by omega) (by omega) h1 e13 e5 hW dI dJ h0
      | some q =>
        obtain ⟨a1, a2, a3, a4⟩ := rst_k v5 w5 r1
        dsimp only
        obtain ⟨I1, b1, b2, b3⟩ := x_low (fu := fu) (k := q) (v := lg (qs i)) (L := L) ⟨a1, a2⟩ (by omega) dI
        obtain ⟨J1, d1, d2, d3⟩ := m_low (fu := fu) (k := q) (v := lg (qs i)) (K := K) a2 (by omega) dJ
        rw [b1, if_neg (show ¬ nI q = -1 from nI_nm (by omega)), d1]
        simp only [Option.bind_some]
        have go := fun (y : Int32) (hy : y = 0 ∨ y = 1) (h0' : y = 0 → ∀ t, t < 64 → lwr D q (lg (qs i)) t = 1000000) => ih (k + 1) f g y (lwr D q (lg (qs i))) I1 J1 (by omega) (by omega) (by omega) hy (by rw [b3 1 (by omega)]; exact e13) (by rw [d3 332 (by omega)]; exact e5) (fun k' hk' => by rw [b3 134 (by omega), d3 332 (by omega)]; exact hW k' hk') b2 d2 h0'
        have fin : ∀ y : Int32, (∃ z D' I' J', (z = 0 ∨ z = 1) ∧ LO_C_shortestDoubt_26 fu k11 f (nI i) (nI (k + 1)) I1 L = k11 (nI (i + 1)) I' L ∧ LO_M_doubt_39 fu k27 g y (nI i) (nI (k + 1)) J1 K = k27 z (nI (i + 1)) J' K ∧ DI D' (I' 326) ∧ DI D' (J' 346) ∧ (∀ o, o ≠ 326 → I' o = I1 o) ∧ (∀ o, o ≠ 346 → J' o = J1 o) ∧ (z = 0 → ∀ t, t < 64 → D' t = 1000000)) → ∃ z D' I' J', (z = 0 ∨ z = 1) ∧ LO_C_shortestDoubt_26 fu k11 f (nI i) (nI (k + 1)) I1 L = k11 (nI (i + 1)) I' L ∧ LO_M_doubt_39 fu k27 g y (nI i) (nI (k + 1)) J1 K = k27 z (nI (i + 1)) J' K ∧ DI D' (I' 326) ∧ DI D' (J' 346) ∧ (∀ o, o ≠ 326 → I' o = I o) ∧ (∀ o, o ≠ 346 → J' o = J o) ∧ (z = 0 → ∀ t, t < 64 → D' t = 1000000) := by
          rintro y ⟨z, D', I', J', r0, r1, r2, r3, r4, r5, r6, r7⟩
          exact ⟨z, D', I', J', r0, r1, r2, r3, r4, fun o ho => (r5 o ho).trans (b3 o ho), fun o ho => (r6 o ho).trans (d3 o ho), r7⟩
        by_cases e : lg (qs i) < D q
        · rw [if_pos e, if_neg i10, or11 x1 h1]
          exact fin 1 (go 1 (Or.inr rfl) (fun y => absurd y i10))
        · rw [if_neg e, if_pos rfl]
          exact fin x1 (go x1 h1 (fun y t ht => by rw [lwr_no e]; exact h0 y t ht))
theorem lk_w2 {fu n : Nat} {L K : TL} {qs ps : Nat → Nat} (hfu : 2000 ≤ fu) (hn : n ≤ 5) (hw : ∀ k, k < n → 1 ≤ ps k ∧ ps k ≤ 22222 ∧ Vd 8 (ps k) = some (qs k) ∧ 2 ≤ qs k ∧ qs k < 64) : ∀ (j i f g : Nat) (x1 : Int32) (D : Nat → Nat) (I J : TI), i + j = n → j < f → j < g → (x1 = 0 ∨ x1 = 1) → I 1 13 = nI n → J 332 5 = nI n → (∀ k, k < n → I 134 k = nI (qs k) ∧ J 332 (66 + k) = nI (ps k)) → DI D (I 326) → DI D (J 346) → (x1 = 0 → ∀ t, t < 64 → D t = 1000000) → ∃ z D' I' J', (z = 0 ∨ z = 1) ∧ LO_C_shortestDoubt_11 fu f (nI i) I L = LO_C_shortestDoubt_89 fu fu 1 0 I' L ∧ LO_M_doubt_27 fu g x1 (nI i) J K = LO_M_doubt_116 fu fu z (nI n) J' K ∧ DI D' (I' 326) ∧ DI D' (J' 346) ∧ (∀ o, o ≠ 326 → I' o = I o) ∧ (∀ o, o ≠ 346 → J' o = J o) ∧ (z = 0 → ∀ t, t < 64 → D' t = 1000000) := by
  intro j
  induction j with
  | zero =>
    intro i f g x1 D I J hi hf hg h1 e13 e5 hW dI dJ h0
    obtain ⟨f, rfl⟩ : ∃ z, f = z + 1 := ⟨f - 1, by omega⟩
    obtain ⟨g, rfl⟩ : ∃ z, g = z + 1 := ⟨g - 1, by omega⟩
    have : i = n := by omega
    subst this
    refine ⟨x1, D, I, J, h1, ?_, ?_, dI, dJ, fun _ _ => rfl, fun _ _ => rfl, h0⟩
    · rw [LO_C_shortestDoubt_11, e13, if_pos (Int32.le_refl _)]
    · rw [LO_M_doubt_27, e5, if_pos (Int32.le_refl _)]
  | succ j ih =>
    intro i f g x1 D I J hi hf hg h1 e13 e5 hW dI dJ h0
    obtain ⟨f, rfl⟩ : ∃ z, f = z + 1 := ⟨f - 1, by omega⟩
    obtain ⟨g, rfl⟩ : ∃ z, g = z + 1 := ⟨g - 1, by omega⟩
    have nk : ¬ nI n ≤ nI i := nI_ge (by omega) (by omega)
    have n5 : ¬ (5 : Int32) ≤ nI i := nI_ge (b := 5) (by omega) (by omega)
    rw [LO_C_shortestDoubt_11, e13, if_neg nk, if_neg n5, LO_M_doubt_27, e5, if_neg nk]
    obtain ⟨z, D1, I1, J1, r0, r1, r2, r3, r4, r5, r6, r7⟩ := lk_w (fu := fu) (n := n) (i := i) (L := L) (K := K) (k11 := fun x2 I L => LO_C_shortestDoubt_11 fu f x2 I L) (k27 := fun x1 x2 I L => LO_M_doubt_27 fu g x1 x2 I L) (qs := qs) (ps := ps) hfu hn (by omega) hw n 0 fu fu x1 D I J (by omega) (by omega) (by omega) h1 e13 e5 hW dI dJ h0
    obtain ⟨z', D2, I2, J2, s0, s1, s2, s3, s4, s5, s6, s7⟩ := ih (i + 1) f g z D1 I1 J1 (by omega) (by omega) (by omega) r0 (by rw [r5 1 (by omega)]; exact e13) (by rw [r6 332 (by omega)]; exact e5) (fun k hk => by rw [r5 134 (by omega), r6 332 (by omega)]; exact hW k hk) r3 r4 r7
    exact ⟨z', D2, I2, J2, s0, r1.trans s1, r2.trans s2, s3, s4, fun o ho => (s5 o ho).trans (r5 o ho), fun o ho => (s6 o ho).trans (r6 o ho), s7⟩
/-- all rounds, from the k-th on -/
theorem lk_o {fu n : Nat} {L K : TL} {qs ps : Nat → Nat} {D : Nat → Nat} (hfu : 2000 ≤ fu) (hn : n ≤ 5) (hw : ∀ k, k < n → 1 ≤ ps k ∧ ps k ≤ 22222 ∧ Vd 8 (ps k) = some (qs k) ∧ 2 ≤ qs k ∧ qs k < 64) (hD : ∀ t, t < 64 → D t ≤ 1000000) : ∀ (j k f g : Nat) (x2 : Int32) (I J : TI), k + j = 63 → j + 1 < f → j + 1 < g → I 1 13 = nI n → J 332 5 = nI n → (∀ k, k < n → I 134 k = nI (qs k) ∧ J 332 (66 + k) = nI (ps k)) → DI (Vr qs n D k) (I 326) → DI (Vr qs n D k) (J 346) → ∃ r I' J', LO_C_shortestDoubt_89 fu f 1 (nI k) I L = some (r, I', L) ∧ LO_M_doubt_116 fu g 1 x2 J K = some (r, J', K) ∧ (∀ o, o ≠ 326 → I' o = I o) ∧ (∀ o, o ≠ 346 → J' o = J o) := by
  intro j
  induction j with
  | zero =>
    intro k f g x2 I J hk hf hg e13 e5 hW dI dJ
    obtain ⟨f, rfl⟩ : ∃ z, f = z + 1 := ⟨f - 1, by omega⟩
    obtain ⟨g, rfl⟩ : ∃ z, g = z + 1 := ⟨g - 1, by omega⟩
    obtain ⟨f, rfl⟩ : ∃ z, f = z + 1 := ⟨f - 1, by omega⟩
    obtain ⟨g, rfl⟩ : ∃ z, g = z + 1 := ⟨g - 1, by omega⟩
    have : k = 63 := by omega
    subst this
    obtain ⟨z, I1, J1, r0, r1, r2, r3, r4, r5, r6, r7, r8, r9⟩ := lk_r (fu := fu) (n := n) (x3 := nI 63) (L := L) (K := K) (kk := fun x2 x3 I L => LO_C_shortestDoubt_89 fu (f + 1) x2 x3 I L) (k116 := fun x1 x2 I L => LO_M_doubt_116 fu (g + 1) x1 x2 I L) (qs := qs) (ps := ps) hfu hn hw 62 2 fu fu 0 (Vr qs n D 63) I J (by omega) (by omega) (by omega) (by omega) (Or.inl rfl) e13 e5 hW dI dJ
    have z0 : z = 0 := by
      rcases r0 with h | h
      · exact h
      · rcases r9 h with h | ⟨t, t1, t2⟩
        · exact absurd h (by decide)
        · exfalso
          have := Vr_63 (qs := qs) (n := n) (D := D) (fun k hk => (hw k hk).2.2.2) hD t t1
          exact absurd t2 (Nat.not_lt.mpr this)
    subst z0
    obtain ⟨p1, p2⟩ := r3 1 (by omega)
    obtain ⟨q1, q2⟩ := r4 1 (by omega)
    rw [LO_C_shortestDoubt_89, if_neg (show ¬ (64 : Int32) ≤ nI 63 by decide), if_neg i10, LO_M_doubt_116, if_neg i10]
    by_cases c : rndD qs n 62 2 (Vr qs n D 63) 1 < 1000000
    · refine ⟨nI (rndD qs n 62 2 (Vr qs n D 63) 1), I1, J1, r1.trans ?_, r2.trans ?_, r5, r6⟩
      · show LO_C_shortestDoubt_89 fu (f + 1) 0 _ I1 L = some (nI (rndD qs n 62 2 (Vr qs n D 63) 1), I1, L)
        rw [LO_C_shortestDoubt_89, p1, if_neg (show ¬ (1000000 : Int32) ≤ nI (rndD qs n 62 2 (Vr qs n D 63) 1) from nI_ge (b := 1000000) (by omega) (by omega))]
        split <;> rfl
      · show LO_M_doubt_116 fu (g + 1) 0 _ J1 K = _
        rw [LO_M_doubt_116, if_pos rfl, q1, if_neg (fun y => by have := (nI_eq (b := 1000000) (by omega) (by omega)).mp y; omega)]
    · refine ⟨-1, I1, J1, r1.trans ?_, r2.trans ?_, r5, r6⟩
      · show LO_C_shortestDoubt_89 fu (f + 1) 0 _ I1 L = _
        rw [LO_C_shortestDoubt_89, p1, if_pos (show (1000000 : Int32) ≤ nI (rndD qs n 62 2 (Vr qs n D 63) 1) from nI_le (a := 1000000) (by omega) (by omega))]
        split <;> rfl
      · show LO_M_doubt_116 fu (g + 1) 0 _ J1 K = _
        rw [LO_M_doubt_116, if_pos rfl, q1, if_pos (show nI (rndD qs n 62 2 (Vr qs n D 63) 1) = 1000000 from congrArg nI (show rndD qs n 62 2 (Vr qs n D 63) 1 = 1000000 by omega))]
  | succ j ih =>
    intro k f g x2 I J hk hf hg e13 e5 hW dI dJ
    obtain ⟨f, rfl⟩ : ∃ z, f = z + 1 := ⟨f - 1, by omega⟩
    obtain ⟨g, rfl⟩ : ∃ z, g = z + 1 := ⟨g - 1, by omega⟩
    obtain ⟨z, I1, J1, r0, r1, r2, r3, r4, r5, r6, r7, r8, r9⟩ := lk_r (fu := fu) (n := n) (x3 := nI k) (L := L) (K := K) (kk := fun x2 x3 I L => LO_C_shortestDoubt_89 fu f x2 x3 I L) (k116 := fun x1 x2 I L => LO_M_doubt_116 fu g x1 x2 I L) (qs := qs) (ps := ps) hfu hn hw 62 2 fu fu 0 (Vr qs n D k) I J (by omega) (by omega) (by omega) (by omega) (Or.inl rfl) e13 e5 hW dI dJ
    rw [LO_C_shortestDoubt_89, if_neg (show ¬ (64 : Int32) ≤ nI k from nI_ge (b := 64) (by omega) (by omega)), if_neg i10, LO_M_doubt_116, if_neg i10]
    rcases r0 with rfl | rfl
    · obtain ⟨f, rfl⟩ : ∃ z, f = z + 1 := ⟨f - 1, by omega⟩
      obtain ⟨g, rfl⟩ : ∃ z, g = z + 1 := ⟨g - 1, by omega⟩
      obtain ⟨p1, p2⟩ := r3 1 (by omega)
      obtain ⟨q1, q2⟩ := r4 1 (by omega)
      by_cases c : rndD qs n 62 2 (Vr qs n D k) 1 < 1000000
      · refine ⟨nI (rndD qs n 62 2 (Vr qs n D k) 1), I1, J1, r1.trans ?_, r2.trans ?_, r5, r6⟩
        · show LO_C_shortestDoubt_89 fu (f + 1) 0 _ I1 L = some (nI (rndD qs n 62 2 (Vr qs n D k) 1), I1, L)
          rw [LO_C_shortestDoubt_89, p1, if_neg (show ¬ (1000000 : Int32) ≤ nI (rndD qs n 62 2 (Vr qs n D k) 1) from nI_ge (b := 1000000) (by omega) (by omega))]
          split <;> rfl
        · show LO_M_doubt_116 fu (g + 1) 0 _ J1 K = _
          rw [LO_M_doubt_116, if_pos rfl, q1, if_neg (fun y => by have := (nI_eq (b := 1000000) (by omega) (by omega)).mp y; omega)]
      · refine ⟨-1, I1, J1, r1.trans ?_, r2.trans ?_, r5, r6⟩
        · show LO_C_shortestDoubt_89 fu (f + 1) 0 _ I1 L = _
          rw [LO_C_shortestDoubt_89, p1, if_pos (show (1000000 : Int32) ≤ nI (rndD qs n 62 2 (Vr qs n D k) 1) from nI_le (a := 1000000) (by omega) (by omega))]
          split <;> rfl
        · show LO_M_doubt_116 fu (g + 1) 0 _ J1 K = _
          rw [LO_M_doubt_116, if_pos rfl, q1, if_pos (show nI (rndD qs n 62 2 (Vr qs n D k) 1) = 1000000 from congrArg nI (show rndD qs n 62 2 (Vr qs n D k) 1 = 1000000 by omega))]
    · obtain ⟨r, I2, J2, s1, s2, s3, s4⟩ := ih (k + 1) f g (nI 64) I1 J1 (by omega) (by omega) (by omega) (by rw [r5 1 (by omega)]; exact e13) (by rw [r6 332 (by omega)]; exact e5) (fun k hk => by rw [r5 134 (by omega), r6 332 (by omega)]; exact hW k hk) r3 r4
      rw [← nI_1] at s1
      exact ⟨r, I2, J2, r1.trans s1, r2.trans s2, fun o ho => (s3 o ho).trans (r5 o ho), fun o ho => (s4 o ho).trans (r6 o ho)⟩
