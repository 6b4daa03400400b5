/-! scratch rows; the cheapest code, which stair, who fits -/
def ScI (I I' : TI) : Prop := ∀ o, ¬ (319 ≤ o ∧ o ≤ 330) → I' o = I o
def ScJ (J J' : TI) : Prop := (∀ o, o ≠ 331 → ¬ (336 ≤ o ∧ o ≤ 348) → J' o = J o) ∧ J' 331 4 = J 331 4 ∧ J' 331 5 = J 331 5 ∧ J' 331 6 = J 331 6 ∧ J' 331 23 = J 331 23
theorem ScI.tr {I I' I'' : TI} (a : ScI I I') (b : ScI I' I'') : ScI I I'' := fun o h => (b o h).trans (a o h)
theorem ScJ.tr {J J' J'' : TI} (a : ScJ J J') (b : ScJ J' J'') : ScJ J J'' := ⟨fun o h0 h1 => (b.1 o h0 h1).trans (a.1 o h0 h1), b.2.1.trans a.2.1, b.2.2.1.trans a.2.2.1, b.2.2.2.1.trans a.2.2.2.1, b.2.2.2.2.trans a.2.2.2.2⟩
theorem ScI.rf {I : TI} : ScI I I := fun _ _ => rfl
theorem ScJ.rf {J : TI} : ScJ J J := ⟨fun _ _ _ => rfl, rfl, rfl, rfl, rfl⟩
theorem ScI.one {I I' : TI} {c : Nat} (hc : 319 ≤ c ∧ c ≤ 330) (h : ∀ o, o ≠ c → I' o = I o) : ScI I I' := fun o ho => h o (by omega)
theorem ScJ.one {J J' : TI} {c : Nat} (hc : 336 ≤ c ∧ c ≤ 348) (h : ∀ o, o ≠ c → J' o = J o) : ScJ J J' := by
  have e : J' 331 = J 331 := h 331 (by omega)
  exact ⟨fun o h0 h1 => h o (by omega), by rw [e], by rw [e], by rw [e], by rw [e]⟩
theorem RL.sc {T : TI → (Nat → Int32) → Prop} {I J I' J' : TI} (h : RL T I J) (a : ScI I I') (b : ScJ J J') : RL T I' J' := by
  obtain ⟨h1, h2, h3, h4, h5, h6, h7⟩ := h
  obtain ⟨b0, b4, b5, b6, b23⟩ := b
  refine ⟨?_, ?_, ?_, ?_, ?_, ?_, ?_⟩
  · rw [b0 332 (by omega) (by omega)]; exact SR.cg h1 (fun j hj => a _ (by omega))
  · rw [b0 333 (by omega) (by omega)]; exact SR.cg h2 (fun j hj => a _ (by omega))
  · rw [a 137 (by omega), a 1 (by omega)]; exact h3
  · unfold TP; rw [a 0 (by omega), a 306 (by omega), b4, b0 335 (by omega) (by omega)]; exact h4
  · unfold FT; rw [a 307 (by omega), b5, b6]; exact h5
  · rw [b23]; exact h6
  · intro t ht hl
    rw [a 1 (by omega)] at hl
    rw [b0 334 (by omega) (by omega), show (fun i => I' (274 + 8 * t + i % 8)) = (fun i => I (274 + 8 * t + i % 8)) from by funext i; exact a _ (by omega)]
    exact h7 t ht hl
theorem OpR_s {α : Type} {T : TI → (Nat → Int32) → Prop} {f g : TI → TL → Option (α × TI × TL)} (h : ∀ I J L K, RL T I J → ∃ r I' L' J' K', f I L = some (r, I', L') ∧ g J K = some (r, J', K') ∧ ScI I I' ∧ ScJ J J') : OpR T f g := by
  intro I J L K hR
  obtain ⟨r, I', L', J', K', e1, e2, a, b⟩ := h I J L K hR
  exact ⟨r, I', L', J', K', e1, e2, hR.sc a b, fun o ho => a o (by omega), fun o ho => b.1 o (by omega) (by omega)⟩
theorem lk_light {fu n m : Nat} {I J : TI} {L K : TL} (hm : 1 ≤ m) (hmn : m ≤ n) (hn : n ≤ 6) (p : ∀ k, k < n → J 348 k = I 330 k) : ∀ (j k f g b : Nat), k + j = m → j < f → j < g → b < m → ∃ r I' J', LO_X_takeLightest_4 fu f (nI m) (nI b) (nI k) I L = some (r, I', L) ∧ LO_M_lightest_4 fu g (nI m) (nI b) (nI k) J K = some (r, J', K) ∧ (∀ k, k < n → J' 348 k = I' 330 k) ∧ (∀ o, o ≠ 330 → I' o = I o) ∧ (∀ o, o ≠ 348 → J' o = J o) := by
  intro j
  induction j with
  | zero =>
    intro k f g b hk hf hg hb
    obtain ⟨f, rfl⟩ : ∃ z, f = z + 1 := ⟨f - 1, by omega⟩
    obtain ⟨g, rfl⟩ : ∃ z, g = z + 1 := ⟨g - 1, by omega⟩
    have hk : k = m := by omega
    subst hk
    refine ⟨I 330 b, sI I 330 b (I 330 (k - 1)), sI J 348 b (J 348 (k - 1)), ?_, ?_, ?_, fun o ho => sJ_ne ho, fun o ho => sJ_ne ho⟩
    · rw [LO_X_takeLightest_4]
      simp (disch := omega) only [l_0, l_1, l_2, l_3, l_4, l_5, l_6, l_7, l_8, l_9, l_10, l_11, l_12, l_13, l_15, l_24, l_30, l_36, l_42, l_51, l_60, l_66, l_71, l_77, l_90, l_99, l_100, l_101, l_300, l_557, l_431, l_1511, l_1541, l_9999, l_2724, l_681, l_255, nI_add, pk_mul, pk_sub, Nat.add_sub_cancel, nI_clamp, nI_leI, nI_ltI, nI_eq, if_pos, if_neg, if_true, if_false, Option.bind_some]
    · rw [LO_M_lightest_4]
      simp (disch := omega) only [l_0, l_1, l_2, l_3, l_4, l_5, l_6, l_7, l_8, l_9, l_10, l_11, l_12, l_13, l_15, l_24, l_30, l_36, l_42, l_51, l_60, l_66, l_71, l_77, l_90, l_99, l_100, l_101, l_300, l_557, l_431, l_1511, l_1541, l_9999, l_2724, l_681, l_255, nI_add, pk_mul, pk_sub, Nat.add_sub_cancel, nI_clamp, nI_leI, nI_ltI, nI_eq, if_pos, if_neg, if_true, if_false, Option.bind_some]
      rw [p b (by omega)]
    · intro i hi
      rw [sJ_at, sJ_at, p (k - 1) (by omega)]
      by_cases e : i = b
      · subst e; rw [pk_us, pk_us]
      · rw [pk_un e, pk_un e, p i hi]
  | succ j ih =>
    intro k f g b hk hf hg hb
    obtain ⟨f, rfl⟩ : ∃ z, f = z + 1 := ⟨f - 1, by omega⟩
    obtain ⟨g, rfl⟩ : ∃ z, g = z + 1 := ⟨g - 1, by omega⟩
    rw [LO_X_takeLightest_4, LO_M_lightest_4]
    simp (disch := omega) only [l_0, l_1, l_2, l_3, l_4, l_5, l_6, l_7, l_8, l_9, l_10, l_11, l_12, l_13, l_15, l_24, l_30, l_36, l_42, l_51, l_60, l_66, l_71, l_77, l_90, l_99, l_100, l_101, l_300, l_557, l_431, l_1511, l_1541, l_9999, l_2724, l_681, l_255, nI_add, pk_mul, pk_sub, Nat.add_sub_cancel, nI_clamp, nI_leI, nI_ltI, nI_eq, if_pos, if_neg, if_true, if_false, Option.bind_some]
    rw [p b (by omega), p k (by omega)]
    by_cases h : I 330 b ≤ I 330 k
    · rw [if_pos h, if_pos h]
      exact ih (k + 1) f g b (by omega) (by omega) (by omega) (by omega)
    · rw [if_neg h, if_neg h]
      exact ih (k + 1) f g k (by omega) (by omega) (by omega) (by omega)
theorem lk_cheap {fu n : Nat} {L K : TL} (hfu : 2000 ≤ fu) (hn : n ≤ 6) : ∀ (j m f g : Nat) (a : Int32) (I J : TI), m = j + 1 → m ≤ n → j < f → j < g → (∀ k, k < n → J 348 k = I 330 k) → ∃ r I' J', LO_X_cheapest_33 fu f (nI n) a (nI m) I L = some (r, I', L) ∧ LO_M_cheapest_44 fu g (nI n) a (nI m) J K = some (r, J', K) ∧ (∀ o, o ≠ 330 → I' o = I o) ∧ (∀ o, o ≠ 348 → J' o = J o) := by
  intro j
  induction j with
  | zero =>
    intro m f g a I J hm hmn hf hg p
    obtain ⟨f, rfl⟩ : ∃ z, f = z + 1 := ⟨f - 1, by omega⟩
    obtain ⟨g, rfl⟩ : ∃ z, g = z + 1 := ⟨g - 1, by omega⟩
    subst hm
    refine ⟨a, I, J, ?_, ?_, fun _ _ => rfl, fun _ _ => rfl⟩
    · rw [LO_X_cheapest_33, if_pos (by decide)]
    · rw [LO_M_cheapest_44, if_pos (by decide)]
  | succ j ih =>
    intro m f g a I J hm hmn hf hg p
    obtain ⟨f, rfl⟩ : ∃ z, f = z + 1 := ⟨f - 1, by omega⟩
    obtain ⟨g, rfl⟩ : ∃ z, g = z + 1 := ⟨g - 1, by omega⟩
    obtain ⟨r1, I1, J1, x1, m1, p1, f1, g1⟩ := lk_light (fu := fu) (L := L) (K := K) (m := m) (by omega) hmn hn p (m - 1) 1 fu fu 0 (by omega) (by omega) (by omega) (by omega)
    obtain ⟨r2, I2, J2, x2, m2, p2, f2, g2⟩ := lk_light (fu := fu) (L := L) (K := K) (m := m - 1) (by omega) (by omega) hn p1 (m - 1 - 1) 1 fu fu 0 (by omega) (by omega) (by omega) (by omega)
    have x1 : FO_X_takeLightest fu (nI m) I L = _ := x1
    have m1 : FO_M_lightest fu (nI m) J K = _ := m1
    have x2 : FO_X_takeLightest fu (nI (m - 1)) I1 L = _ := x2
    have m2 : FO_M_lightest fu (nI (m - 1)) J1 K = _ := m2
    obtain ⟨r, I3, J3, e1, e2, e3, e4⟩ := ih (m - 1) f g (a + (r1 + r2)) (sI I2 330 (m - 2) (r1 + r2)) (sI J2 348 (m - 2) (r1 + r2)) (by omega) (by omega) (by omega) (by omega) (fun k hk => by
      rw [sJ_at, sJ_at]
      by_cases e : k = m - 2
      · subst e; rw [pk_us, pk_us]
      · rw [pk_un e, pk_un e, p2 k hk])
    refine ⟨r, I3, J3, ?_, ?_, fun o ho => by rw [e3 o ho, sJ_ne ho, f2 o ho, f1 o ho], fun o ho => by rw [e4 o ho, sJ_ne ho, g2 o ho, g1 o ho]⟩
    · rw [LO_X_cheapest_33, show nI m - 1 = nI (m - 1) from pk_sub (b := 1) (by omega), show nI m - 2 = nI (m - 2) from pk_sub (b := 2) (by omega), show nI m + (-1) = nI (m - 1) from by rw [show m = (m - 1) + 1 by omega, pk_m1]; rfl]
      simp (disch := omega) only [l_0, l_1, l_2, l_3, l_4, l_5, l_6, l_7, l_8, l_9, l_10, l_11, l_12, l_13, l_15, l_24, l_30, l_36, l_42, l_51, l_60, l_66, l_71, l_77, l_90, l_99, l_100, l_101, l_300, l_557, l_431, l_1511, l_1541, l_9999, l_2724, l_681, l_255, nI_add, pk_mul, pk_sub, Nat.add_sub_cancel, nI_clamp, nI_leI, nI_ltI, nI_eq, if_pos, if_neg, if_true, if_false, Option.bind_some, x1, x2]
      exact e1
    · rw [LO_M_cheapest_44, show nI m - 1 = nI (m - 1) from pk_sub (b := 1) (by omega), show nI m - 2 = nI (m - 2) from pk_sub (b := 2) (by omega), show nI m + (-1) = nI (m - 1) from by rw [show m = (m - 1) + 1 by omega, pk_m1]; rfl]
      simp (disch := omega) only [l_0, l_1, l_2, l_3, l_4, l_5, l_6, l_7, l_8, l_9, l_10, l_11, l_12, l_13, l_15, l_24, l_30, l_36, l_42, l_51, l_60, l_66, l_71, l_77, l_90, l_99, l_100, l_101, l_300, l_557, l_431, l_1511, l_1541, l_9999, l_2724, l_681, l_255, nI_add, pk_mul, pk_sub, Nat.add_sub_cancel, nI_clamp, nI_leI, nI_ltI, nI_eq, if_pos, if_neg, if_true, if_false, Option.bind_some, m1, m2]
      exact e2
theorem lk_mcheap {fu n : Nat} {K : TL} (hn : n ≤ 6) : ∀ (j k g : Nat) (J : TI), k + j = n → j < g → ∃ J', LO_M_cheapest_14 fu g (nI n) (nI k) J K = LO_M_cheapest_44 fu fu (nI n) 0 (nI n) J' K ∧ (∀ i, i < k → J' 348 i = J 348 i) ∧ (∀ i, k ≤ i → i < n → J' 348 i = J 332 (71 + i)) ∧ (∀ o, o ≠ 348 → J' o = J o) := by
  intro j
  induction j with
  | zero =>
    intro k g J hk hg
    obtain ⟨g, rfl⟩ : ∃ z, g = z + 1 := ⟨g - 1, by omega⟩
    have hk : k = n := by omega
    subst hk
    exact ⟨J, by rw [LO_M_cheapest_14, if_pos (Int32.le_refl _)], fun _ _ => rfl, fun i h1 h2 => by omega, fun _ _ => rfl⟩
  | succ j ih =>
    intro k g J hk hg
    obtain ⟨g, rfl⟩ : ∃ z, g = z + 1 := ⟨g - 1, by omega⟩
    obtain ⟨J', e1, e2, e3, e4⟩ := ih (k + 1) g (sI J 348 k (J 332 (71 + k))) (by omega) (by omega)
    refine ⟨J', ?_, fun i hi => ?_, fun i h1 h2 => ?_, fun o ho => ?_⟩
    · rw [LO_M_cheapest_14]
      simp (disch := omega) only [l_0, l_1, l_2, l_3, l_4, l_5, l_6, l_7, l_8, l_9, l_10, l_11, l_12, l_13, l_15, l_24, l_30, l_36, l_42, l_51, l_60, l_66, l_71, l_77, l_90, l_99, l_100, l_101, l_300, l_557, l_431, l_1511, l_1541, l_9999, l_2724, l_681, l_255, nI_add, pk_mul, pk_sub, Nat.add_sub_cancel, nI_clamp, nI_leI, nI_ltI, nI_eq, if_pos, if_neg, if_true, if_false, Option.bind_some]
      exact e1
    · rw [e2 i (by omega), sJ_at, pk_un (by omega)]
    · by_cases e : i = k
      · subst e; rw [e2 i (by omega), sJ_at, pk_us]
      · rw [e3 i (by omega) h2, sJ_ne (by omega)]
    · rw [e4 o ho, sJ_ne ho]
theorem op_cheapest {T : TI → (Nat → Int32) → Prop} {fu : Nat} (hfu : 2000 ≤ fu) (p : Int32) : OpR T (fun I L => FO_X_cheapest fu p I L) (fun I L => FO_M_cheapest fu p I L) := by
  refine OpR_s (fun I J L K hR => ?_)
  have s := hR.s
  by_cases c : 1 ≤ p ∧ p ≤ 6
  · obtain ⟨n, hn1, hn, rfl⟩ := rng1 (hi := 6) (by omega) c.1 c.2
    obtain ⟨J1, e1, e2, e3, e4⟩ := lk_mcheap (fu := fu) (K := K) (n := n) hn n 0 fu J (by omega) (by omega)
    obtain ⟨r, I2, J2, x1, m1, f1, g1⟩ := lk_cheap (fu := fu) (L := L) (K := K) hfu hn (n - 1) n fu fu 0 (va_up I 330 (va_cpy (I 135) (I 330) 0 0 n)) J1 (by omega) (by omega) (by omega) (by omega) (fun k hk => by
      rw [vu_at, cp0 hk, e3 k (by omega) hk, s.f_he k (by omega)])
    refine ⟨r, I2, L, J2, K, ?_, ?_, ScI.one (c := 330) (by omega) (fun o ho => by rw [f1 o ho, vu_ne ho]), ScJ.one (c := 348) (by omega) (fun o ho => by rw [g1 o ho, e4 o ho])⟩
    · unfold FO_X_cheapest
      rw [if_pos c, if_pos (show _ ∧ _ ∧ _ ∧ _ ∧ _ from ⟨by decide, by decide, nI_pos' (by omega), by rw [nI_clamp (by omega)]; show 0 + n ≤ 6; omega, by rw [nI_clamp (by omega)]; show 0 + n ≤ 6; omega⟩), nI_clamp (by omega)]
      exact x1
    · unfold FO_M_cheapest
      rw [if_pos c]
      exact e1.trans m1
  · refine ⟨-1, I, L, J, K, ?_, ?_, ScI.rf, ScJ.rf⟩
    · unfold FO_X_cheapest; rw [if_neg c]
    · unfold FO_M_cheapest; rw [if_neg c]
