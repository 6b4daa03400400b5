/-! pairs of calls without loops -/
theorem l_0 : (0 : Int32) = nI 0 := rfl
theorem l_1 : (1 : Int32) = nI 1 := rfl
theorem l_2 : (2 : Int32) = nI 2 := rfl
theorem l_3 : (3 : Int32) = nI 3 := rfl
theorem l_4 : (4 : Int32) = nI 4 := rfl
theorem l_5 : (5 : Int32) = nI 5 := rfl
theorem l_6 : (6 : Int32) = nI 6 := rfl
theorem l_7 : (7 : Int32) = nI 7 := rfl
theorem l_8 : (8 : Int32) = nI 8 := rfl
theorem l_9 : (9 : Int32) = nI 9 := rfl
theorem l_10 : (10 : Int32) = nI 10 := rfl
theorem l_11 : (11 : Int32) = nI 11 := rfl
theorem l_12 : (12 : Int32) = nI 12 := rfl
theorem l_13 : (13 : Int32) = nI 13 := rfl
theorem l_15 : (15 : Int32) = nI 15 := rfl
theorem l_24 : (24 : Int32) = nI 24 := rfl
theorem l_30 : (30 : Int32) = nI 30 := rfl
theorem l_36 : (36 : Int32) = nI 36 := rfl
theorem l_42 : (42 : Int32) = nI 42 := rfl
theorem l_51 : (51 : Int32) = nI 51 := rfl
theorem l_60 : (60 : Int32) = nI 60 := rfl
theorem l_66 : (66 : Int32) = nI 66 := rfl
theorem l_71 : (71 : Int32) = nI 71 := rfl
theorem l_77 : (77 : Int32) = nI 77 := rfl
theorem l_90 : (90 : Int32) = nI 90 := rfl
theorem l_99 : (99 : Int32) = nI 99 := rfl
theorem l_100 : (100 : Int32) = nI 100 := rfl
theorem l_101 : (101 : Int32) = nI 101 := rfl
theorem l_300 : (300 : Int32) = nI 300 := rfl
theorem l_557 : (557 : Int32) = nI 557 := rfl
theorem l_431 : (431 : Int32) = nI 431 := rfl
theorem l_1511 : (1511 : Int32) = nI 1511 := rfl
theorem l_1541 : (1541 : Int32) = nI 1541 := rfl
theorem l_9999 : (9999 : Int32) = nI 9999 := rfl
theorem l_2724 : (2724 : Int32) = nI 2724 := rfl
theorem l_681 : (681 : Int32) = nI 681 := rfl
theorem l_255 : (255 : Int32) = nI 255 := rfl
theorem OpR_q {α : Type} {T : TI → (Nat → Int32) → Prop} {f g : TI → TL → Option (α × TI × TL)} (h : ∀ I J L K, RL T I J → ∃ r, f I L = some (r, I, L) ∧ g J K = some (r, J, K)) : OpR T f g := by
  intro I J L K hR
  obtain ⟨r, e1, e2⟩ := h I J L K hR
  exact ⟨r, I, L, J, K, e1, e2, hR, fun _ _ => rfl, fun _ _ => rfl⟩
theorem RL.s {T : TI → (Nat → Int32) → Prop} {I J : TI} (h : RL T I J) : SR (aN I) (J 332) := h.1
/-- the lodger that is asked for -/
theorem lodg {I J : TI} (h : SR (aN I) (J 332)) (p : Int32) : (∃ k n : Nat, k < n ∧ n ≤ 6 ∧ p = nI k ∧ I 1 2 = nI n ∧ J 332 0 = nI n ∧ F_X_isLodger I p = 1 ∧ F_M_isLodger J p = 1) ∨ (F_X_isLodger I p = 0 ∧ F_M_isLodger J p = 0) := by
  obtain ⟨e, n, hn, e2⟩ := h.n0
  have e2 : I 1 2 = nI n := e2
  have e1 : J 332 0 = nI n := e.trans e2
  have ht : F_X_tenants I = nI n := by
    unfold F_X_tenants F_J_min
    rw [e2, if_neg]
    exact nI_nlt (a := 6) hn (by omega)
  unfold F_X_isLodger F_M_isLodger
  rw [ht, e1]
  rcases pk_ix p (n := n) (by omega) with hp | hp | ⟨k, hk, hp⟩
  · right
    rw [if_pos hp, bI_f (fun z => absurd hp (Int32.not_lt.mpr z.1))]
    exact ⟨rfl, rfl⟩
  · right
    rw [if_pos hp]
    refine ⟨by split <;> rfl, bI_f (fun z => ?_)⟩
    have z2 := z.2
    have hh : n = 0 ∨ 0 < n := by omega
    rcases hh with hh | hh
    · subst hh
      exact absurd (Int32.le_trans z.1 z2) (by decide)
    · obtain ⟨m, rfl⟩ : ∃ m, n = m + 1 := ⟨n - 1, by omega⟩
      rw [nI_pred] at z2
      exact nI_ge (a := m) (b := m + 1) (by omega) (by omega) (Int32.le_trans hp z2)
  · left
    subst hp
    refine ⟨k, n, hk, hn, rfl, e2, rfl, ?_, ?_⟩
    · rw [if_neg (nI_pos (by omega)), if_neg (nI_ge hk (by omega))]
    · obtain ⟨m, rfl⟩ : ∃ m, n = m + 1 := ⟨n - 1, by omega⟩
      rw [nI_pred]
      exact bI_t ⟨nI_pos' (by omega), nI_le (by omega) (by omega)⟩
theorem i10 : ¬ (1 : Int32) = 0 := by decide
theorem ten {I J : TI} (h : SR (aN I) (J 332)) : ∃ n : Nat, n ≤ 6 ∧ I 1 2 = nI n ∧ J 332 0 = nI n ∧ F_X_tenants I = nI n := by
  obtain ⟨e, n, hn, e2⟩ := h.n0
  have e2 : I 1 2 = nI n := e2
  refine ⟨n, hn, e2, e.trans e2, ?_⟩
  unfold F_X_tenants F_J_min
  rw [e2, if_neg]
  exact nI_nlt (a := 6) hn (by omega)
/-- a number in a row's bounds -/
theorem nnb {a n : Nat} (h : a < n) (hn : n < 2 ^ 31) : 0 ≤ nI a ∧ nI a < nI n := ⟨nI_pos' (by omega), nI_lt h hn⟩
theorem op_is {T : TI → (Nat → Int32) → Prop} (fu : Nat) (p : Int32) : OpR T (fun I L => FO_X_is fu p I L) (fun I L => FO_M_is fu p I L) := by
  refine OpR_q (fun I J L K hR => ?_)
  have r := hR.s.ho.2.1
  unfold FO_X_is FO_M_is F_X_is F_M_is
  by_cases h0 : p = 0
  · subst h0; exact ⟨_, rfl, congrArg (fun z => some (z, J, K)) (r 0 (by omega))⟩
  by_cases h1 : p = 1
  · subst h1; exact ⟨_, rfl, congrArg (fun z => some (z, J, K)) (r 1 (by omega))⟩
  by_cases h2 : p = 2
  · subst h2; exact ⟨_, rfl, congrArg (fun z => some (z, J, K)) (r 2 (by omega))⟩
  by_cases h3 : p = 3
  · subst h3; exact ⟨_, rfl, congrArg (fun z => some (z, J, K)) (r 3 (by omega))⟩
  rw [if_neg h0, if_neg h1, if_neg h2, if_neg h3, if_neg]
  · exact ⟨_, rfl, rfl⟩
  · grind
theorem op_about {T : TI → (Nat → Int32) → Prop} (fu : Nat) (p : Int32) : OpR T (fun I L => FO_X_about fu p I L) (fun I L => FO_M_about fu p I L) := by
  refine OpR_q (fun I J L K hR => ?_)
  have s := hR.s
  obtain ⟨m, hm, t1, t2, _⟩ := hR.2.2.2.1
  unfold FO_X_about FO_M_about F_X_about
  by_cases h0 : p = 0
  · subst h0; exact ⟨_, rfl, congrArg (fun z => some (z, J, K)) s.n0.1⟩
  by_cases h1 : p = 1
  · subst h1; exact ⟨_, rfl, congrArg (fun z => some (z, J, K)) s.tx.1⟩
  by_cases h2 : p = 2
  · subst h2; exact ⟨_, rfl, congrArg (fun z => some (z, J, K)) s.ru.1⟩
  by_cases h3 : p = 3
  · subst h3; exact ⟨_, rfl, congrArg (fun z => some (z, J, K)) s.st.1⟩
  by_cases h4 : p = 4
  · subst h4; exact ⟨_, rfl, congrArg (fun z => some (z, J, K)) s.so.1⟩
  by_cases h5 : p = 5
  · subst h5; exact ⟨_, rfl, congrArg (fun z => some (z, J, K)) s.wo.1⟩
  by_cases h6 : p = 6
  · subst h6; exact ⟨_, rfl, congrArg (fun z => some (z, J, K)) s.sa.1⟩
  by_cases h7 : p = 7
  · subst h7; exact ⟨_, rfl, congrArg (fun z => some (z, J, K)) (t2.trans t1.symm)⟩
  rw [if_neg h0, if_neg h1, if_neg h2, if_neg h3, if_neg h4, if_neg h5, if_neg h6, if_neg h7, if_neg, if_neg h7]
  · exact ⟨_, rfl, rfl⟩
  · grind
theorem op_fault {T : TI → (Nat → Int32) → Prop} (fu : Nat) (p : Int32) : OpR T (fun I L => FO_X_fault fu p I L) (fun I L => FO_M_fault fu p I L) := by
  refine OpR_q (fun I J L K hR => ?_)
  have f := hR.2.2.2.2.1
  unfold FO_X_fault FO_M_fault
  rcases f with ⟨a, b, c⟩ | ⟨a, b, c⟩
  · rw [if_pos a, b, c]
    refine ⟨_, rfl, ?_⟩
    split
    · rfl
    · split <;> rfl
  · rw [if_neg (by rw [a]; decide), b, c]
    by_cases h0 : p = 0
    · rw [if_pos h0, if_pos h0]; exact ⟨_, rfl, rfl⟩
    · rw [if_neg h0, if_neg h0]
      by_cases h1 : p = 1
      · rw [if_pos h1, if_pos h1]; exact ⟨_, rfl, rfl⟩
      · rw [if_neg h1, if_neg h1]; exact ⟨_, rfl, rfl⟩
theorem m_place {fu k : Nat} {J : TI} {K : TL} (hk : k < 6) : FO_M_placeOf fu (nI k) J K = some (J 332 (12 + 2 * k), J, K) := by
  unfold FO_M_placeOf
  simp (disch := omega) only [l_0, l_1, l_2, l_3, l_4, l_5, l_6, l_7, l_8, l_9, l_10, l_11, l_12, l_13, l_15, l_24, l_30, l_36, l_42, l_51, l_60, l_66, l_71, l_77, l_90, l_99, l_100, l_101, l_300, l_557, l_431, l_1511, l_1541, l_9999, l_2724, l_681, l_255, nI_add, pk_mul, pk_sub, Nat.add_sub_cancel, nI_clamp, nI_leI, nI_ltI, nI_eq]
  rw [if_pos (by omega)]
theorem m_trod {fu k : Nat} {J : TI} {K : TL} (hk : k < 6) : FO_M_trod fu (nI k) J K = some (J 332 (13 + 2 * k), J, K) := by
  unfold FO_M_trod
  simp (disch := omega) only [l_0, l_1, l_2, l_3, l_4, l_5, l_6, l_7, l_8, l_9, l_10, l_11, l_12, l_13, l_15, l_24, l_30, l_36, l_42, l_51, l_60, l_66, l_71, l_77, l_90, l_99, l_100, l_101, l_300, l_557, l_431, l_1511, l_1541, l_9999, l_2724, l_681, l_255, nI_add, pk_mul, pk_sub, Nat.add_sub_cancel, nI_clamp, nI_leI, nI_ltI, nI_eq]
  rw [if_pos (by omega), show 12 + 2 * k + 1 = 13 + 2 * k by omega]
theorem op_of {T : TI → (Nat → Int32) → Prop} (fu : Nat) (p w : Int32) : OpR T (fun I L => FO_X_of fu p w I L) (fun I L => FO_M_of fu p w I L) := by
  refine OpR_q (fun I J L K hR => ?_)
  have s := hR.s
  unfold FO_X_of FO_M_of
  rcases lodg s p with ⟨k, n, hk, hn, rfl, e1, e2, f1, f2⟩ | ⟨f1, f2⟩
  · have k6 : k < 6 := by omega
    have pl := s.ho.2.2.1 k k6
    rw [f1, f2, if_neg i10, if_neg i10, m_place k6, m_trod k6]
    simp (disch := omega) only [l_0, l_1, l_2, l_3, l_4, l_5, l_6, l_7, l_8, l_9, l_10, l_11, l_12, l_13, l_15, l_24, l_30, l_36, l_42, l_51, l_60, l_66, l_71, l_77, l_90, l_99, l_100, l_101, l_300, l_557, l_431, l_1511, l_1541, l_9999, l_2724, l_681, l_255, nI_add, pk_mul, pk_sub, Nat.add_sub_cancel, nI_clamp, nI_leI, nI_ltI, nI_eq, Option.bind_some]
    have w1 : J 332 (24 + k) = I 128 k := (s.we k k6).1
    have w2 : J 332 (30 + k) = I 129 k := (s.fl k k6).1
    have w3 : J 332 (36 + k) = I 130 k := (s.pr k k6).1
    have w4 : J 332 (12 + 2 * k) = I 3 k := pl.1
    have w5 : J 332 (13 + 2 * k) = I 4 k := pl.2
    have b0 : 0 ≤ k ∧ k < 6 := ⟨by omega, k6⟩
    have b1 : 0 ≤ 24 + k ∧ 24 + k < 1541 := by omega
    have b2 : 0 ≤ 30 + k ∧ 30 + k < 1541 := by omega
    have b3 : 0 ≤ 36 + k ∧ 36 + k < 1541 := by omega
    rw [w1, w2, w3, w4, w5, if_pos b0, if_pos b0, if_pos b0, if_pos b0, if_pos b0, if_pos b1, if_pos b2, if_pos b3]
    repeat' split
    all_goals exact ⟨_, rfl, rfl⟩
  · rw [f1, f2, if_pos rfl, if_pos rfl]; exact ⟨_, rfl, rfl⟩
theorem rng {p : Int32} {hi : Nat} (hh : hi + 1 < 2 ^ 31) (h0 : 0 ≤ p) (h : p ≤ nI hi) : ∃ j, j ≤ hi ∧ p = nI j := by
  rcases pk_ix p (n := hi + 1) hh with hp | hp | ⟨k, hk, hp⟩
  · exact absurd hp (Int32.not_lt.mpr h0)
  · exact absurd (Int32.le_trans hp h) (nI_ge (by omega) (by omega))
  · exact ⟨k, by omega, hp⟩
theorem rng1 {p : Int32} {hi : Nat} (hh : hi + 1 < 2 ^ 31) (h0 : 1 ≤ p) (h : p ≤ nI hi) : ∃ j, 1 ≤ j ∧ j ≤ hi ∧ p = nI j := by
  obtain ⟨j, hj, rfl⟩ := rng hh (Int32.le_trans (by decide) h0) h
  have : 1 ≤ j := (nI_leI (a := 1) (by omega) (by omega)).mp h0
  exact ⟨j, this, hj, rfl⟩
/-- one row of the class and one place of the model's row are written -/
theorem now1 {α : Type} {T : TI → (Nat → Int32) → Prop} {I J : TI} {L K : TL} {f g : Option (α × TI × TL)} {r : α} {j k i : Nat} {v w : Int32} (hR : RL T I J) (hj : j < 136) (ht : ¬ (j = 0 ∧ k = 6)) (e1 : f = some (r, sI I (1 + j) k v, L)) (e2 : g = some (r, sI J 332 i w, K)) (s : SR (uA (aN I) j k v) (upd (J 332) i w)) :
    ∃ r I' L' J' K', f = some (r, I', L') ∧ g = some (r, J', K') ∧ RL T I' J' ∧ (∀ o, 331 ≤ o → I' o = I o) ∧ (∀ o, o < 331 → J' o = J o) := by
  refine ⟨r, _, L, _, K, e1, e2, RL.now hR (by rw [aN_sI j rfl, sJ_at]; exact s) (fun o ho => sJ_ne (by omega)) ?_ (fun o ho => sJ_ne ho), fun o ho => sJ_ne (by omega), fun o ho => sJ_ne (by omega)⟩
  by_cases e : j = 0
  · subst e
    show sI I 1 k v 1 6 = I 1 6
    rw [sJ_at]
    exact pk_un (by omega)
  · rw [sJ_ne (by omega)]
/-- nothing is written -/
theorem now0 {α : Type} {T : TI → (Nat → Int32) → Prop} {I J : TI} {L K : TL} {f g : Option (α × TI × TL)} (r : α) (hR : RL T I J) (e1 : f = some (r, I, L)) (e2 : g = some (r, J, K)) :
    ∃ r I' L' J' K', f = some (r, I', L') ∧ g = some (r, J', K') ∧ RL T I' J' ∧ (∀ o, 331 ≤ o → I' o = I o) ∧ (∀ o, o < 331 → J' o = J o) := ⟨r, I, L, J, K, e1, e2, hR, fun _ _ => rfl, fun _ _ => rfl⟩
theorem op_change {T : TI → (Nat → Int32) → Prop} (fu : Nat) (p q w : Int32) : OpR T (fun I L => FO_X_change fu p q w I L) (fun I L => FO_M_change fu p q w I L) := by
  intro I J L K hR
  by_cases c0 : 0 ≤ p ∧ p ≤ 2
  · by_cases c1 : 0 ≤ q ∧ q ≤ 2
    · by_cases c2 : 0 ≤ w ∧ w ≤ 9
      · obtain ⟨a, ha, rfl⟩ := rng (hi := 2) (by omega) c0.1 c0.2
        obtain ⟨b, hb, rfl⟩ := rng (hi := 2) (by omega) c1.1 c1.2
        obtain ⟨d, hd, rfl⟩ := rng (hi := 9) (by omega) c2.1 c2.2
        refine now1 (L := L) (K := K) (r := nI 1) (j := 130) (k := 3 * a + b) (i := 42 + (3 * a + b)) (v := nI d) (w := nI d) hR (by omega) (by omega) ?_ ?_ (SR.set_ch hR.s (by omega) ⟨d, hd, rfl⟩)
        · dsimp only
          unfold FO_X_change
          simp (disch := omega) only [l_0, l_1, l_2, l_3, l_4, l_5, l_6, l_7, l_8, l_9, l_10, l_11, l_12, l_13, l_15, l_24, l_30, l_36, l_42, l_51, l_60, l_66, l_71, l_77, l_90, l_99, l_100, l_101, l_300, l_557, l_431, l_1511, l_1541, l_9999, l_2724, l_681, l_255, nI_add, pk_mul, pk_sub, Nat.add_sub_cancel, nI_clamp, nI_leI, nI_ltI, nI_eq]
          rw [if_pos (by omega), if_pos (by omega), if_pos (by omega), if_pos (by omega), Nat.mul_comm]
        · dsimp only
          unfold FO_M_change
          simp (disch := omega) only [l_0, l_1, l_2, l_3, l_4, l_5, l_6, l_7, l_8, l_9, l_10, l_11, l_12, l_13, l_15, l_24, l_30, l_36, l_42, l_51, l_60, l_66, l_71, l_77, l_90, l_99, l_100, l_101, l_300, l_557, l_431, l_1511, l_1541, l_9999, l_2724, l_681, l_255, nI_add, pk_mul, pk_sub, Nat.add_sub_cancel, nI_clamp, nI_leI, nI_ltI, nI_eq]
          rw [if_pos (by omega), if_pos (by omega), if_pos (by omega), if_pos (by omega), Nat.add_assoc]
      · refine now0 (L := L) (K := K) 0 hR ?_ ?_
        · dsimp only; unfold FO_X_change; rw [if_pos c0, if_pos c1, if_neg c2]
        · dsimp only; unfold FO_M_change; rw [if_pos c0, if_pos c1, if_neg c2]
    · refine now0 (L := L) (K := K) 0 hR ?_ ?_
      · dsimp only; unfold FO_X_change; rw [if_pos c0, if_neg c1]
      · dsimp only; unfold FO_M_change; rw [if_pos c0, if_neg c1]
  · refine now0 (L := L) (K := K) 0 hR ?_ ?_
    · dsimp only; unfold FO_X_change; rw [if_neg c0]
    · dsimp only; unfold FO_M_change; rw [if_neg c0]
theorem op_sound {T : TI → (Nat → Int32) → Prop} (fu : Nat) (p q w : Int32) : OpR T (fun I L => FO_X_sound fu p q w I L) (fun I L => FO_M_sound fu p q w I L) := by
  intro I J L K hR
  by_cases c0 : 0 ≤ p ∧ p ≤ 2
  · by_cases c1 : 0 ≤ q ∧ q ≤ 2
    · by_cases c2 : 0 ≤ w ∧ w ≤ 9
      · obtain ⟨a, ha, rfl⟩ := rng (hi := 2) (by omega) c0.1 c0.2
        obtain ⟨b, hb, rfl⟩ := rng (hi := 2) (by omega) c1.1 c1.2
        obtain ⟨d, hd, rfl⟩ := rng (hi := 9) (by omega) c2.1 c2.2
        refine now1 (L := L) (K := K) (r := nI 1) (j := 131) (k := 3 * a + b) (i := 51 + (3 * a + b)) (v := nI d) (w := nI d) hR (by omega) (by omega) ?_ ?_ (SR.set_sn hR.s (by omega) ⟨d, hd, rfl⟩)
        · dsimp only
          unfold FO_X_sound
          simp (disch := omega) only [l_0, l_1, l_2, l_3, l_4, l_5, l_6, l_7, l_8, l_9, l_10, l_11, l_12, l_13, l_15, l_24, l_30, l_36, l_42, l_51, l_60, l_66, l_71, l_77, l_90, l_99, l_100, l_101, l_300, l_557, l_431, l_1511, l_1541, l_9999, l_2724, l_681, l_255, nI_add, pk_mul, pk_sub, Nat.add_sub_cancel, nI_clamp, nI_leI, nI_ltI, nI_eq]
          rw [if_pos (by omega), if_pos (by omega), if_pos (by omega), if_pos (by omega), Nat.mul_comm]
        · dsimp only
          unfold FO_M_sound
          simp (disch := omega) only [l_0, l_1, l_2, l_3, l_4, l_5, l_6, l_7, l_8, l_9, l_10, l_11, l_12, l_13, l_15, l_24, l_30, l_36, l_42, l_51, l_60, l_66, l_71, l_77, l_90, l_99, l_100, l_101, l_300, l_557, l_431, l_1511, l_1541, l_9999, l_2724, l_681, l_255, nI_add, pk_mul, pk_sub, Nat.add_sub_cancel, nI_clamp, nI_leI, nI_ltI, nI_eq]
          rw [if_pos (by omega), if_pos (by omega), if_pos (by omega), if_pos (by omega), Nat.add_assoc]
      · refine now0 (L := L) (K := K) 0 hR ?_ ?_
        · dsimp only; unfold FO_X_sound; rw [if_pos c0, if_pos c1, if_neg c2]
        · dsimp only; unfold FO_M_sound; rw [if_pos c0, if_pos c1, if_neg c2]
    · refine now0 (L := L) (K := K) 0 hR ?_ ?_
      · dsimp only; unfold FO_X_sound; rw [if_pos c0, if_neg c1]
      · dsimp only; unfold FO_M_sound; rw [if_pos c0, if_neg c1]
  · refine now0 (L := L) (K := K) 0 hR ?_ ?_
    · dsimp only; unfold FO_X_sound; rw [if_neg c0]
    · dsimp only; unfold FO_M_sound; rw [if_neg c0]
theorem op_heavy {T : TI → (Nat → Int32) → Prop} (fu : Nat) (p w : Int32) : OpR T (fun I L => FO_X_heavy fu p w I L) (fun I L => FO_M_heavy fu p w I L) := by
  intro I J L K hR
  by_cases c0 : 0 ≤ p ∧ p ≤ 5
  · by_cases c2 : 1 ≤ w ∧ w ≤ 99
    · obtain ⟨a, ha, rfl⟩ := rng (hi := 5) (by omega) c0.1 c0.2
      obtain ⟨d, hd1, hd, rfl⟩ := rng1 (hi := 99) (by omega) c2.1 c2.2
      refine now1 (L := L) (K := K) (r := nI 1) (j := 134) (k := a) (i := 71 + a) (v := nI d) (w := nI d) hR (by omega) (by omega) ?_ ?_ (SR.set_he hR.s (by omega) ⟨c2.1, d, hd, rfl⟩)
      · dsimp only
        unfold FO_X_heavy
        simp (disch := omega) only [l_0, l_1, l_2, l_3, l_4, l_5, l_6, l_7, l_8, l_9, l_10, l_11, l_12, l_13, l_15, l_24, l_30, l_36, l_42, l_51, l_60, l_66, l_71, l_77, l_90, l_99, l_100, l_101, l_300, l_557, l_431, l_1511, l_1541, l_9999, l_2724, l_681, l_255, nI_add, pk_mul, pk_sub, Nat.add_sub_cancel, nI_clamp, nI_leI, nI_ltI, nI_eq]
        rw [if_pos (by omega), if_pos (by omega), if_pos (by omega)]
      · dsimp only
        unfold FO_M_heavy
        simp (disch := omega) only [l_0, l_1, l_2, l_3, l_4, l_5, l_6, l_7, l_8, l_9, l_10, l_11, l_12, l_13, l_15, l_24, l_30, l_36, l_42, l_51, l_60, l_66, l_71, l_77, l_90, l_99, l_100, l_101, l_300, l_557, l_431, l_1511, l_1541, l_9999, l_2724, l_681, l_255, nI_add, pk_mul, pk_sub, Nat.add_sub_cancel, nI_clamp, nI_leI, nI_ltI, nI_eq]
        rw [if_pos (by omega), if_pos (by omega), if_pos (by omega)]
    · refine now0 (L := L) (K := K) 0 hR ?_ ?_
      · dsimp only; unfold FO_X_heavy; rw [if_pos c0, if_neg c2]
      · dsimp only; unfold FO_M_heavy; rw [if_pos c0, if_neg c2]
  · refine now0 (L := L) (K := K) 0 hR ?_ ?_
    · dsimp only; unfold FO_X_heavy; rw [if_neg c0]
    · dsimp only; unfold FO_M_heavy; rw [if_neg c0]
theorem op_by {T : TI → (Nat → Int32) → Prop} (fu : Nat) (p : Int32) : OpR T (fun I L => FO_X_by fu p I L) (fun I L => FO_M_by fu p I L) := by
  intro I J L K hR
  have ht := hR.s.tx
  obtain ⟨e1, n, hn, e2⟩ := ht
  have e2 : I 1 6 = nI n := e2
  have e1 : J 332 1 = nI n := e1.trans e2
  have hc : (p = -1 ∨ isLib I p) ↔ (-1 ≤ p ∧ p ≤ J 332 1 - 1) := by
    unfold isLib
    rw [e2, e1]
    rcases pk_ix p (n := n) (by omega) with hp | hp | ⟨k, hk, hp⟩
    · constructor
      · rintro (rfl | h)
        · refine ⟨by decide, ?_⟩
          have : n = 0 ∨ n = 1 ∨ n = 2 ∨ n = 3 ∨ n = 4 := by omega
          rcases this with rfl | rfl | rfl | rfl | rfl <;> decide
        · exact absurd hp (Int32.not_lt.mpr h.1)
      · intro h
        left
        grind
    · constructor
      · rintro (rfl | h)
        · exact absurd (Int32.le_trans (nI_pos' (n := n) (by omega)) hp) (by decide)
        · exact absurd h.2.2 (Int32.not_lt.mpr hp)
      · intro h
        exfalso
        have : n = 0 ∨ n = 1 ∨ n = 2 ∨ n = 3 ∨ n = 4 := by omega
        have h2 := Int32.le_trans hp h.2
        rcases this with rfl | rfl | rfl | rfl | rfl <;> revert h2 <;> decide
    · subst hp
      obtain ⟨m, rfl⟩ : ∃ m, n = m + 1 := ⟨n - 1, by omega⟩
      rw [nI_pred]
      constructor
      · intro _
        exact ⟨Int32.le_trans (by decide) (nI_pos' (by omega)), nI_le (by omega) (by omega)⟩
      · intro _
        exact Or.inr ⟨nI_pos' (by omega), nI_lt (b := 4) (by omega) (by omega), nI_lt hk (by omega)⟩
  have hv : (p = -1 ∨ isLib I p) → (-1 ≤ p ∧ p < I 1 6) := by
    rintro (rfl | h)
    · refine ⟨by decide, ?_⟩
      rw [e2]
      exact Int32.lt_of_lt_of_le (by decide) (nI_pos' (n := n) (by omega))
    · exact ⟨Int32.le_trans (by decide) h.1, h.2.2⟩
  by_cases c : p = -1 ∨ isLib I p
  · refine now1 (L := L) (K := K) (r := 1) (j := 0) (k := 7) (i := 2) (v := p) (w := p) hR (by omega) (by omega) ?_ ?_ (SR.set_ru hR.s (hv c).1 (hv c).2)
    · dsimp only
      unfold FO_X_by
      by_cases c1 : p = -1
      · rw [if_pos c1]
      · rw [if_neg c1, if_pos (c.resolve_left c1)]
    · dsimp only
      unfold FO_M_by
      rw [if_pos (hc.mp c)]
  · refine now0 (L := L) (K := K) 0 hR ?_ ?_
    · dsimp only; unfold FO_X_by; rw [if_neg (fun z => c (Or.inl z)), if_neg (fun z => c (Or.inr z))]
    · dsimp only; unfold FO_M_by; rw [if_neg (fun z => c (hc.mpr z))]
theorem nowW {α : Type} {T : TI → (Nat → Int32) → Prop} {I J I' J' : TI} {L' K' : TL} {f g : Option (α × TI × TL)} {r : α} (hR : RL T I J) (e1 : f = some (r, I', L')) (e2 : g = some (r, J', K')) (s : SR (aN I') (J' 332)) (eI : ∀ o, ¬ (1 ≤ o ∧ o ≤ 136) → I' o = I o) (eT : I' 1 6 = I 1 6) (eJ : ∀ o, o ≠ 332 → J' o = J o) :
    ∃ r I' L' J' K', f = some (r, I', L') ∧ g = some (r, J', K') ∧ RL T I' J' ∧ (∀ o, 331 ≤ o → I' o = I o) ∧ (∀ o, o < 331 → J' o = J o) :=
  ⟨r, I', L', J', K', e1, e2, RL.now hR s eI eT eJ, fun o ho => eI o (by omega), fun o ho => eJ o (by omega)⟩
theorem mask_ss {p : Int32} (h : p &&& (-8191) = 0) : ss p := by
  have hx : p.toBitVec.toNat < 2 ^ 32 := p.toBitVec.isLt
  have h1 : p.toBitVec.toNat &&& 4294959105 = 0 := by
    have := congrArg (fun z : Int32 => z.toBitVec.toNat) h
    simpa using this
  generalize hg : p.toBitVec.toNat = x at h1 hx
  have e1 : x % 2 = 0 := by
    have := congrArg (fun z => z &&& 1) h1
    simp only [Nat.and_assoc] at this
    rw [← Nat.and_one_is_mod]
    simpa using this
  have e2 : x < 8192 := by
    have := congrArg (fun z => z >>> 13) h1
    simp only [Nat.shiftRight_and_distrib] at this
    rw [show 4294959105 >>> 13 = 2 ^ 19 - 1 from by decide, Nat.and_two_pow_sub_one_eq_mod, Nat.zero_shiftRight, Nat.shiftRight_eq_div_pow] at this
    omega
  refine ⟨x / 2, by omega, ?_⟩
  rw [show 2 * (x / 2) = x by omega, ← hg]
  apply Int32.toBitVec_inj.mp
  show _ = BitVec.ofNat 32 _
  exact (BitVec.ofNat_toNat ..).symm ▸ by simp
theorem op_lodger {T : TI → (Nat → Int32) → Prop} (fu : Nat) (p q : Int32) : OpR T (fun I L => FO_X_lodger fu p q I L) (fun I L => FO_M_lodger fu p q I L) := by
  intro I J L K hR
  have s := hR.s
  obtain ⟨e, n, hn, e2⟩ := s.n0
  have e2 : I 1 2 = nI n := e2
  have e1 : J 332 0 = nI n := e.trans e2
  by_cases c0 : 1 ≤ p ∧ p ≤ 9
  · by_cases c1 : 1 ≤ q ∧ q ≤ 12
    · obtain ⟨a, ha1, ha, rfl⟩ := rng1 (hi := 9) (by omega) c0.1 c0.2
      obtain ⟨b, hb1, hb, rfl⟩ := rng1 (hi := 12) (by omega) c1.1 c1.2
      by_cases h6 : n = 6
      · subst h6
        refine now0 (L := L) (K := K) (-1) hR ?_ ?_
        · dsimp only; unfold FO_X_lodger FO_X_moveIn; rw [if_pos c0, if_pos c1, e2, if_neg (by decide)]; rfl
        · dsimp only; unfold FO_M_lodger; rw [if_pos c0, if_pos c1, e1, if_pos (show nI 6 = 6 from rfl)]
      · refine nowW (r := nI n) (I' := sI (sI (sI I 128 n (nI a)) 129 n (nI b)) 1 2 (nI (n + 1))) (J' := sI (sI (sI J 332 (24 + n) (nI a)) 332 (30 + n) (nI b)) 332 0 (nI (n + 1))) (L' := L) (K' := K) hR ?_ ?_ ?_ ?_ rfl ?_
        · dsimp only
          unfold FO_X_lodger FO_X_moveIn
          simp (disch := omega) only [e2, l_0, l_1, l_2, l_3, l_4, l_5, l_6, l_7, l_8, l_9, l_10, l_11, l_12, l_13, l_15, l_24, l_30, l_36, l_42, l_51, l_60, l_66, l_71, l_77, l_90, l_99, l_100, l_101, l_300, l_557, l_431, l_1511, l_1541, l_9999, l_2724, l_681, l_255, nI_add, pk_mul, pk_sub, Nat.add_sub_cancel, nI_clamp, nI_leI, nI_ltI, nI_eq]
          rw [if_pos (by omega), if_pos (by omega), if_pos (by omega), if_pos (by omega), if_pos (by omega)]
          rfl
        · dsimp only
          unfold FO_M_lodger
          have r1 : ∀ i v, sI J 332 (24 + i) v 332 0 = J 332 0 := fun i v => by rw [sJ_at, pk_un (by omega)]
          have r2 : ∀ (Z : TI) i v, sI Z 332 (30 + i) v 332 0 = Z 332 0 := fun Z i v => by rw [sJ_at, pk_un (by omega)]
          simp (disch := omega) only [e1, l_0, l_1, l_2, l_3, l_4, l_5, l_6, l_7, l_8, l_9, l_10, l_11, l_12, l_13, l_15, l_24, l_30, l_36, l_42, l_51, l_60, l_66, l_71, l_77, l_90, l_99, l_100, l_101, l_300, l_557, l_431, l_1511, l_1541, l_9999, l_2724, l_681, l_255, nI_add, pk_mul, pk_sub, Nat.add_sub_cancel, nI_clamp, nI_leI, nI_ltI, nI_eq]
          rw [if_pos (by omega), if_pos (by omega), if_neg h6, if_pos (by omega)]
          simp (disch := omega) only [r1, e1, l_0, l_1, l_2, l_3, l_4, l_5, l_6, l_7, l_8, l_9, l_10, l_11, l_12, l_13, l_15, l_24, l_30, l_36, l_42, l_51, l_60, l_66, l_71, l_77, l_90, l_99, l_100, l_101, l_300, l_557, l_431, l_1511, l_1541, l_9999, l_2724, l_681, l_255, nI_add, pk_mul, pk_sub, Nat.add_sub_cancel, nI_clamp, nI_leI, nI_ltI, nI_eq]
          rw [if_pos (by omega)]
          simp (disch := omega) only [r2, r1, e1, l_0, l_1, l_2, l_3, l_4, l_5, l_6, l_7, l_8, l_9, l_10, l_11, l_12, l_13, l_15, l_24, l_30, l_36, l_42, l_51, l_60, l_66, l_71, l_77, l_90, l_99, l_100, l_101, l_300, l_557, l_431, l_1511, l_1541, l_9999, l_2724, l_681, l_255, nI_add, pk_mul, pk_sub, Nat.add_sub_cancel, nI_clamp, nI_leI, nI_ltI, nI_eq]
        · rw [aN_sI 0 rfl, aN_sI 128 rfl, aN_sI 127 rfl, sJ_at, sJ_at, sJ_at]
          exact SR.set_n0 s (by omega) e2 ⟨a, ha, rfl⟩ ⟨b, hb, rfl⟩
        · intro o ho; rw [sJ_ne (by omega), sJ_ne (by omega), sJ_ne (by omega)]
        · intro o ho; rw [sJ_ne ho, sJ_ne ho, sJ_ne ho]
    · refine now0 (L := L) (K := K) (-1) hR ?_ ?_
      · dsimp only; unfold FO_X_lodger; rw [if_pos c0, if_neg c1]
      · dsimp only; unfold FO_M_lodger; rw [if_pos c0, if_neg c1]
  · refine now0 (L := L) (K := K) (-1) hR ?_ ?_
    · dsimp only; unfold FO_X_lodger; rw [if_neg c0]
    · dsimp only; unfold FO_M_lodger; rw [if_neg c0]
theorem op_listen {T : TI → (Nat → Int32) → Prop} (fu : Nat) (p : Int32) : OpR T (fun I L => FO_X_listen fu p I L) (fun I L => FO_M_listen fu p I L) := by
  intro I J L K hR
  have s := hR.s
  obtain ⟨e, n, hn, e2⟩ := s.so
  have e2 : I 1 11 = nI n := e2
  have e1 : J 332 4 = nI n := e.trans e2
  by_cases c : p = -1
  · refine now1 (L := L) (K := K) (r := 0) (j := 0) (k := 11) (i := 4) (v := 0) (w := 0) hR (by omega) (by omega) ?_ ?_ (SR.zero_so s)
    · dsimp only; unfold FO_X_listen; rw [if_pos c]
    · dsimp only; unfold FO_M_listen; rw [if_pos c]
  · by_cases c0 : 0 ≤ p ∧ p ≤ 2
    · obtain ⟨a, ha, rfl⟩ := rng (hi := 2) (by omega) c0.1 c0.2
      by_cases h6 : n = 6
      · subst h6
        refine now0 (L := L) (K := K) (-2) hR ?_ ?_
        · dsimp only; unfold FO_X_listen; rw [if_neg c, if_pos c0, e2, if_neg (by decide)]
        · dsimp only; unfold FO_M_listen; rw [if_neg c, if_pos c0, e1, if_pos (show nI 6 = 6 from rfl)]
      · refine nowW (r := nI (n + 1)) (I' := sI (sI I 133 n (nI a)) 1 11 (nI (n + 1))) (J' := sI (sI J 332 (60 + n) (nI a)) 332 4 (nI (n + 1))) (L' := L) (K' := K) hR ?_ ?_ ?_ ?_ rfl ?_
        · dsimp only
          unfold FO_X_listen
          rw [if_neg c]
          simp (disch := omega) only [e2, l_0, l_1, l_2, l_3, l_4, l_5, l_6, l_7, l_8, l_9, l_10, l_11, l_12, l_13, l_15, l_24, l_30, l_36, l_42, l_51, l_60, l_66, l_71, l_77, l_90, l_99, l_100, l_101, l_300, l_557, l_431, l_1511, l_1541, l_9999, l_2724, l_681, l_255, nI_add, pk_mul, pk_sub, Nat.add_sub_cancel, nI_clamp, nI_leI, nI_ltI, nI_eq]
          rw [if_pos (by omega), if_pos (by omega), if_pos (by omega)]
        · dsimp only
          unfold FO_M_listen
          have r1 : ∀ i v, sI J 332 (60 + i) v 332 4 = J 332 4 := fun i v => by rw [sJ_at, pk_un (by omega)]
          rw [if_neg c]
          simp (disch := omega) only [e1, l_0, l_1, l_2, l_3, l_4, l_5, l_6, l_7, l_8, l_9, l_10, l_11, l_12, l_13, l_15, l_24, l_30, l_36, l_42, l_51, l_60, l_66, l_71, l_77, l_90, l_99, l_100, l_101, l_300, l_557, l_431, l_1511, l_1541, l_9999, l_2724, l_681, l_255, nI_add, pk_mul, pk_sub, Nat.add_sub_cancel, nI_clamp, nI_leI, nI_ltI, nI_eq]
          rw [if_pos (by omega), if_neg h6, if_pos (by omega)]
          simp (disch := omega) only [r1, e1, l_0, l_1, l_2, l_3, l_4, l_5, l_6, l_7, l_8, l_9, l_10, l_11, l_12, l_13, l_15, l_24, l_30, l_36, l_42, l_51, l_60, l_66, l_71, l_77, l_90, l_99, l_100, l_101, l_300, l_557, l_431, l_1511, l_1541, l_9999, l_2724, l_681, l_255, nI_add, pk_mul, pk_sub, Nat.add_sub_cancel, nI_clamp, nI_leI, nI_ltI, nI_eq]
        · rw [aN_sI 0 rfl, aN_sI 132 rfl, sJ_at, sJ_at]
          exact SR.set_li s (by omega) e2 ⟨a, ha, rfl⟩
        · intro o ho; rw [sJ_ne (by omega), sJ_ne (by omega)]
        · intro o ho; rw [sJ_ne ho, sJ_ne ho]
    · refine now0 (L := L) (K := K) (-2) hR ?_ ?_
      · dsimp only; unfold FO_X_listen; rw [if_neg c, if_neg c0]
      · dsimp only; unfold FO_M_listen; rw [if_neg c, if_neg c0]
theorem op_print {T : TI → (Nat → Int32) → Prop} (fu : Nat) (p q : Int32) : OpR T (fun I L => FO_X_print fu p q I L) (fun I L => FO_M_print fu p q I L) := by
  intro I J L K hR
  have s := hR.s
  rcases lodg s p with ⟨k, n, hk, hn, rfl, e1, e2, f1, f2⟩ | ⟨f1, f2⟩
  · by_cases c : q &&& (-8191) = 0
    · refine now1 (L := L) (K := K) (r := 1) (j := 129) (k := k) (i := 36 + k) (v := q) (w := q) hR (by omega) (by omega) ?_ ?_ (SR.set_pr s (by omega) (mask_ss c))
      · dsimp only
        unfold FO_X_print
        rw [f1, if_neg i10, if_pos c]
        simp (disch := omega) only [l_0, l_1, l_2, l_3, l_4, l_5, l_6, l_7, l_8, l_9, l_10, l_11, l_12, l_13, l_15, l_24, l_30, l_36, l_42, l_51, l_60, l_66, l_71, l_77, l_90, l_99, l_100, l_101, l_300, l_557, l_431, l_1511, l_1541, l_9999, l_2724, l_681, l_255, nI_add, pk_mul, pk_sub, Nat.add_sub_cancel, nI_clamp, nI_leI, nI_ltI, nI_eq]
        rw [if_pos (by omega)]
      · dsimp only
        unfold FO_M_print
        rw [f2, if_neg i10, if_pos c]
        simp (disch := omega) only [l_0, l_1, l_2, l_3, l_4, l_5, l_6, l_7, l_8, l_9, l_10, l_11, l_12, l_13, l_15, l_24, l_30, l_36, l_42, l_51, l_60, l_66, l_71, l_77, l_90, l_99, l_100, l_101, l_300, l_557, l_431, l_1511, l_1541, l_9999, l_2724, l_681, l_255, nI_add, pk_mul, pk_sub, Nat.add_sub_cancel, nI_clamp, nI_leI, nI_ltI, nI_eq]
        rw [if_pos (by omega)]
    · refine now0 (L := L) (K := K) 0 hR ?_ ?_
      · dsimp only; unfold FO_X_print; rw [f1, if_neg i10, if_neg c]
      · dsimp only; unfold FO_M_print; rw [f2, if_neg i10, if_neg c]
  · refine now0 (L := L) (K := K) 0 hR ?_ ?_
    · dsimp only; unfold FO_X_print; rw [f1, if_pos rfl]
    · dsimp only; unfold FO_M_print; rw [f2, if_pos rfl]
theorem op_said {T : TI → (Nat → Int32) → Prop} (fu : Nat) (p q w : Int32) : OpR T (fun I L => FO_X_said fu p q w I L) (fun I L => FO_M_said fu p q w I L) := by
  intro I J L K hR
  have s := hR.s
  obtain ⟨e, n, hn, e2⟩ := s.sa
  have e2 : I 1 16 = nI n := e2
  have e1 : J 332 6 = nI n := e.trans e2
  by_cases c : p = -1
  · refine now1 (L := L) (K := K) (r := 0) (j := 0) (k := 16) (i := 6) (v := 0) (w := 0) hR (by omega) (by omega) ?_ ?_ (SR.zero_sa s)
    · dsimp only; unfold FO_X_said; rw [if_pos c]
    · dsimp only; unfold FO_M_said; rw [if_pos c]
  · rcases lodg s p with ⟨k, m, hk, hm, rfl, g1, g2, f1, f2⟩ | ⟨f1, f2⟩
    · by_cases c1 : 1 ≤ q ∧ q ≤ 12
      · by_cases c2 : 0 ≤ w ∧ w ≤ 99
        · obtain ⟨b, hb1, hb, rfl⟩ := rng1 (hi := 12) (by omega) c1.1 c1.2
          obtain ⟨d, hd, rfl⟩ := rng (hi := 99) (by omega) c2.1 c2.2
          by_cases h8 : n = 8
          · subst h8
            refine now0 (L := L) (K := K) (-2) hR ?_ ?_
            · dsimp only; unfold FO_X_said; rw [if_neg c, f1, if_neg i10, if_pos c1, if_pos c2, e2, if_neg (by decide)]
            · dsimp only; unfold FO_M_said; rw [if_neg c, f2, if_neg i10, if_pos c1, if_pos c2, e1, if_pos (show nI 8 = 8 from rfl)]
          · refine nowW (r := nI (n + 1)) (I' := sI (sI (sI (sI I 136 (3 * n) (nI k)) 136 (3 * n + 1) (nI b)) 136 (3 * n + 2) (nI d)) 1 16 (nI (n + 1))) (J' := sI (sI (sI (sI J 332 (77 + 3 * n) (nI k)) 332 (78 + 3 * n) (nI b)) 332 (79 + 3 * n) (nI d)) 332 6 (nI (n + 1))) (L' := L) (K' := K) hR ?_ ?_ ?_ ?_ rfl ?_
            · dsimp only
              unfold FO_X_said
              rw [if_neg c, f1, if_neg i10]
              simp (disch := omega) only [e2, l_0, l_1, l_2, l_3, l_4, l_5, l_6, l_7, l_8, l_9, l_10, l_11, l_12, l_13, l_15, l_24, l_30, l_36, l_42, l_51, l_60, l_66, l_71, l_77, l_90, l_99, l_100, l_101, l_300, l_557, l_431, l_1511, l_1541, l_9999, l_2724, l_681, l_255, nI_add, pk_mul, pk_sub, Nat.add_sub_cancel, nI_clamp, nI_leI, nI_ltI, nI_eq]
              rw [if_pos (by omega), if_pos (by omega), if_pos (by omega), if_pos (by omega), if_pos (by omega), if_pos (by omega), Nat.mul_comm n 3]
            · dsimp only
              unfold FO_M_said
              have r1 : ∀ (Z : TI) i v, sI Z 332 (77 + i) v 332 6 = Z 332 6 := fun Z i v => by rw [sJ_at, pk_un (by omega)]
              rw [if_neg c, f2, if_neg i10]
              simp (disch := omega) only [e1, l_0, l_1, l_2, l_3, l_4, l_5, l_6, l_7, l_8, l_9, l_10, l_11, l_12, l_13, l_15, l_24, l_30, l_36, l_42, l_51, l_60, l_66, l_71, l_77, l_90, l_99, l_100, l_101, l_300, l_557, l_431, l_1511, l_1541, l_9999, l_2724, l_681, l_255, nI_add, pk_mul, pk_sub, Nat.add_sub_cancel, nI_clamp, nI_leI, nI_ltI, nI_eq]
              rw [if_pos (by omega), if_pos (by omega), if_neg h8, if_pos (by omega), if_pos (by omega), if_pos (by omega), show 77 + 3 * n + 1 = 78 + 3 * n by omega, show 77 + 3 * n + 2 = 79 + 3 * n by omega, sJ_at, sJ_at, sJ_at, pk_un (by omega), pk_un (by omega), pk_un (by omega), e1, nI_add]
            · rw [aN_sI 0 rfl, aN_sI 135 rfl, aN_sI 135 rfl, aN_sI 135 rfl, sJ_at, sJ_at, sJ_at, sJ_at]
              refine SR.set_sd s (by omega) e2 ⟨nI_pos' (by omega), ?_⟩ ⟨c1.1, b, hb, rfl⟩ ⟨d, hd, rfl⟩
              show nI k < I 1 2
              rw [g1]
              exact nI_lt hk (by omega)
            · intro o ho; rw [sJ_ne (by omega), sJ_ne (by omega), sJ_ne (by omega), sJ_ne (by omega)]
            · intro o ho; rw [sJ_ne ho, sJ_ne ho, sJ_ne ho, sJ_ne ho]
        · refine now0 (L := L) (K := K) (-2) hR ?_ ?_
          · dsimp only; unfold FO_X_said; rw [if_neg c, f1, if_neg i10, if_pos c1, if_neg c2]
          · dsimp only; unfold FO_M_said; rw [if_neg c, f2, if_neg i10, if_pos c1, if_neg c2]
      · refine now0 (L := L) (K := K) (-2) hR ?_ ?_
        · dsimp only; unfold FO_X_said; rw [if_neg c, f1, if_neg i10, if_neg c1]
        · dsimp only; unfold FO_M_said; rw [if_neg c, f2, if_neg i10, if_neg c1]
    · refine now0 (L := L) (K := K) (-2) hR ?_ ?_
      · dsimp only; unfold FO_X_said; rw [if_neg c, f1, if_pos rfl]
      · dsimp only; unfold FO_M_said; rw [if_neg c, f2, if_pos rfl]
