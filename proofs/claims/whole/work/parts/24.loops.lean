/-! pairs of calls whose loops run side by side -/
theorem SR.f_we {I J : TI} (s : SR (aN I) (J 332)) : ∀ k, k < 6 → J 332 (24 + k) = I 128 k := fun k hk => (s.we k hk).1
theorem SR.f_fl {I J : TI} (s : SR (aN I) (J 332)) : ∀ k, k < 6 → J 332 (30 + k) = I 129 k := fun k hk => (s.fl k hk).1
theorem SR.f_pr {I J : TI} (s : SR (aN I) (J 332)) : ∀ k, k < 6 → J 332 (36 + k) = I 130 k := fun k hk => (s.pr k hk).1
theorem SR.f_pl {I J : TI} (s : SR (aN I) (J 332)) : ∀ k, k < 6 → J 332 (12 + 2 * k) = I 3 k := fun k hk => (s.ho.2.2.1 k hk).1
theorem SR.f_tr {I J : TI} (s : SR (aN I) (J 332)) : ∀ k, k < 6 → J 332 (13 + 2 * k) = I 4 k := fun k hk => (s.ho.2.2.1 k hk).2
theorem SR.f_ch {I J : TI} (s : SR (aN I) (J 332)) : ∀ k, k < 9 → J 332 (42 + k) = I 131 k := fun k hk => (s.ch k hk).1
theorem SR.f_sn {I J : TI} (s : SR (aN I) (J 332)) : ∀ k, k < 9 → J 332 (51 + k) = I 132 k := fun k hk => (s.sn k hk).1
theorem SR.f_li {I J : TI} (s : SR (aN I) (J 332)) : ∀ k, k < 6 → J 332 (60 + k) = I 133 k := fun k hk => (s.li k hk).1
theorem SR.f_he {I J : TI} (s : SR (aN I) (J 332)) : ∀ k, k < 6 → J 332 (71 + k) = I 135 k := fun k hk => (s.he k hk).1
theorem lk_home {fu : Nat} {I J : TI} {L K : TL} (s : SR (aN I) (J 332)) {n : Nat} (hn : n ≤ 6) (t1 : F_X_tenants I = nI n) (t2 : J 332 0 = nI n) : ∀ (j k f g : Nat) (a : Int32), k + j = n → j < f → j < g → ∃ r, LO_X_home_4 fu f a (nI k) I L = some (r, I, L) ∧ LO_M_home_4 fu g a (nI k) J K = some (r, J, K) := by
  intro j
  induction j with
  | zero =>
    intro k f g a hk hf hg
    obtain ⟨f, rfl⟩ : ∃ z, f = z + 1 := ⟨f - 1, by omega⟩
    obtain ⟨g, rfl⟩ : ∃ z, g = z + 1 := ⟨g - 1, by omega⟩
    have hk : k = n := by omega
    subst hk
    refine ⟨a, ?_, ?_⟩
    · rw [LO_X_home_4, t1, if_pos (Int32.le_refl _)]
    · rw [LO_M_home_4, t2, if_pos (Int32.le_refl _)]
  | succ j ih =>
    intro k f g a hk hf hg
    obtain ⟨f, rfl⟩ : ∃ z, f = z + 1 := ⟨f - 1, by omega⟩
    obtain ⟨g, rfl⟩ : ∃ z, g = z + 1 := ⟨g - 1, by omega⟩
    rw [LO_X_home_4, LO_M_home_4]
    simp (disch := omega) only [l_0, l_1, l_2, l_3, l_4, l_5, l_6, l_7, l_8, l_9, l_10, l_11, l_12, l_13, l_15, l_24, l_30, l_36, l_42, l_51, l_60, l_66, l_71, l_77, l_90, l_99, l_100, l_101, l_300, l_557, l_431, l_1511, l_1541, l_9999, l_2724, l_681, l_255, nI_add, pk_mul, pk_sub, Nat.add_sub_cancel, nI_clamp, nI_leI, nI_ltI, nI_eq, if_pos, if_neg, if_true, if_false, Option.bind_some, t1, t2, m_place, s.f_pl, s.f_fl]
    by_cases h : I 3 k = I 129 k
    · rw [if_pos h, if_pos h]
      exact ih (k + 1) f g _ (by omega) (by omega) (by omega)
    · rw [if_neg h, if_neg h, nI_0, Int32.or_zero]
      exact ih (k + 1) f g _ (by omega) (by omega) (by omega)
theorem op_home {T : TI → (Nat → Int32) → Prop} {fu : Nat} (hfu : 100 ≤ fu) : OpR T (fun I L => FO_X_home fu  I L) (fun I L => FO_M_home fu  I L) := by
  refine OpR_q (fun I J L K hR => ?_)
  have s := hR.s
  obtain ⟨n, hn, e1, e2, t1⟩ := ten s
  exact lk_home (n := n) s hn t1 e2 n 0 fu fu 0 (by omega) (by omega) (by omega)
theorem lk_shared {fu : Nat} {I J : TI} {L K : TL} (s : SR (aN I) (J 332)) {n : Nat} (hn : n ≤ 6) (t1 : F_X_tenants I = nI n) (t2 : J 332 0 = nI n) : ∀ (j k f g : Nat) (a : Int32), k + j = n → j < f → j < g → ∃ r, LO_X_shared_20 fu f a (nI k) I L = some (r, I, L) ∧ LO_M_shared_19 fu g a (nI k) J K = some (r, J, K) := by
  intro j
  induction j with
  | zero =>
    intro k f g a hk hf hg
    obtain ⟨f, rfl⟩ : ∃ z, f = z + 1 := ⟨f - 1, by omega⟩
    obtain ⟨g, rfl⟩ : ∃ z, g = z + 1 := ⟨g - 1, by omega⟩
    have hk : k = n := by omega
    subst hk
    refine ⟨a, ?_, ?_⟩
    · rw [LO_X_shared_20, t1, if_pos (Int32.le_refl _)]
    · rw [LO_M_shared_19, t2, if_pos (Int32.le_refl _)]
  | succ j ih =>
    intro k f g a hk hf hg
    obtain ⟨f, rfl⟩ : ∃ z, f = z + 1 := ⟨f - 1, by omega⟩
    obtain ⟨g, rfl⟩ : ∃ z, g = z + 1 := ⟨g - 1, by omega⟩
    rw [LO_X_shared_20, LO_M_shared_19]
    simp (disch := omega) only [l_0, l_1, l_2, l_3, l_4, l_5, l_6, l_7, l_8, l_9, l_10, l_11, l_12, l_13, l_15, l_24, l_30, l_36, l_42, l_51, l_60, l_66, l_71, l_77, l_90, l_99, l_100, l_101, l_300, l_557, l_431, l_1511, l_1541, l_9999, l_2724, l_681, l_255, nI_add, pk_mul, pk_sub, Nat.add_sub_cancel, nI_clamp, nI_leI, nI_ltI, nI_eq, if_pos, if_neg, if_true, if_false, Option.bind_some, t1, t2, s.f_pr]
    exact ih (k + 1) f g _ (by omega) (by omega) (by omega)
theorem op_shared {T : TI → (Nat → Int32) → Prop} {fu : Nat} (hfu : 100 ≤ fu) : OpR T (fun I L => FO_X_shared fu  I L) (fun I L => FO_M_shared fu  I L) := by
  refine OpR_q (fun I J L K hR => ?_)
  have s := hR.s
  obtain ⟨n, hn, e1, e2, t1⟩ := ten s
  unfold FO_X_shared FO_M_shared
  rw [e1, e2]
  by_cases h : n = 0
  · subst h
    rw [if_pos (by decide), if_pos (by decide)]
    exact lk_shared (n := 0) s hn t1 e2 0 0 fu fu 0 (by omega) (by omega) (by omega)
  · rw [if_neg (nI_nle (by omega) (by omega)), if_neg (nI_ne0 (by omega) (by omega))]
    exact lk_shared (n := n) s hn t1 e2 n 0 fu fu 8190 (by omega) (by omega) (by omega)
theorem and_not_or (x y z : Int32) : x &&& ((y ||| z) ^^^ (-1)) = (x &&& (y ^^^ (-1))) &&& (z ^^^ (-1)) := by
  apply Int32.toBitVec_inj.mp
  show x.toBitVec &&& ((y.toBitVec ||| z.toBitVec) ^^^ (-1 : Int32).toBitVec) = (x.toBitVec &&& (y.toBitVec ^^^ (-1 : Int32).toBitVec)) &&& (z.toBitVec ^^^ (-1 : Int32).toBitVec)
  rw [show (-1 : Int32).toBitVec = BitVec.allOnes 32 from by decide]
  ext i hi
  simp only [BitVec.getElem_and, BitVec.getElem_or, BitVec.getElem_xor, BitVec.getElem_allOnes]
  cases x.toBitVec[i] <;> cases y.toBitVec[i] <;> cases z.toBitVec[i] <;> rfl
theorem lk_alone {fu : Nat} {I J : TI} {L K : TL} (s : SR (aN I) (J 332)) {n : Nat} (hn : n ≤ 6) (t1 : F_X_tenants I = nI n) (t2 : J 332 0 = nI n) {q : Nat} (hq : q < 6) : ∀ (j k f g : Nat) (a : Int32), k + j = n → j < f → j < g → ∃ r, LO_X_alone_14 fu f (nI q) a (nI k) I L = some (r, I, L) ∧ LO_M_alone_22 fu g (nI q) (I 130 q &&& (a ^^^ (-1))) (nI k) J K = some (r, J, K) := by
  intro j
  induction j with
  | zero =>
    intro k f g a hk hf hg
    obtain ⟨f, rfl⟩ : ∃ z, f = z + 1 := ⟨f - 1, by omega⟩
    obtain ⟨g, rfl⟩ : ∃ z, g = z + 1 := ⟨g - 1, by omega⟩
    have hk : k = n := by omega
    subst hk
    refine ⟨I 130 q &&& (a ^^^ (-1)), ?_, ?_⟩
    · rw [LO_X_alone_14, t1, if_pos (Int32.le_refl _)]
      simp (disch := omega) only [l_0, l_1, l_2, l_3, l_4, l_5, l_6, l_7, l_8, l_9, l_10, l_11, l_12, l_13, l_15, l_24, l_30, l_36, l_42, l_51, l_60, l_66, l_71, l_77, l_90, l_99, l_100, l_101, l_300, l_557, l_431, l_1511, l_1541, l_9999, l_2724, l_681, l_255, nI_add, pk_mul, pk_sub, Nat.add_sub_cancel, nI_clamp, nI_leI, nI_ltI, nI_eq, if_pos, if_neg, if_true, if_false, Option.bind_some, t1, t2, s.f_pr]
    · rw [LO_M_alone_22, t2, if_pos (Int32.le_refl _)]
  | succ j ih =>
    intro k f g a hk hf hg
    obtain ⟨f, rfl⟩ : ∃ z, f = z + 1 := ⟨f - 1, by omega⟩
    obtain ⟨g, rfl⟩ : ∃ z, g = z + 1 := ⟨g - 1, by omega⟩
    rw [LO_X_alone_14, LO_M_alone_22]
    simp (disch := omega) only [l_0, l_1, l_2, l_3, l_4, l_5, l_6, l_7, l_8, l_9, l_10, l_11, l_12, l_13, l_15, l_24, l_30, l_36, l_42, l_51, l_60, l_66, l_71, l_77, l_90, l_99, l_100, l_101, l_300, l_557, l_431, l_1511, l_1541, l_9999, l_2724, l_681, l_255, nI_add, pk_mul, pk_sub, Nat.add_sub_cancel, nI_clamp, nI_leI, nI_ltI, nI_eq, if_pos, if_neg, if_true, if_false, Option.bind_some, t1, t2, s.f_pr]
    by_cases h : k = q
    · rw [if_pos h, if_pos h, Int32.and_self]
      exact ih (k + 1) f g _ (by omega) (by omega) (by omega)
    · rw [if_neg h, if_neg h, show (-nI 1 : Int32) = -1 from rfl, ← and_not_or]
      exact ih (k + 1) f g _ (by omega) (by omega) (by omega)
theorem op_alone {T : TI → (Nat → Int32) → Prop} {fu : Nat} (hfu : 100 ≤ fu) (p : Int32) : OpR T (fun I L => FO_X_alone fu p I L) (fun I L => FO_M_alone fu p I L) := by
  refine OpR_q (fun I J L K hR => ?_)
  have s := hR.s
  obtain ⟨n, hn, e1, e2, t1⟩ := ten s
  unfold FO_X_alone FO_M_alone
  rcases lodg s p with ⟨k, m, hk, hm, rfl, g1, g2, f1, f2⟩ | ⟨f1, f2⟩
  · rw [f1, f2, if_neg i10, if_neg i10]
    obtain ⟨r, r1, r2⟩ := lk_alone (fu := fu) (L := L) (K := K) (n := n) (q := k) s hn t1 e2 (by omega) n 0 fu fu 0 (by omega) (by omega) (by omega)
    refine ⟨r, r1, ?_⟩
    rw [show I 130 k &&& ((0 : Int32) ^^^ (-1)) = I 130 k from by simp] at r2
    simp (disch := omega) only [l_0, l_1, l_2, l_3, l_4, l_5, l_6, l_7, l_8, l_9, l_10, l_11, l_12, l_13, l_15, l_24, l_30, l_36, l_42, l_51, l_60, l_66, l_71, l_77, l_90, l_99, l_100, l_101, l_300, l_557, l_431, l_1511, l_1541, l_9999, l_2724, l_681, l_255, nI_add, pk_mul, pk_sub, Nat.add_sub_cancel, nI_clamp, nI_leI, nI_ltI, nI_eq, if_pos, s.f_pr]
    exact r2
  · rw [f1, f2, if_pos rfl, if_pos rfl]; exact ⟨_, rfl, rfl⟩
theorem lk_highest {fu : Nat} {I J : TI} {L K : TL} (s : SR (aN I) (J 332)) {n : Nat} (hn : n ≤ 6) (t1 : F_X_tenants I = nI n) (t2 : J 332 0 = nI n) : ∀ (j k f g : Nat) (a : Int32) (b : Int32), k + j = n → j < f → j < g → ((a = 0 ∧ b = -1) ∨ ∃ q, q < 6 ∧ b = nI q ∧ a = I 3 q) → ∃ r, LO_X_mostOf_3_7 fu f a b (nI k) I L = some (r, I, L) ∧ LO_M_highest_4 fu g b (nI k) J K = some (r, J, K) := by
  intro j
  induction j with
  | zero =>
    intro k f g a b hk hf hg hi
    obtain ⟨f, rfl⟩ : ∃ z, f = z + 1 := ⟨f - 1, by omega⟩
    obtain ⟨g, rfl⟩ : ∃ z, g = z + 1 := ⟨g - 1, by omega⟩
    have hk : k = n := by omega
    subst hk
    refine ⟨b, ?_, ?_⟩
    · rw [LO_X_mostOf_3_7, t1, if_pos (Int32.le_refl _)]
    · rw [LO_M_highest_4, t2, if_pos (Int32.le_refl _)]
  | succ j ih =>
    intro k f g a b hk hf hg hi
    obtain ⟨f, rfl⟩ : ∃ z, f = z + 1 := ⟨f - 1, by omega⟩
    obtain ⟨g, rfl⟩ : ∃ z, g = z + 1 := ⟨g - 1, by omega⟩
    have hn1 : ∀ z : Nat, z < 6 → ¬ nI z = -nI 1 := by decide
    rw [LO_X_mostOf_3_7, LO_M_highest_4]
    rcases hi with ⟨rfl, rfl⟩ | ⟨q, hq, rfl, rfl⟩
    · simp (disch := omega) only [l_0, l_1, l_2, l_3, l_4, l_5, l_6, l_7, l_8, l_9, l_10, l_11, l_12, l_13, l_15, l_24, l_30, l_36, l_42, l_51, l_60, l_66, l_71, l_77, l_90, l_99, l_100, l_101, l_300, l_557, l_431, l_1511, l_1541, l_9999, l_2724, l_681, l_255, nI_add, pk_mul, pk_sub, Nat.add_sub_cancel, nI_clamp, nI_leI, nI_ltI, nI_eq, if_pos, if_neg, if_true, if_false, Option.bind_some, t1, t2, m_place, s.f_pl]
      by_cases h : I 3 k ≤ nI 0
      · rw [if_pos h, if_pos h]
        exact ih (k + 1) f g _ _ (by omega) (by omega) (by omega) (Or.inl ⟨rfl, rfl⟩)
      · rw [if_neg h, if_neg h]
        exact ih (k + 1) f g _ _ (by omega) (by omega) (by omega) (Or.inr ⟨k, by omega, rfl, rfl⟩)
    · simp (disch := omega) only [l_0, l_1, l_2, l_3, l_4, l_5, l_6, l_7, l_8, l_9, l_10, l_11, l_12, l_13, l_15, l_24, l_30, l_36, l_42, l_51, l_60, l_66, l_71, l_77, l_90, l_99, l_100, l_101, l_300, l_557, l_431, l_1511, l_1541, l_9999, l_2724, l_681, l_255, nI_add, pk_mul, pk_sub, Nat.add_sub_cancel, nI_clamp, nI_leI, nI_ltI, nI_eq, if_pos, if_neg, if_true, if_false, Option.bind_some, t1, t2, m_place, s.f_pl]
      rw [if_neg (hn1 q hq)]
      by_cases h : I 3 k ≤ I 3 q
      · rw [if_pos h, if_pos h]
        exact ih (k + 1) f g _ _ (by omega) (by omega) (by omega) (Or.inr ⟨q, hq, rfl, rfl⟩)
      · rw [if_neg h, if_neg h]
        exact ih (k + 1) f g _ _ (by omega) (by omega) (by omega) (Or.inr ⟨k, by omega, rfl, rfl⟩)
theorem op_highest {T : TI → (Nat → Int32) → Prop} {fu : Nat} (hfu : 100 ≤ fu) : OpR T (fun I L => FO_X_highest fu  I L) (fun I L => FO_M_highest fu  I L) := by
  refine OpR_q (fun I J L K hR => ?_)
  have s := hR.s
  obtain ⟨n, hn, e1, e2, t1⟩ := ten s
  unfold FO_X_highest FO_M_highest FO_X_mostOf_3
  obtain ⟨r, r1, r2⟩ := lk_highest (fu := fu) (L := L) (K := K) (n := n) s hn t1 e2 n 0 fu fu 0 (-1) (by omega) (by omega) (by omega) (Or.inl ⟨rfl, rfl⟩)
  rw [show (0 : Int32) = nI 0 from rfl]
  exact ⟨r, by rw [show LO_X_mostOf_3_7 fu fu (nI 0) (-1) (nI 0) I L = _ from r1]; rfl, r2⟩
theorem lk_restless {fu : Nat} {I J : TI} {L K : TL} (s : SR (aN I) (J 332)) {n : Nat} (hn : n ≤ 6) (t1 : F_X_tenants I = nI n) (t2 : J 332 0 = nI n) : ∀ (j k f g : Nat) (a : Int32) (b : Int32), k + j = n → j < f → j < g → ((a = 0 ∧ b = -1) ∨ ∃ q, q < 6 ∧ b = nI q ∧ a = I 4 q) → ∃ r, LO_X_mostOf_4_7 fu f a b (nI k) I L = some (r, I, L) ∧ LO_M_restless_4 fu g b (nI k) J K = some (r, J, K) := by
  intro j
  induction j with
  | zero =>
    intro k f g a b hk hf hg hi
    obtain ⟨f, rfl⟩ : ∃ z, f = z + 1 := ⟨f - 1, by omega⟩
    obtain ⟨g, rfl⟩ : ∃ z, g = z + 1 := ⟨g - 1, by omega⟩
    have hk : k = n := by omega
    subst hk
    refine ⟨b, ?_, ?_⟩
    · rw [LO_X_mostOf_4_7, t1, if_pos (Int32.le_refl _)]
    · rw [LO_M_restless_4, t2, if_pos (Int32.le_refl _)]
  | succ j ih =>
    intro k f g a b hk hf hg hi
    obtain ⟨f, rfl⟩ : ∃ z, f = z + 1 := ⟨f - 1, by omega⟩
    obtain ⟨g, rfl⟩ : ∃ z, g = z + 1 := ⟨g - 1, by omega⟩
    have hn1 : ∀ z : Nat, z < 6 → ¬ nI z = -nI 1 := by decide
    rw [LO_X_mostOf_4_7, LO_M_restless_4]
    rcases hi with ⟨rfl, rfl⟩ | ⟨q, hq, rfl, rfl⟩
    · simp (disch := omega) only [l_0, l_1, l_2, l_3, l_4, l_5, l_6, l_7, l_8, l_9, l_10, l_11, l_12, l_13, l_15, l_24, l_30, l_36, l_42, l_51, l_60, l_66, l_71, l_77, l_90, l_99, l_100, l_101, l_300, l_557, l_431, l_1511, l_1541, l_9999, l_2724, l_681, l_255, nI_add, pk_mul, pk_sub, Nat.add_sub_cancel, nI_clamp, nI_leI, nI_ltI, nI_eq, if_pos, if_neg, if_true, if_false, Option.bind_some, t1, t2, m_trod, s.f_tr]
      by_cases h : I 4 k ≤ nI 0
      · rw [if_pos h, if_pos h]
        exact ih (k + 1) f g _ _ (by omega) (by omega) (by omega) (Or.inl ⟨rfl, rfl⟩)
      · rw [if_neg h, if_neg h]
        exact ih (k + 1) f g _ _ (by omega) (by omega) (by omega) (Or.inr ⟨k, by omega, rfl, rfl⟩)
    · simp (disch := omega) only [l_0, l_1, l_2, l_3, l_4, l_5, l_6, l_7, l_8, l_9, l_10, l_11, l_12, l_13, l_15, l_24, l_30, l_36, l_42, l_51, l_60, l_66, l_71, l_77, l_90, l_99, l_100, l_101, l_300, l_557, l_431, l_1511, l_1541, l_9999, l_2724, l_681, l_255, nI_add, pk_mul, pk_sub, Nat.add_sub_cancel, nI_clamp, nI_leI, nI_ltI, nI_eq, if_pos, if_neg, if_true, if_false, Option.bind_some, t1, t2, m_trod, s.f_tr]
      rw [if_neg (hn1 q hq)]
      by_cases h : I 4 k ≤ I 4 q
      · rw [if_pos h, if_pos h]
        exact ih (k + 1) f g _ _ (by omega) (by omega) (by omega) (Or.inr ⟨q, hq, rfl, rfl⟩)
      · rw [if_neg h, if_neg h]
        exact ih (k + 1) f g _ _ (by omega) (by omega) (by omega) (Or.inr ⟨k, by omega, rfl, rfl⟩)
theorem op_restless {T : TI → (Nat → Int32) → Prop} {fu : Nat} (hfu : 100 ≤ fu) : OpR T (fun I L => FO_X_restless fu  I L) (fun I L => FO_M_restless fu  I L) := by
  refine OpR_q (fun I J L K hR => ?_)
  have s := hR.s
  obtain ⟨n, hn, e1, e2, t1⟩ := ten s
  unfold FO_X_restless FO_M_restless FO_X_mostOf_4
  obtain ⟨r, r1, r2⟩ := lk_restless (fu := fu) (L := L) (K := K) (n := n) s hn t1 e2 n 0 fu fu 0 (-1) (by omega) (by omega) (by omega) (Or.inl ⟨rfl, rfl⟩)
  rw [show (0 : Int32) = nI 0 from rfl]
  exact ⟨r, by rw [show LO_X_mostOf_4_7 fu fu (nI 0) (-1) (nI 0) I L = _ from r1]; rfl, r2⟩
def hcp (c p : Int32) : Int32 := if 1 ≤ p ∧ p ≤ 12 then (if (c >>> (p &&& 31)) &&& 1 = 1 then 1 else 0) else 0
theorem x_cup {fu : Nat} {p : Int32} {I : TI} {L : TL} : FO_X_hasCup fu p I L = some (hcp (I 2 3) p, I, L) := by
  unfold FO_X_hasCup hcp
  split
  · split <;> rfl
  · rfl
theorem m_cup {fu : Nat} {p : Int32} {J : TI} {K : TL} : FO_M_hasCup fu p J K = some (hcp (J 332 10) p, J, K) := by
  unfold FO_M_hasCup FO_M_has hcp
  split
  · split <;> rfl
  · rfl
theorem hcp_01 (c p : Int32) : hcp c p = 0 ∨ hcp c p = 1 := by
  unfold hcp
  split
  · split
    · exact Or.inr rfl
    · exact Or.inl rfl
  · exact Or.inl rfl
theorem SR.f_cu {I J : TI} (s : SR (aN I) (J 332)) : J 332 10 = I 2 3 := s.ho.2.1 3 (by omega)
theorem jmax (I : TI) (a b : Int32) : F_J_max I a b = if b ≤ a then a else b := by
  unfold F_J_max
  grind
theorem lk_cupRow {fu : Nat} {I J : TI} {L K : TL} (s : SR (aN I) (J 332))  : ∀ (j k f g : Nat) (a : Int32) (b : Int32), k + j = 13 → j < f → j < g → ∃ r, LO_X_cupRow_6 fu f a b (nI k) I L = some (r, I, L) ∧ LO_M_cupRow_6 fu g a b (nI k) J K = some (r, J, K) := by
  intro j
  induction j with
  | zero =>
    intro k f g a b hk hf hg
    obtain ⟨f, rfl⟩ : ∃ z, f = z + 1 := ⟨f - 1, by omega⟩
    obtain ⟨g, rfl⟩ : ∃ z, g = z + 1 := ⟨g - 1, by omega⟩
    have hk : k = 13 := by omega
    subst hk
    refine ⟨a, ?_, ?_⟩
    · rw [LO_X_cupRow_6, if_pos (by decide)]
    · rw [LO_M_cupRow_6, if_pos (by decide)]
  | succ j ih =>
    intro k f g a b hk hf hg
    obtain ⟨f, rfl⟩ : ∃ z, f = z + 1 := ⟨f - 1, by omega⟩
    obtain ⟨g, rfl⟩ : ∃ z, g = z + 1 := ⟨g - 1, by omega⟩
    rw [LO_X_cupRow_6, LO_M_cupRow_6]
    rw [x_cup, m_cup, s.f_cu]
    simp (disch := omega) only [l_0, l_1, l_2, l_3, l_4, l_5, l_6, l_7, l_8, l_9, l_10, l_11, l_12, l_13, l_15, l_24, l_30, l_36, l_42, l_51, l_60, l_66, l_71, l_77, l_90, l_99, l_100, l_101, l_300, l_557, l_431, l_1511, l_1541, l_9999, l_2724, l_681, l_255, nI_add, pk_mul, pk_sub, Nat.add_sub_cancel, nI_clamp, nI_leI, nI_ltI, nI_eq, if_neg, Option.bind_some, jmax]
    rcases hcp_01 (I 2 3) (nI k) with h | h
    · rw [h, if_pos (show (0 : Int32) = nI 0 from rfl), if_pos (show (0 : Int32) = nI 0 from rfl)]
      by_cases h2 : nI 0 ≤ a
      · rw [if_pos h2, if_pos h2]
        exact ih (k + 1) f g _ _ (by omega) (by omega) (by omega)
      · rw [if_neg h2, if_neg h2]
        exact ih (k + 1) f g _ _ (by omega) (by omega) (by omega)
    · rw [h, if_neg (show ¬ (1 : Int32) = nI 0 by decide), if_neg (show ¬ (1 : Int32) = nI 0 by decide)]
      by_cases h2 : b + nI 1 ≤ a
      · rw [if_pos h2, if_pos h2]
        exact ih (k + 1) f g _ _ (by omega) (by omega) (by omega)
      · rw [if_neg h2, if_neg h2]
        exact ih (k + 1) f g _ _ (by omega) (by omega) (by omega)
theorem op_cupRow {T : TI → (Nat → Int32) → Prop} {fu : Nat} (hfu : 100 ≤ fu) : OpR T (fun I L => FO_X_cupRow fu  I L) (fun I L => FO_M_cupRow fu  I L) := by
  refine OpR_q (fun I J L K hR => ?_)
  have s := hR.s
  exact lk_cupRow s 12 1 fu fu 0 0 (by omega) (by omega) (by omega)
theorem m_entry {fu k : Nat} {I J : TI} {K : TL} (s : SR (aN I) (J 332)) (hk : k < 30) : FO_M_entry fu (nI k) (nI 0) J K = some (I 5 (3 * k), J, K) ∧ FO_M_entry fu (nI k) (nI 1) J K = some (I 5 (3 * k + 1), J, K) ∧ FO_M_entry fu (nI k) (nI 2) J K = some (I 5 (3 * k + 2), J, K) := by
  have e : J 332 (1511 + k) = (I 5 (3 * k) * 13 + I 5 (3 * k + 1)) * 100 + I 5 (3 * k + 2) := s.ho.2.2.2 k hk
  obtain ⟨⟨a, ha, ea⟩, ⟨b, hb, eb⟩, ⟨c, hc, ec⟩⟩ := s.ho.1.2.2.2.2.2.2 k hk
  have ea : I 5 (3 * k) = nI a := ea
  have eb : I 5 (3 * k + 1) = nI b := eb
  have ec : I 5 (3 * k + 2) = nI c := ec
  have e2 : J 332 (1511 + k) = nI ((a * 13 + b) * 100 + c) := by
    rw [e, ea, eb, ec]
    simp only [l_13, l_100, pk_mul, nI_add]
  unfold FO_M_entry iR
  simp (disch := omega) only [l_0, l_1, l_2, l_3, l_4, l_5, l_6, l_7, l_8, l_9, l_10, l_11, l_12, l_13, l_15, l_24, l_30, l_36, l_42, l_51, l_60, l_66, l_71, l_77, l_90, l_99, l_100, l_101, l_300, l_557, l_431, l_1511, l_1541, l_9999, l_2724, l_681, l_255, nI_add, pk_mul, pk_sub, Nat.add_sub_cancel, nI_clamp, nI_leI, nI_ltI, nI_eq, if_pos, if_neg, e2, ea, eb, ec, show (1300 : Int32) = nI 1300 from rfl, pk_div]
  exact ⟨congrArg (fun z => some (nI z, J, K)) (by omega), congrArg (fun z => some (nI z, J, K)) (by omega), congrArg (fun z => some (nI z, J, K)) (by omega)⟩
theorem SR.f_ln {I J : TI} (s : SR (aN I) (J 332)) : ∃ n : Nat, n ≤ 30 ∧ I 2 4 = nI n ∧ J 332 11 = nI n := by
  obtain ⟨n, hn, e⟩ := s.ho.1.2.2.2.2.1
  exact ⟨n, hn, e, (s.ho.2.1 4 (by omega)).trans e⟩
theorem lk_pause {fu : Nat} {I J : TI} {L K : TL} (s : SR (aN I) (J 332)) {n : Nat} (hn : n ≤ 30) (t1 : I 2 4 = nI n) (t2 : J 332 11 = nI n) : ∀ (j k f g : Nat) (a : Int32), k + j = n → j < f → j < g → 1 ≤ k → ∃ r, LO_X_pause_12 fu f a (nI k) I L = some (r, I, L) ∧ LO_M_pause_4 fu g a (nI k) J K = some (r, J, K) := by
  intro j
  induction j with
  | zero =>
    intro k f g a hk hf hg hi
    obtain ⟨f, rfl⟩ : ∃ z, f = z + 1 := ⟨f - 1, by omega⟩
    obtain ⟨g, rfl⟩ : ∃ z, g = z + 1 := ⟨g - 1, by omega⟩
    have hk : k = n := by omega
    subst hk
    refine ⟨a, ?_, ?_⟩
    · rw [LO_X_pause_12, t1, if_pos (Int32.le_refl _)]
    · rw [LO_M_pause_4, t2, if_pos (Int32.le_refl _)]
  | succ j ih =>
    intro k f g a hk hf hg hi
    obtain ⟨f, rfl⟩ : ∃ z, f = z + 1 := ⟨f - 1, by omega⟩
    obtain ⟨g, rfl⟩ : ∃ z, g = z + 1 := ⟨g - 1, by omega⟩
    rw [LO_X_pause_12, LO_M_pause_4]
    simp (disch := omega) only [l_0, l_1, l_2, l_3, l_4, l_5, l_6, l_7, l_8, l_9, l_10, l_11, l_12, l_13, l_15, l_24, l_30, l_36, l_42, l_51, l_60, l_66, l_71, l_77, l_90, l_99, l_100, l_101, l_300, l_557, l_431, l_1511, l_1541, l_9999, l_2724, l_681, l_255, nI_add, pk_mul, pk_sub, Nat.add_sub_cancel, nI_clamp, nI_leI, nI_ltI, nI_eq, if_neg, if_pos, Option.bind_some, t1, t2, (m_entry s (show k < 30 by omega)).1, (m_entry s (show k - 1 < 30 by omega)).1, jmax]
    rw [Nat.mul_comm k 3, Nat.mul_comm (k - 1) 3]
    by_cases h2 : I 5 (3 * k) - I 5 (3 * (k - 1)) ≤ a
    · rw [if_pos h2, if_pos h2]
      exact ih (k + 1) f g _ (by omega) (by omega) (by omega) (by omega)
    · rw [if_neg h2, if_neg h2]
      exact ih (k + 1) f g _ (by omega) (by omega) (by omega) (by omega)
theorem op_pause {T : TI → (Nat → Int32) → Prop} {fu : Nat} (hfu : 100 ≤ fu) : OpR T (fun I L => FO_X_pause fu  I L) (fun I L => FO_M_pause fu  I L) := by
  refine OpR_q (fun I J L K hR => ?_)
  have s := hR.s
  obtain ⟨n, hn, t1, t2⟩ := s.f_ln
  by_cases h : n = 0
  · subst h
    refine ⟨-1, ?_, ?_⟩
    · show LO_X_pause_12 fu fu (-1) 1 I L = _
      obtain ⟨f, rfl⟩ : ∃ z, fu = z + 1 := ⟨fu - 1, by omega⟩
      rw [LO_X_pause_12, t1, if_pos (by decide)]
    · show LO_M_pause_4 fu fu (-1) 1 J K = _
      obtain ⟨f, rfl⟩ : ∃ z, fu = z + 1 := ⟨fu - 1, by omega⟩
      rw [LO_M_pause_4, t2, if_pos (by decide)]
  · exact lk_pause (n := n) s hn t1 t2 (n - 1) 1 fu fu (-1) (by omega) (by omega) (by omega) (by omega)
theorem lk_ledger {fu : Nat} {I J : TI} {L K : TL} (s : SR (aN I) (J 332)) {n : Nat} (hn : n ≤ 30) (t1 : I 2 4 = nI n) (t2 : J 332 11 = nI n) {p : Int32} : ∀ (j k f g : Nat) (a : Int32), k + j = n → j < f → j < g → ∃ r, LO_X_ledger_28 fu f p a (nI k) I L = some (r, I, L) ∧ LO_M_ledger_19 fu g p a (nI k) J K = some (r, J, K) := by
  intro j
  induction j with
  | zero =>
    intro k f g a hk hf hg
    obtain ⟨f, rfl⟩ : ∃ z, f = z + 1 := ⟨f - 1, by omega⟩
    obtain ⟨g, rfl⟩ : ∃ z, g = z + 1 := ⟨g - 1, by omega⟩
    have hk : k = n := by omega
    subst hk
    refine ⟨a, ?_, ?_⟩
    · rw [LO_X_ledger_28, t1, if_pos (Int32.le_refl _)]
    · rw [LO_M_ledger_19, t2, if_pos (Int32.le_refl _)]
  | succ j ih =>
    intro k f g a hk hf hg
    obtain ⟨f, rfl⟩ : ∃ z, f = z + 1 := ⟨f - 1, by omega⟩
    obtain ⟨g, rfl⟩ : ∃ z, g = z + 1 := ⟨g - 1, by omega⟩
    rw [LO_X_ledger_28, LO_M_ledger_19]
    simp (disch := omega) only [l_0, l_1, l_2, l_3, l_4, l_5, l_6, l_7, l_8, l_9, l_10, l_11, l_12, l_13, l_15, l_24, l_30, l_36, l_42, l_51, l_60, l_66, l_71, l_77, l_90, l_99, l_100, l_101, l_300, l_557, l_431, l_1511, l_1541, l_9999, l_2724, l_681, l_255, nI_add, pk_mul, pk_sub, Nat.add_sub_cancel, nI_clamp, nI_leI, nI_ltI, nI_eq, if_neg, if_pos, Option.bind_some, t1, t2, (m_entry s (show k < 30 by omega)).2.1, (m_entry s (show k < 30 by omega)).2.2]
    rw [Nat.mul_comm k 3]
    by_cases h : p = -nI 1
    · rw [if_pos h, if_pos h]
      exact ih (k + 1) f g _ (by omega) (by omega) (by omega)
    · rw [if_neg h, if_neg h]
      by_cases h2 : I 5 (3 * k + 1) = p
      · rw [if_pos h2, if_pos h2]
        exact ih (k + 1) f g _ (by omega) (by omega) (by omega)
      · rw [if_neg h2, if_neg h2, nI_0, Int32.add_zero]
        exact ih (k + 1) f g _ (by omega) (by omega) (by omega)
theorem op_ledger {T : TI → (Nat → Int32) → Prop} {fu : Nat} (hfu : 100 ≤ fu) (p : Int32) : OpR T (fun I L => FO_X_ledger fu p I L) (fun I L => FO_M_ledger fu p I L) := by
  refine OpR_q (fun I J L K hR => ?_)
  have s := hR.s
  obtain ⟨n, hn, t1, t2⟩ := s.f_ln
  have w := lk_ledger (fu := fu) (L := L) (K := K) (p := p) (n := n) s hn t1 t2 n 0 fu fu 0 (by omega) (by omega) (by omega)
  unfold FO_X_ledger FO_M_ledger
  by_cases h : p = -1
  · rw [if_pos h, if_pos h]; exact w
  · rw [if_neg h, if_neg h]
    by_cases h2 : 1 ≤ p ∧ p ≤ 12
    · rw [if_pos h2, if_pos h2]; exact w
    · rw [if_neg h2, if_neg h2]; exact ⟨_, rfl, rfl⟩
theorem ix_of {p : Int32} {n : Nat} (hn : n < 2 ^ 30) (h : 0 ≤ p ∧ p ≤ nI n - 1) : ∃ k, k < n ∧ p = nI k := by
  rcases pk_ix p (n := n) (by omega) with hp | hp | ⟨k, hk, hp⟩
  · exact absurd hp (Int32.not_lt.mpr h.1)
  · exfalso
    by_cases hz : n = 0
    · subst hz
      exact absurd (Int32.le_trans h.1 h.2) (by decide)
    · obtain ⟨m, rfl⟩ : ∃ m, n = m + 1 := ⟨n - 1, by omega⟩
      have z := h.2
      rw [nI_pred] at z
      exact nI_ge (a := m) (b := m + 1) (by omega) (by omega) (Int32.le_trans hp z)
  · exact ⟨k, hk, hp⟩
theorem op_book {T : TI → (Nat → Int32) → Prop} {fu : Nat} (hfu : 100 ≤ fu) (p w : Int32) : OpR T (fun I L => FO_X_book fu p w I L) (fun I L => FO_M_book fu p w I L) := by
  refine OpR_q (fun I J L K hR => ?_)
  have s := hR.s
  obtain ⟨n, hn, t1, t2⟩ := s.f_ln
  unfold FO_X_book FO_M_book
  rw [t1, t2]
  by_cases h : p = -1
  · rw [if_pos h, if_pos h]; exact ⟨_, rfl, rfl⟩
  · rw [if_neg h, if_neg h]
    by_cases h2 : 0 ≤ p ∧ p ≤ nI n - 1
    · rw [if_pos h2, if_pos h2]
      obtain ⟨k, hk, rfl⟩ := ix_of (by omega) h2
      rw [if_neg (show ¬ (30 : Int32) ≤ nI k from nI_ge (b := 30) (by omega) (by omega))]
      by_cases h3 : 0 ≤ w ∧ w ≤ 2
      · rw [if_pos h3, if_pos h3]
        obtain ⟨b, hb, rfl⟩ := rng (hi := 2) (by omega) h3.1 h3.2
        have m := m_entry (fu := fu) (K := K) s (show k < 30 by omega)
        have : b = 0 ∨ b = 1 ∨ b = 2 := by omega
        rcases this with rfl | rfl | rfl
        · refine ⟨I 5 (3 * k), ?_, by rw [m.1]; rfl⟩
          simp (disch := omega) only [l_0, l_1, l_2, l_3, l_4, l_5, l_6, l_7, l_8, l_9, l_10, l_11, l_12, l_13, l_15, l_24, l_30, l_36, l_42, l_51, l_60, l_66, l_71, l_77, l_90, l_99, l_100, l_101, l_300, l_557, l_431, l_1511, l_1541, l_9999, l_2724, l_681, l_255, nI_add, pk_mul, pk_sub, Nat.add_sub_cancel, nI_clamp, nI_leI, nI_ltI, nI_eq, if_pos]
          rw [Nat.mul_comm]; rfl
        · refine ⟨I 5 (3 * k + 1), ?_, by rw [m.2.1]; rfl⟩
          simp (disch := omega) only [l_0, l_1, l_2, l_3, l_4, l_5, l_6, l_7, l_8, l_9, l_10, l_11, l_12, l_13, l_15, l_24, l_30, l_36, l_42, l_51, l_60, l_66, l_71, l_77, l_90, l_99, l_100, l_101, l_300, l_557, l_431, l_1511, l_1541, l_9999, l_2724, l_681, l_255, nI_add, pk_mul, pk_sub, Nat.add_sub_cancel, nI_clamp, nI_leI, nI_ltI, nI_eq, if_pos]
          rw [Nat.mul_comm]
        · refine ⟨I 5 (3 * k + 2), ?_, by rw [m.2.2]; rfl⟩
          simp (disch := omega) only [l_0, l_1, l_2, l_3, l_4, l_5, l_6, l_7, l_8, l_9, l_10, l_11, l_12, l_13, l_15, l_24, l_30, l_36, l_42, l_51, l_60, l_66, l_71, l_77, l_90, l_99, l_100, l_101, l_300, l_557, l_431, l_1511, l_1541, l_9999, l_2724, l_681, l_255, nI_add, pk_mul, pk_sub, Nat.add_sub_cancel, nI_clamp, nI_leI, nI_ltI, nI_eq, if_pos]
          rw [Nat.mul_comm]
      · rw [if_neg h3, if_neg h3]; exact ⟨_, rfl, rfl⟩
    · rw [if_neg h2, if_neg h2]; exact ⟨_, rfl, rfl⟩
