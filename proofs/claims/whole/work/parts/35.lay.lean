/-! the model's rows of moods -/
theorem mf0 {fu i m : Nat} {c S : Nat → Nat → Nat} {I J : TI} {K : TL} {n : Int32} {k9 : Int32 → Int32 → TI → TL → Option (Unit × TI × TL)} {k16 : Int32 → Int32 → Int32 → TI → TL → Option (Unit × TI × TL)} (md : MD c S I J) (hi : i < 6) (hm : m < 3) (hK : ∀ j, i = j + 1 → ∀ k, k < 3 → K 343 (3 * j + k) = lN (Fr c S j k)) (f : Nat) : LO_M_layMoods_35 fu k9 k16 (f + 4) n (nI i) (nI m) (if i = 0 then 1 else 0) (nI 0) J K = k16 n (nI i) (nI (m + 1)) J (sL K 343 (3 * i + m) (lN (Fr c S i m))) := by
  have s9 := (le9 md).2 i m hi hm
  cases i with
  | zero =>
    rw [if_pos rfl, LO_M_layMoods_35]
    simp (disch := omega) only [l_0, show (17 : Int32) = nI 17 from rfl, show (18 : Int32) = nI 18 from rfl, l_1, l_2, l_3, l_4, l_5, l_6, l_7, l_8, l_9, l_10, l_11, l_12, l_13, l_15, l_24, l_30, l_36, l_42, l_51, l_60, l_66, l_71, l_77, l_90, l_99, l_100, l_101, l_300, l_557, l_431, l_1511, l_1541, l_9999, l_2724, l_681, l_255, nI_add, pk_mul, pk_sub, Nat.add_sub_cancel, nI_clamp, nI_leI, nI_ltI, nI_eq, if_pos, if_neg, if_true, if_false, Option.bind_some, m_sw md hi hm, nI_l (show S 0 m < 2 ^ 31 by omega)]
    rw [show (1 : Int64) = lN 1 from rfl, lN_mul, Nat.one_mul]
    rfl
  | succ i =>
    rw [if_neg (by omega), show (0 : Int64) = lN 0 from rfl]
    have st : ∀ (f k a : Nat), k < 3 → LO_M_layMoods_35 fu k9 k16 (f + 1) n (nI (i + 1)) (nI m) (lN a) (nI k) J K = LO_M_layMoods_35 fu k9 k16 f n (nI (i + 1)) (nI m) (lN (a + Fr c S i k * c k m)) (nI (k + 1)) J K := by
      intro f k a hk
      have c9 := (le9 md).1 k m hk hm
      have e := hK i rfl k hk
      rw [LO_M_layMoods_35]
      simp (disch := omega) only [l_0, show (17 : Int32) = nI 17 from rfl, show (18 : Int32) = nI 18 from rfl, l_1, l_2, l_3, l_4, l_5, l_6, l_7, l_8, l_9, l_10, l_11, l_12, l_13, l_15, l_24, l_30, l_36, l_42, l_51, l_60, l_66, l_71, l_77, l_90, l_99, l_100, l_101, l_300, l_557, l_431, l_1511, l_1541, l_9999, l_2724, l_681, l_255, nI_add, pk_mul, pk_sub, Nat.add_sub_cancel, nI_clamp, nI_leI, nI_ltI, nI_eq, if_pos, if_neg, if_true, if_false, Option.bind_some, m_cw md hk hm]
      rw [show 3 * (i + 1) - 3 + k = 3 * i + k by omega, e, nI_l (by omega), lN_mul, lN_add]
    rw [st _ 0 _ (by omega), st _ 1 _ (by omega), st _ 2 _ (by omega), LO_M_layMoods_35]
    simp (disch := omega) only [l_0, show (17 : Int32) = nI 17 from rfl, show (18 : Int32) = nI 18 from rfl, l_1, l_2, l_3, l_4, l_5, l_6, l_7, l_8, l_9, l_10, l_11, l_12, l_13, l_15, l_24, l_30, l_36, l_42, l_51, l_60, l_66, l_71, l_77, l_90, l_99, l_100, l_101, l_300, l_557, l_431, l_1511, l_1541, l_9999, l_2724, l_681, l_255, nI_add, pk_mul, pk_sub, Nat.add_sub_cancel, nI_clamp, nI_leI, nI_ltI, nI_eq, if_pos, if_neg, if_true, if_false, Option.bind_some, m_sw md hi hm, nI_l (show S (i + 1) m < 2 ^ 31 by omega), lN_mul]
    rw [Fr, Nat.zero_add]
theorem mf1 {fu i : Nat} {c S : Nat → Nat → Nat} {I J : TI} {n : Int32} {k9 : Int32 → Int32 → TI → TL → Option (Unit × TI × TL)} (hfu : 2000 ≤ fu) (md : MD c S I J) (hi : i < 6) : ∀ (j m f : Nat) (K : TL), m + j = 3 → j < f → FrL c S 343 K i → (∀ k, k < m → K 343 (3 * i + k) = lN (Fr c S i k)) → ∃ K', LO_M_layMoods_16 fu k9 f n (nI i) (nI m) J K = k9 n (nI (i + 1)) J K' ∧ FrL c S 343 K' (i + 1) := by
  intro j
  induction j with
  | zero =>
    intro m f L hm hf p q
    obtain ⟨f, rfl⟩ : ∃ z, f = z + 1 := ⟨f - 1, by omega⟩
    have hm : m = 3 := by omega
    subst hm
    refine ⟨L, ?_, fun i' hi' k hk => ?_⟩
    · rw [LO_M_layMoods_16, if_pos (by decide), nI_1]
    · by_cases e : i' = i
      · subst e; exact q k hk
      · exact p i' (by omega) k hk
  | succ j ih =>
    intro m f L hm hf p q
    obtain ⟨f, rfl⟩ : ∃ z, f = z + 1 := ⟨f - 1, by omega⟩
    have key : LO_M_layMoods_16 fu k9 (f + 1) n (nI i) (nI m) J L = LO_M_layMoods_16 fu k9 f n (nI i) (nI (m + 1)) J (sL L 343 (3 * i + m) (lN (Fr c S i m))) := by
      obtain ⟨z, rfl⟩ : ∃ z, fu = z + 4 := ⟨fu - 4, by omega⟩
      rw [LO_M_layMoods_16, if_neg (show ¬ (3 : Int32) ≤ nI m from nI_ge (b := 3) (by omega) (by omega))]
      have w := mf0 (fu := z + 4) (n := n) (k9 := k9) (k16 := fun x1 x2 x3 I L => LO_M_layMoods_16 (z + 4) k9 f x1 x2 x3 I L) (K := L) md hi (show m < 3 by omega) (fun j' hj k hk => p j' (by omega) k hk) z
      by_cases e : i = 0
      · rw [if_pos e] at w
        rw [if_pos (by rw [e]; rfl)]
        exact w
      · rw [if_neg e] at w
        rw [if_neg (nI_ne0 (by omega) (by omega))]
        exact w
    obtain ⟨L', r1, r2⟩ := ih (m + 1) f (sL L 343 (3 * i + m) (lN (Fr c S i m))) (by omega) (by omega) (fun i' hi' k hk => by rw [sM_at, pk_uLn (by omega)]; exact p i' hi' k hk) (fun k hk => by
      rw [sM_at]
      by_cases e : k = m
      · subst e; rw [pk_uLs]
      · rw [pk_uLn (by omega)]; exact q k (by omega))
    exact ⟨L', key.trans r1, r2⟩
theorem mf2 {fu n : Nat} {c S : Nat → Nat → Nat} {I J : TI} (hfu : 2000 ≤ fu) (md : MD c S I J) (hn : n ≤ 6) : ∀ (j i f : Nat) (K : TL), i + j = n → j < f → FrL c S 343 K i → ∃ K', LO_M_layMoods_9 fu f (nI n) (nI i) J K = LO_M_layMoods_114 fu fu (nI n) (nI n - 1) J K' ∧ FrL c S 343 K' n := by
  intro j
  induction j with
  | zero =>
    intro i f L hi hf p
    obtain ⟨f, rfl⟩ : ∃ z, f = z + 1 := ⟨f - 1, by omega⟩
    have hi : i = n := by omega
    subst hi
    exact ⟨L, by rw [LO_M_layMoods_9, if_pos (Int32.le_refl _)], p⟩
  | succ j ih =>
    intro i f L hi hf p
    obtain ⟨f, rfl⟩ : ∃ z, f = z + 1 := ⟨f - 1, by omega⟩
    obtain ⟨L1, r1, r2⟩ := mf1 (fu := fu) (n := nI n) (k9 := fun x1 x2 I L => LO_M_layMoods_9 fu f x1 x2 I L) hfu md (show i < 6 by omega) 3 0 fu L (by omega) (by omega) p (fun k hk => by omega)
    obtain ⟨L2, s1, s2⟩ := ih (i + 1) f L1 (by omega) (by omega) r2
    refine ⟨L2, ?_, s2⟩
    rw [LO_M_layMoods_9, if_neg (nI_ge (by omega) (by omega))]
    exact r1.trans s1
/-- from behind: sums at 344, the heaviest at 345 -/
theorem mb1 {fu i m d n : Nat} {c S : Nat → Nat → Nat} {I J : TI} {k114 : Int32 → Int32 → TI → TL → Option (Unit × TI × TL)} {k120 : Int32 → Int32 → Int32 → TI → TL → Option (Unit × TI × TL)} (md : MD c S I J) (hn : n ≤ 6) (hi : i + (d + 1) + 1 = n) (hm : m < 3) {K0 : TL} (p : ∀ k, k < 3 → K0 344 (3 * (i + 1) + k) = lN (Bk c S d (i + 1) k) ∧ K0 345 (3 * (i + 1) + k) = lN (Hv c S d (i + 1) k)) (f : Nat) (K : TL) (hK4 : K 344 = vp_updL (K0 344) (3 * i + m) (lN 0)) (hK5 : K 345 = vp_updL (K0 345) (3 * i + m) (lN 0)) (hKo : ∀ o, o ≠ 344 → o ≠ 345 → K o = K0 o) : ∃ K', LO_M_layMoods_172 fu k114 k120 (f + 4) (nI n) (nI i) (nI m) (nI 0) J K = k120 (nI n) (nI i) (nI (m + 1)) J K' ∧ K' 344 = vp_updL (K0 344) (3 * i + m) (lN (Bk c S (d + 1) i m)) ∧ K' 345 = vp_updL (K0 345) (3 * i + m) (lN (Hv c S (d + 1) i m)) ∧ (∀ o, o ≠ 344 → o ≠ 345 → K' o = K0 o) := by
  have c9 := (le9 md).1
  have s9 := (le9 md).2
  have bb : ∀ k, k < 3 → Bk c S d (i + 1) k ≤ 243 ^ 5 := fun k hk => Nat.le_trans (Bk_b c9 s9 d (i + 1) k (by omega) hk) (Nat.pow_le_pow_right (by omega) (by omega))
  have hb : ∀ k, k < 3 → Hv c S d (i + 1) k ≤ 243 ^ 5 := fun k hk => Nat.le_trans (Hv_b d (i + 1) k) (bb k hk)
  have st : ∀ (f k a b : Nat) (K : TL), k < 3 → b ≤ 9 * 9 * 243 ^ 5 → K 344 = vp_updL (K0 344) (3 * i + m) (lN a) → K 345 = vp_updL (K0 345) (3 * i + m) (lN b) → (∀ o, o ≠ 344 → o ≠ 345 → K o = K0 o) → ∃ K', LO_M_layMoods_172 fu k114 k120 (f + 1) (nI n) (nI i) (nI m) (nI k) J K = LO_M_layMoods_172 fu k114 k120 f (nI n) (nI i) (nI m) (nI (k + 1)) J K' ∧ K' 344 = vp_updL (K0 344) (3 * i + m) (lN (a + c m k * S (i + 1) k * Bk c S d (i + 1) k)) ∧ K' 345 = vp_updL (K0 345) (3 * i + m) (lN (max b (c m k * S (i + 1) k * Hv c S d (i + 1) k))) ∧ (∀ o, o ≠ 344 → o ≠ 345 → K' o = K0 o) := by
    intro f k a b K hk hbb h4 h5 ho
    have ck := c9 m k hm hk
    have sk := s9 (i + 1) k (by omega) hk
    have cs : c m k * S (i + 1) k ≤ 9 * 9 := Nat.mul_le_mul ck sk
    have th : c m k * S (i + 1) k * Hv c S d (i + 1) k ≤ 9 * 9 * 243 ^ 5 := mul3 ck sk (hb k hk)
    have v4 : K 344 (3 * i + m) = lN a := by rw [h4, pk_uLs]
    have v5 : K 345 (3 * i + m) = lN b := by rw [h5, pk_uLs]
    have u4 : K 344 (3 * i + 3 + k) = lN (Bk c S d (i + 1) k) := by rw [h4, pk_uLn (by omega), show 3 * i + 3 + k = 3 * (i + 1) + k by omega]; exact (p k hk).1
    have u5 : K 345 (3 * i + 3 + k) = lN (Hv c S d (i + 1) k) := by rw [h5, pk_uLn (by omega), show 3 * i + 3 + k = 3 * (i + 1) + k by omega]; exact (p k hk).2
    have up : ∀ (f : Nat → Int64) (j : Nat) (x y : Int64), vp_updL (vp_updL f j x) j y = vp_updL f j y := by
      intro f j x y
      funext t
      by_cases e : t = j
      · subst e; rw [pk_uLs, pk_uLs]
      · rw [pk_uLn e, pk_uLn e, pk_uLn e]
    rw [LO_M_layMoods_172]
    simp (disch := omega) only [l_0, show (17 : Int32) = nI 17 from rfl, show (18 : Int32) = nI 18 from rfl, l_1, l_2, l_3, l_4, l_5, l_6, l_7, l_8, l_9, l_10, l_11, l_12, l_13, l_15, l_24, l_30, l_36, l_42, l_51, l_60, l_66, l_71, l_77, l_90, l_99, l_100, l_101, l_300, l_557, l_431, l_1511, l_1541, l_9999, l_2724, l_681, l_255, nI_add, pk_mul, pk_sub, Nat.add_sub_cancel, nI_clamp, nI_leI, nI_ltI, nI_eq, if_pos, if_neg, if_true, if_false, Option.bind_some, m_cw md hm hk, m_sw md (show i + 1 < 6 by omega) hk, nI_l (show c m k * S (i + 1) k < 2 ^ 31 by omega), v4, v5, u4, u5, lN_mul, lN_add]
    by_cases c1 : c m k * S (i + 1) k * Hv c S d (i + 1) k ≤ b
    · rw [if_pos (by rw [show nI 0 = 0 from rfl]; exact (lc_le _ _).mpr ((pk_lLE (by omega) (by omega)).mpr c1)), show max b (c m k * S (i + 1) k * Hv c S d (i + 1) k) = b by omega]
      refine ⟨_, rfl, ?_, ?_, fun o h1 h2 => ?_⟩
      · rw [sM_at, h4, up]
      · rw [sM_ne (by omega), h5]
      · rw [sM_ne h1, ho o h1 h2]
    · rw [if_neg (show ¬ lg_cmp (lN (c m k * S (i + 1) k * Hv c S d (i + 1) k)) (lN b) ≤ nI 0 from fun z => c1 ((pk_lLE (by omega) (by omega)).mp ((lc_le _ _).mp z))), show max b (c m k * S (i + 1) k * Hv c S d (i + 1) k) = c m k * S (i + 1) k * Hv c S d (i + 1) k by omega]
      refine ⟨_, rfl, ?_, ?_, fun o h1 h2 => ?_⟩
      · rw [sM_ne (by omega), sM_at, h4, up]
      · rw [sM_at, sM_ne (by omega), h5, up]
      · rw [sM_ne h2, sM_ne h1, ho o h1 h2]
  obtain ⟨K1, a1, a2, a3, a4⟩ := st (f + 3) 0 0 0 K (by omega) (by omega) hK4 hK5 hKo
  have t0 : c m 0 * S (i + 1) 0 * Hv c S d (i + 1) 0 ≤ 9 * 9 * 243 ^ 5 := mul3 (c9 m 0 hm (by omega)) (s9 (i + 1) 0 (by omega) (by omega)) (hb 0 (by omega))
  have t1 : c m 1 * S (i + 1) 1 * Hv c S d (i + 1) 1 ≤ 9 * 9 * 243 ^ 5 := mul3 (c9 m 1 hm (by omega)) (s9 (i + 1) 1 (by omega) (by omega)) (hb 1 (by omega))
  obtain ⟨K2, b1, b2, b3, b4⟩ := st (f + 2) 1 _ _ K1 (by omega) (by omega) a2 a3 a4
  obtain ⟨K3, d1, d2, d3, d4⟩ := st (f + 1) 2 _ _ K2 (by omega) (by omega) b2 b3 b4
  refine ⟨K3, (a1.trans (b1.trans d1)).trans ?_, ?_, ?_, d4⟩
  · rw [LO_M_layMoods_172, if_pos (by decide), nI_1]
  · rw [d2, Bk, Nat.zero_add]
  · rw [d3, Hv, Nat.zero_max]
def BM (c S : Nat → Nat → Nat) (n : Nat) (K : TL) (k : Nat) : Prop := ∀ i, k ≤ i → i < n → ∀ m, m < 3 → K 344 (3 * i + m) = lN (Bk c S (n - 1 - i) i m) ∧ K 345 (3 * i + m) = lN (Hv c S (n - 1 - i) i m)
theorem mb2 {fu i n : Nat} {c S : Nat → Nat → Nat} {I J : TI} {k114 : Int32 → Int32 → TI → TL → Option (Unit × TI × TL)} (hfu : 2000 ≤ fu) (md : MD c S I J) (hn : n ≤ 6) (hi : i < n) : ∀ (j m f : Nat) (K : TL), m + j = 3 → j < f → BM c S n K (i + 1) → (∀ k, k < m → K 344 (3 * i + k) = lN (Bk c S (n - 1 - i) i k) ∧ K 345 (3 * i + k) = lN (Hv c S (n - 1 - i) i k)) → ∃ K', LO_M_layMoods_120 fu k114 f (nI n) (nI i) (nI m) J K = k114 (nI n) (nI i + (-1)) J K' ∧ BM c S n K' i ∧ (∀ o, o ≠ 344 → o ≠ 345 → K' o = K o) := by
  intro j
  induction j with
  | zero =>
    intro m f K hm hf p q
    obtain ⟨f, rfl⟩ : ∃ z, f = z + 1 := ⟨f - 1, by omega⟩
    have hm : m = 3 := by omega
    subst hm
    refine ⟨K, ?_, fun i' h1 h2 k hk => ?_, fun _ _ _ => rfl⟩
    · rw [LO_M_layMoods_120, if_pos (by decide)]
    · by_cases e : i' = i
      · subst e; exact q k hk
      · exact p i' (by omega) h2 k hk
  | succ j ih =>
    intro m f K hm hf p q
    obtain ⟨f, rfl⟩ : ∃ z, f = z + 1 := ⟨f - 1, by omega⟩
    have key : ∃ K1, LO_M_layMoods_120 fu k114 (f + 1) (nI n) (nI i) (nI m) J K = LO_M_layMoods_120 fu k114 f (nI n) (nI i) (nI (m + 1)) J K1 ∧ K1 344 = vp_updL (K 344) (3 * i + m) (lN (Bk c S (n - 1 - i) i m)) ∧ K1 345 = vp_updL (K 345) (3 * i + m) (lN (Hv c S (n - 1 - i) i m)) ∧ (∀ o, o ≠ 344 → o ≠ 345 → K1 o = K o) := by
      obtain ⟨z, hz⟩ : ∃ z, fu = z + 4 := ⟨fu - 4, by omega⟩
      rw [LO_M_layMoods_120]
      by_cases e : i = n - 1
      · have e0 : n - 1 - i = 0 := by omega
        simp (disch := omega) only [l_0, show (17 : Int32) = nI 17 from rfl, show (18 : Int32) = nI 18 from rfl, l_1, l_2, l_3, l_4, l_5, l_6, l_7, l_8, l_9, l_10, l_11, l_12, l_13, l_15, l_24, l_30, l_36, l_42, l_51, l_60, l_66, l_71, l_77, l_90, l_99, l_100, l_101, l_300, l_557, l_431, l_1511, l_1541, l_9999, l_2724, l_681, l_255, nI_add, pk_mul, pk_sub, Nat.add_sub_cancel, nI_clamp, nI_leI, nI_ltI, nI_eq, if_pos, if_neg, if_true, if_false, Option.bind_some]
        refine ⟨sL (sL K 344 (3 * i + m) (lN 1)) 345 (3 * i + m) (lN 1), ?_, ?_, ?_, fun o h1 h2 => by rw [sM_ne h2, sM_ne h1]⟩
        · rw [hz, LO_M_layMoods_172]
          simp (disch := omega) only [l_0, show (17 : Int32) = nI 17 from rfl, show (18 : Int32) = nI 18 from rfl, l_1, l_2, l_3, l_4, l_5, l_6, l_7, l_8, l_9, l_10, l_11, l_12, l_13, l_15, l_24, l_30, l_36, l_42, l_51, l_60, l_66, l_71, l_77, l_90, l_99, l_100, l_101, l_300, l_557, l_431, l_1511, l_1541, l_9999, l_2724, l_681, l_255, nI_add, pk_mul, pk_sub, Nat.add_sub_cancel, nI_clamp, nI_leI, nI_ltI, nI_eq, if_pos, if_neg, if_true, if_false, Option.bind_some]
          rfl
        · rw [sM_ne (by omega), sM_at, e0]; rfl
        · rw [sM_at, sM_ne (by omega), e0]; rfl
      · simp (disch := omega) only [l_0, show (17 : Int32) = nI 17 from rfl, show (18 : Int32) = nI 18 from rfl, l_1, l_2, l_3, l_4, l_5, l_6, l_7, l_8, l_9, l_10, l_11, l_12, l_13, l_15, l_24, l_30, l_36, l_42, l_51, l_60, l_66, l_71, l_77, l_90, l_99, l_100, l_101, l_300, l_557, l_431, l_1511, l_1541, l_9999, l_2724, l_681, l_255, nI_add, pk_mul, pk_sub, Nat.add_sub_cancel, nI_clamp, nI_leI, nI_ltI, nI_eq, if_pos, if_neg, if_true, if_false, Option.bind_some]
        have w := mb1 (fu := fu) (i := i) (m := m) (d := n - 1 - (i + 1)) (n := n) (k114 := k114) (k120 := fun x1 x2 x3 I L => LO_M_layMoods_120 fu k114 f x1 x2 x3 I L) md hn (by omega) (by omega) (K0 := K) (fun k hk => by rw [show n - 1 - (i + 1) = n - 1 - (i + 1) from rfl]; exact p (i + 1) (by omega) (by omega) k hk) z (sL (sL K 344 (3 * i + m) (lN 0)) 345 (3 * i + m) (lN 0)) (by rw [sM_ne (by omega), sM_at]) (by rw [sM_at, sM_ne (by omega)]) (fun o h1 h2 => by rw [sM_ne h2, sM_ne h1])
        rw [← hz, show n - 1 - (i + 1) + 1 = n - 1 - i by omega] at w
        exact w
    obtain ⟨K1, a1, a2, a3, a4⟩ := key
    obtain ⟨K', r1, r2, r3⟩ := ih (m + 1) f K1 (by omega) (by omega) (fun i' h1 h2 k hk => by rw [a2, a3, pk_uLn (by omega), pk_uLn (by omega)]; exact p i' h1 h2 k hk) (fun k hk => by
      rw [a2, a3]
      by_cases e : k = m
      · subst e; rw [pk_uLs, pk_uLs]; exact ⟨rfl, rfl⟩
      · rw [pk_uLn (by omega), pk_uLn (by omega)]; exact q k (by omega))
    exact ⟨K', a1.trans r1, r2, fun o h1 h2 => by rw [r3 o h1 h2, a4 o h1 h2]⟩
theorem mb3 {fu n : Nat} {c S : Nat → Nat → Nat} {I J : TI} (hfu : 2000 ≤ fu) (md : MD c S I J) (hn : n ≤ 6) : ∀ (i f : Nat) (K : TL), i ≤ n → i < f → BM c S n K i → ∃ K', LO_M_layMoods_114 fu f (nI n) (nI i + (-1)) J K = some ((), J, K') ∧ BM c S n K' 0 ∧ (∀ o, o ≠ 344 → o ≠ 345 → K' o = K o) := by
  intro i
  induction i with
  | zero =>
    intro f K hi hf p
    obtain ⟨f, rfl⟩ : ∃ z, f = z + 1 := ⟨f - 1, by omega⟩
    exact ⟨K, by rw [LO_M_layMoods_114, if_pos (by decide)], p, fun _ _ _ => rfl⟩
  | succ i ih =>
    intro f K hi hf p
    obtain ⟨f, rfl⟩ : ∃ z, f = z + 1 := ⟨f - 1, by omega⟩
    obtain ⟨K1, r1, r2, r3⟩ := mb2 (fu := fu) (k114 := fun x1 x2 I L => LO_M_layMoods_114 fu f x1 x2 I L) hfu md hn (show i < n by omega) 3 0 fu K (by omega) (by omega) p (fun k hk => by omega)
    obtain ⟨K2, s1, s2, s3⟩ := ih f K1 (by omega) (by omega) r2
    refine ⟨K2, ?_, s2, fun o h1 h2 => by rw [s3 o h1 h2, r3 o h1 h2]⟩
    rw [LO_M_layMoods_114, pk_m1, if_neg (nI_pos (by omega))]
    exact r1.trans s1
theorem m_lay {fu n : Nat} {c S : Nat → Nat → Nat} {I J : TI} {K : TL} (hfu : 2000 ≤ fu) (md : MD c S I J) (hn : n ≤ 6) (e2 : J 332 4 = nI n) : ∃ K', FO_M_layMoods fu J K = some ((), J, K') ∧ FrL c S 343 K' n ∧ BM c S n K' 0 := by
  obtain ⟨K1, a1, a2⟩ := mf2 (fu := fu) hfu md hn n 0 fu K (by omega) (by omega) (fun i hi => by omega)
  obtain ⟨K2, b1, b2, b3⟩ := mb3 (fu := fu) hfu md hn n fu K1 (by omega) (by omega) (fun i h1 h2 => by omega)
  refine ⟨K2, ?_, fun i hi m hm => by rw [b3 343 (by omega) (by omega)]; exact a2 i hi m hm, b2⟩
  unfold FO_M_layMoods
  rw [e2]
  refine a1.trans ?_
  rw [Int32.sub_eq_add_neg]
  exact b1
def Al (c S : Nat → Nat → Nat) (n : Nat) : Nat := if n = 0 then 1 else Fr c S (n - 1) 0 + Fr c S (n - 1) 1 + Fr c S (n - 1) 2
theorem Al_b {c S : Nat → Nat → Nat} {n : Nat} (hc : ∀ m k, m < 3 → k < 3 → c m k ≤ 9) (hS : ∀ i m, i < 6 → m < 3 → S i m ≤ 9) (hn : n ≤ 6) : Al c S n < 2 ^ 60 := by
  unfold Al
  split
  · omega
  · have e : (243 : Nat) ^ (n - 1) ≤ 243 ^ 5 := Nat.pow_le_pow_right (by omega) (by omega)
    have h0 := Fr_b hc hS (n - 1) 0 (by omega) (by omega)
    have h1 := Fr_b hc hS (n - 1) 1 (by omega) (by omega)
    have h2 := Fr_b hc hS (n - 1) 2 (by omega) (by omega)
    omega
theorem x_all {fu n : Nat} {c S : Nat → Nat → Nat} {I : TI} {L : TL} (hfu : 2000 ≤ fu) (hn : n ≤ 6) (p : FrL c S 323 L n) : FO_O_all fu (nI n) I L = some (lN (Al c S n), I, L) := by
  unfold FO_O_all Al
  by_cases h0 : n = 0
  · subst h0
    rw [if_neg (by decide), if_pos rfl]
    rfl
  · rw [if_pos (show (1 : Int32) ≤ nI n ∧ nI n ≤ 6 from ⟨nI_le (a := 1) (by omega) (by omega), nI_le (b := 6) hn (by omega)⟩), if_neg h0]
    have st : ∀ (f k a : Nat), k < 3 → LO_O_all_17 fu (f + 1) (nI n) (lN a) (nI k) I L = LO_O_all_17 fu f (nI n) (lN (a + Fr c S (n - 1) k)) (nI (k + 1)) I L := by
      intro f k a hk
      rw [LO_O_all_17]
      simp (disch := omega) only [l_0, show (17 : Int32) = nI 17 from rfl, show (18 : Int32) = nI 18 from rfl, l_1, l_2, l_3, l_4, l_5, l_6, l_7, l_8, l_9, l_10, l_11, l_12, l_13, l_15, l_24, l_30, l_36, l_42, l_51, l_60, l_66, l_71, l_77, l_90, l_99, l_100, l_101, l_300, l_557, l_431, l_1511, l_1541, l_9999, l_2724, l_681, l_255, nI_add, pk_mul, pk_sub, Nat.add_sub_cancel, nI_clamp, nI_leI, nI_ltI, nI_eq, if_pos, if_neg, if_true, if_false, Option.bind_some]
      rw [Nat.mul_comm (n - 1) 3, p (n - 1) (by omega) k hk, lN_add]
    obtain ⟨f, rfl⟩ : ∃ z, fu = z + 4 := ⟨fu - 4, by omega⟩
    rw [show (0 : Int32) = nI 0 from rfl, show (0 : Int64) = lN 0 from rfl, st _ 0 _ (by omega), st _ 1 _ (by omega), st _ 2 _ (by omega), LO_O_all_17, if_pos (by decide), Nat.zero_add]
theorem m_allr {fu n : Nat} {c S : Nat → Nat → Nat} {I J : TI} {K : TL} (hfu : 2000 ≤ fu) (md : MD c S I J) (hn : n ≤ 6) (e2 : J 332 4 = nI n) : ∃ K', FO_M_allRows fu J K = some (lN (Al c S n), J, K') ∧ FrL c S 343 K' n ∧ BM c S n K' 0 := by
  obtain ⟨K1, a1, a2, a3⟩ := m_lay (fu := fu) (K := K) hfu md hn e2
  refine ⟨K1, ?_, a2, a3⟩
  unfold FO_M_allRows
  rw [a1]
  simp only [Option.bind_some]
  rw [e2]
  unfold Al
  by_cases h0 : n = 0
  · subst h0
    rw [if_pos (by decide), if_pos rfl]
    rfl
  · rw [if_neg (nI_ne0 (by omega) (by omega)), if_neg h0]
    have st : ∀ (f k a : Nat), k < 3 → LO_M_allRows_19 fu (f + 1) (lN a) (nI k) J K1 = LO_M_allRows_19 fu f (lN (a + Fr c S 0 k * Bk c S (n - 1) 0 k)) (nI (k + 1)) J K1 := by
      intro f k a hk
      have q1 := a2 0 (by omega) k hk
      have q2 := (a3 0 (by omega) (by omega) k hk).1
      rw [Nat.mul_zero, Nat.zero_add] at q1 q2
      rw [LO_M_allRows_19]
      simp (disch := omega) only [l_0, show (17 : Int32) = nI 17 from rfl, show (18 : Int32) = nI 18 from rfl, l_1, l_2, l_3, l_4, l_5, l_6, l_7, l_8, l_9, l_10, l_11, l_12, l_13, l_15, l_24, l_30, l_36, l_42, l_51, l_60, l_66, l_71, l_77, l_90, l_99, l_100, l_101, l_300, l_557, l_431, l_1511, l_1541, l_9999, l_2724, l_681, l_255, nI_add, pk_mul, pk_sub, Nat.add_sub_cancel, nI_clamp, nI_leI, nI_ltI, nI_eq, if_pos, if_neg, if_true, if_false, Option.bind_some, q1, q2, lN_mul, lN_add]
      rfl
    obtain ⟨f, hf⟩ : ∃ z, fu = z + 4 := ⟨fu - 4, by omega⟩
    have fb := FB_all (c := c) (S := S) (n - 1) 0
    rw [Nat.zero_add] at fb
    rw [show LO_M_allRows_19 fu fu 0 0 J K1 = LO_M_allRows_19 fu (f + 4) (lN 0) (nI 0) J K1 from by rw [hf]; rfl, st _ 0 _ (by omega), st _ 1 _ (by omega), st _ 2 _ (by omega), LO_M_allRows_19, if_pos (by decide), Nat.zero_add, fb]
theorem SR.f_so {I J : TI} (s : SR (aN I) (J 332)) : ∃ n : Nat, n ≤ 6 ∧ I 1 11 = nI n ∧ J 332 4 = nI n := by
  obtain ⟨e, n, hn, e2⟩ := s.so
  exact ⟨n, hn, e2, e.trans e2⟩
theorem op_weighed {T : TI → (Nat → Int32) → Prop} {fu : Nat} (hfu : 2000 ≤ fu) : OpR T (fun I L => FO_X_weighed fu  I L) (fun I L => FO_M_weighed fu  I L) := by
  refine OpR_s (fun I J L K hR => ?_)
  have s := hR.s
  obtain ⟨c, S, md⟩ := s.md
  obtain ⟨n, hn, e1, e2⟩ := s.f_so
  obtain ⟨L1, a1, a2, a3⟩ := x_front (fu := fu) (L := L) hfu md hn e1
  obtain ⟨K1, b1, b2, b3⟩ := m_allr (fu := fu) (K := K) hfu md hn e2
  refine ⟨lN (Al c S n), I, L1, J, K1, ?_, ?_, ScI.rf, ScJ.rf⟩
  · unfold FO_X_weighed
    rw [a1]
    simp only [Option.bind_some]
    rw [e1, x_all hfu hn a2]
    rfl
  · unfold FO_M_weighed
    rw [b1]
    rfl
theorem x_thr {fu i m n : Nat} {c S : Nat → Nat → Nat} {I : TI} {L : TL} (hi : i < n) (hn : n ≤ 6) (hm : m < 3) (p : FrL c S 323 L n) (q : BkL c S 0 (n - 1) 324 L 0) : FO_O_through fu (nI i) (nI m) I L = some (lN (Fr c S i m * Bk c S (n - 1 - i) i m), I, L) := by
  unfold FO_O_through
  simp (disch := omega) only [l_0, show (17 : Int32) = nI 17 from rfl, show (18 : Int32) = nI 18 from rfl, l_1, l_2, l_3, l_4, l_5, l_6, l_7, l_8, l_9, l_10, l_11, l_12, l_13, l_15, l_24, l_30, l_36, l_42, l_51, l_60, l_66, l_71, l_77, l_90, l_99, l_100, l_101, l_300, l_557, l_431, l_1511, l_1541, l_9999, l_2724, l_681, l_255, nI_add, pk_mul, pk_sub, Nat.add_sub_cancel, nI_clamp, nI_leI, nI_ltI, nI_eq, if_pos, if_neg, if_true, if_false, Option.bind_some]
  rw [Nat.mul_comm i 3, p i hi m hm, q i (by omega) (by omega) m hm, lN_mul]
  rfl
theorem m_isS {fu n : Nat} {p : Int32} {J : TI} {K : TL} (hn : n ≤ 6) (e2 : J 332 4 = nI n) : FO_M_isSound fu p J K = some (bI (0 ≤ p ∧ p ≤ nI n - 1), J, K) := by
  unfold FO_M_isSound
  rw [e2]
theorem lk_moods {fu i n : Nat} {c S : Nat → Nat → Nat} {I J : TI} {L K : TL} (hi : i < n) (hn : n ≤ 6) (p : FrL c S 323 L n) (q : BkL c S 0 (n - 1) 324 L 0) (p2 : FrL c S 343 K n) (q2 : BM c S n K 0) : ∀ (j m f g : Nat) (a : Int32), m + j = 3 → j < f → j < g → ∃ r, LO_X_moods_46 fu f (nI i) a (nI m) I L = some (r, I, L) ∧ LO_M_moods_18 fu g (nI i) a (nI m) J K = some (r, J, K) := by
  intro j
  induction j with
  | zero =>
    intro m f g a hm hf hg
    obtain ⟨f, rfl⟩ : ∃ z, f = z + 1 := ⟨f - 1, by omega⟩
    obtain ⟨g, rfl⟩ : ∃ z, g = z + 1 := ⟨g - 1, by omega⟩
    have hm : m = 3 := by omega
    subst hm
    refine ⟨a, ?_, ?_⟩
    · rw [LO_X_moods_46, if_pos (by decide)]
    · rw [LO_M_moods_18, if_pos (by decide)]
  | succ j ih =>
    intro m f g a hm hf hg
    obtain ⟨f, rfl⟩ : ∃ z, f = z + 1 := ⟨f - 1, by omega⟩
    obtain ⟨g, rfl⟩ : ∃ z, g = z + 1 := ⟨g - 1, by omega⟩
    rw [LO_X_moods_46, LO_M_moods_18]
    simp (disch := omega) only [l_0, show (17 : Int32) = nI 17 from rfl, show (18 : Int32) = nI 18 from rfl, l_1, l_2, l_3, l_4, l_5, l_6, l_7, l_8, l_9, l_10, l_11, l_12, l_13, l_15, l_24, l_30, l_36, l_42, l_51, l_60, l_66, l_71, l_77, l_90, l_99, l_100, l_101, l_300, l_557, l_431, l_1511, l_1541, l_9999, l_2724, l_681, l_255, nI_add, pk_mul, pk_sub, Nat.add_sub_cancel, nI_clamp, nI_leI, nI_ltI, nI_eq, if_pos, if_neg, if_true, if_false, Option.bind_some, x_thr hi hn (show m < 3 by omega) p q, p2 i hi m (by omega), (q2 i (by omega) hi m (by omega)).1, lN_mul]
    by_cases h : lg_cmp (lN (Fr c S i m * Bk c S (n - 1 - i) i m)) 0 ≤ nI 0
    · rw [if_pos h, if_pos h, nI_0, Int32.or_zero]
      exact ih (m + 1) f g _ (by omega) (by omega) (by omega)
    · rw [if_neg h, if_neg h]
      exact ih (m + 1) f g _ (by omega) (by omega) (by omega)
theorem op_moods {T : TI → (Nat → Int32) → Prop} {fu : Nat} (hfu : 2000 ≤ fu) (p : Int32) : OpR T (fun I L => FO_X_moods fu p I L) (fun I L => FO_M_moods fu p I L) := by
  refine OpR_s (fun I J L K hR => ?_)
  have s := hR.s
  obtain ⟨c, S, md⟩ := s.md
  obtain ⟨n, hn, e1, e2⟩ := s.f_so
  have is := m_isS (fu := fu) (p := p) (K := K) hn e2
  by_cases h : 0 ≤ p ∧ p ≤ nI n - 1
  · obtain ⟨i, hi, rfl⟩ := ix_of (by omega) h
    obtain ⟨L1, a1, a2, a3⟩ := x_front (fu := fu) (L := L) hfu md hn e1
    obtain ⟨L2, b1, b2, b3⟩ := x_back (fu := fu) (h := 0) (L := L1) hfu md hn (by omega) e1 (Or.inl rfl)
    obtain ⟨K1, d1, d2, d3⟩ := m_lay (fu := fu) (K := K) hfu md hn e2
    obtain ⟨r, r1, r2⟩ := lk_moods (fu := fu) (I := I) (J := J) (L := L2) (K := K1) hi hn (fun i hi m hm => by rw [b3 323 (by omega)]; exact a2 i hi m hm) b2 d2 d3 3 0 fu fu 0 (by omega) (by omega) (by omega)
    refine ⟨r, I, L2, J, K1, ?_, ?_, ScI.rf, ScJ.rf⟩
    · unfold FO_X_moods
      rw [e1, if_pos h, a1]
      simp only [Option.bind_some]
      rw [show FO_O_weighFromBack fu 0 I L1 = _ from b1]
      exact r1
    · unfold FO_M_moods
      rw [is, bI_t h]
      simp only [Option.bind_some]
      rw [if_neg i10, d1]
      exact r2
  · refine ⟨-1, I, L, J, K, ?_, ?_, ScI.rf, ScJ.rf⟩
    · unfold FO_X_moods; rw [e1, if_neg h]
    · unfold FO_M_moods; rw [is, bI_f h]; rfl
