/-! moods from behind -/
theorem lc_lt (x y : Int64) : lg_cmp x y < 0 ↔ x < y := by unfold lg_cmp; grind
theorem maxL_lN {I : TI} {a b : Nat} (ha : a < 2 ^ 63) (hb : b < 2 ^ 63) : F_J_maxL I (lN a) (lN b) = lN (max a b) := by
  unfold F_J_maxL
  by_cases h : a < b
  · rw [if_pos ((lc_lt _ _).mpr ((pk_lLT ha hb).mpr h)), show max a b = b by omega]
  · rw [if_neg (fun q => h ((pk_lLT ha hb).mp ((lc_lt _ _).mp q))), show max a b = a by omega]
/-- sums, or the heaviest -/
def Gb (c S : Nat → Nat → Nat) (h : Nat) : Nat → Nat → Nat → Nat := if h = 0 then Bk c S else Hv c S
theorem Gb_0 {c S : Nat → Nat → Nat} {h i m : Nat} : Gb c S h 0 i m = 1 := by unfold Gb; split <;> rfl
theorem Gb_b {c S : Nat → Nat → Nat} {h : Nat} (hc : ∀ m k, m < 3 → k < 3 → c m k ≤ 9) (hS : ∀ i m, i < 6 → m < 3 → S i m ≤ 9) (d i m : Nat) (hi : i + d < 6) (hm : m < 3) : Gb c S h d i m ≤ 243 ^ 5 := by
  have a := Bk_b hc hS d i m hi hm
  have b := Hv_b (c := c) (S := S) d i m
  have e : (243 : Nat) ^ d ≤ 243 ^ 5 := Nat.pow_le_pow_right (by omega) (by omega)
  unfold Gb
  split <;> omega
theorem x_goes {fu i m k g : Nat} {c S : Nat → Nat → Nat} {I J : TI} {L : TL} (h : MD c S I J) (hi : i + 1 < 6) (hm : m < 3) (hk : k < 3) (e : L 324 (3 * (i + 1) + k) = lN g) : FO_O_goesOn fu (nI i) (nI m) (nI k) I L = some (lN (c m k * S (i + 1) k * g), I, L) := by
  have c9 := (le9 h).1 m k hm hk
  have s9 := (le9 h).2 (i + 1) k hi hk
  have ec := (h.1 m k hm hk).1
  unfold FO_O_goesOn
  simp (disch := omega) only [l_0, show (17 : Int32) = nI 17 from rfl, show (18 : Int32) = nI 18 from rfl, l_1, l_2, l_3, l_4, l_5, l_6, l_7, l_8, l_9, l_10, l_11, l_12, l_13, l_15, l_24, l_30, l_36, l_42, l_51, l_60, l_66, l_71, l_77, l_90, l_99, l_100, l_101, l_300, l_557, l_431, l_1511, l_1541, l_9999, l_2724, l_681, l_255, nI_add, pk_mul, pk_sub, Nat.add_sub_cancel, nI_clamp, nI_leI, nI_ltI, nI_eq, if_pos, if_neg, if_true, if_false, Option.bind_some, x_sw h hi hk]
  rw [Nat.mul_comm (i + 1) 3, e, Nat.mul_comm m 3, ec, nI_l (by omega), nI_l (by omega), lN_mul, lN_mul, show g * c m k * S (i + 1) k = c m k * S (i + 1) k * g from by rw [Nat.mul_assoc, Nat.mul_comm g]]
theorem xb1 {fu h i m d last : Nat} {c S : Nat → Nat → Nat} {I J : TI} {L : TL} {k15 : Int32 → Int32 → Int32 → TI → TL → Option (Unit × TI × TL)} {k23 : Int32 → Int32 → Int32 → Int32 → TI → TL → Option (Unit × TI × TL)} (md : MD c S I J) (hl : last < 6) (hi : i + (d + 1) = last) (hm : m < 3) (hh : h = 0 ∨ h = 1) (p : ∀ k, k < 3 → L 324 (3 * (i + 1) + k) = lN (Gb c S h d (i + 1) k)) (f : Nat) : LO_O_weighFromBack_45 fu k15 k23 (f + 4) (nI h) (nI last) (nI i) (nI m) 0 (nI 0) I L = k23 (nI h) (nI last) (nI i) (nI (m + 1)) I (sL L 324 (3 * i + m) (lN (Gb c S h (d + 1) i m))) := by
  have c9 := (le9 md).1
  have s9 := (le9 md).2
  have tb : ∀ k, k < 3 → c m k * S (i + 1) k * Gb c S h d (i + 1) k ≤ 9 * 9 * 243 ^ 5 := fun k hk => mul3 (c9 m k hm hk) (s9 (i + 1) k (by omega) hk) (Gb_b c9 s9 d (i + 1) k (by omega) hk)
  have st : ∀ (f k : Nat) (a : Nat), k < 3 → a ≤ 3 * (9 * 9 * 243 ^ 5) → LO_O_weighFromBack_45 fu k15 k23 (f + 1) (nI h) (nI last) (nI i) (nI m) (lN a) (nI k) I L = LO_O_weighFromBack_45 fu k15 k23 f (nI h) (nI last) (nI i) (nI m) (lN (if h = 0 then a + c m k * S (i + 1) k * Gb c S h d (i + 1) k else max a (c m k * S (i + 1) k * Gb c S h d (i + 1) k))) (nI (k + 1)) I L := by
    intro f k a hk ha
    have t := tb k hk
    rw [LO_O_weighFromBack_45]
    simp (disch := omega) only [l_0, show (17 : Int32) = nI 17 from rfl, show (18 : Int32) = nI 18 from rfl, l_1, l_2, l_3, l_4, l_5, l_6, l_7, l_8, l_9, l_10, l_11, l_12, l_13, l_15, l_24, l_30, l_36, l_42, l_51, l_60, l_66, l_71, l_77, l_90, l_99, l_100, l_101, l_300, l_557, l_431, l_1511, l_1541, l_9999, l_2724, l_681, l_255, nI_add, pk_mul, pk_sub, Nat.add_sub_cancel, nI_clamp, nI_leI, nI_ltI, nI_eq, if_pos, if_neg, if_true, if_false, Option.bind_some, x_goes md (show i + 1 < 6 by omega) hm hk (p k hk), lN_add, maxL_lN (I := I) (a := a) (b := c m k * S (i + 1) k * Gb c S h d (i + 1) k) (by omega) (by omega)]
    rcases hh with rfl | rfl
    · rw [if_pos rfl, if_pos rfl]
    · rw [if_neg (by omega), if_neg (by omega)]
  have t0 := tb 0 (by omega)
  have t1 := tb 1 (by omega)
  have t2 := tb 2 (by omega)
  rw [show (0 : Int64) = lN 0 from rfl, st _ 0 0 (by omega) (by omega), st _ 1 _ (by omega) (by split <;> omega), st _ 2 _ (by omega) (by split <;> omega), LO_O_weighFromBack_45]
  simp (disch := omega) only [l_0, show (17 : Int32) = nI 17 from rfl, show (18 : Int32) = nI 18 from rfl, l_1, l_2, l_3, l_4, l_5, l_6, l_7, l_8, l_9, l_10, l_11, l_12, l_13, l_15, l_24, l_30, l_36, l_42, l_51, l_60, l_66, l_71, l_77, l_90, l_99, l_100, l_101, l_300, l_557, l_431, l_1511, l_1541, l_9999, l_2724, l_681, l_255, nI_add, pk_mul, pk_sub, Nat.add_sub_cancel, nI_clamp, nI_leI, nI_ltI, nI_eq, if_pos, if_neg, if_true, if_false, Option.bind_some]
  rw [Nat.mul_comm i 3]
  congr 2
  unfold Gb
  rcases hh with rfl | rfl
  · simp only [if_true, Bk, Nat.zero_add]
  · simp only [show ¬ (1 = 0) by omega, if_false, Hv, Nat.zero_max]
theorem xb0 {fu h m last : Nat} {I : TI} {L : TL} {x6 : Int64} {k15 : Int32 → Int32 → Int32 → TI → TL → Option (Unit × TI × TL)} {k23 : Int32 → Int32 → Int32 → Int32 → TI → TL → Option (Unit × TI × TL)} (hl : last < 6) (hm : m < 3) (f : Nat) : LO_O_weighFromBack_45 fu k15 k23 (f + 1) (nI h) (nI last) (nI last) (nI m) x6 (nI 0) I L = k23 (nI h) (nI last) (nI last) (nI (m + 1)) I (sL L 324 (3 * last + m) x6) := by
  rw [LO_O_weighFromBack_45]
  simp (disch := omega) only [l_0, show (17 : Int32) = nI 17 from rfl, show (18 : Int32) = nI 18 from rfl, l_1, l_2, l_3, l_4, l_5, l_6, l_7, l_8, l_9, l_10, l_11, l_12, l_13, l_15, l_24, l_30, l_36, l_42, l_51, l_60, l_66, l_71, l_77, l_90, l_99, l_100, l_101, l_300, l_557, l_431, l_1511, l_1541, l_9999, l_2724, l_681, l_255, nI_add, pk_mul, pk_sub, Nat.add_sub_cancel, nI_clamp, nI_leI, nI_ltI, nI_eq, if_pos, if_neg, if_true, if_false, Option.bind_some]
  rw [Nat.mul_comm last 3]
def BkL (c S : Nat → Nat → Nat) (h last o : Nat) (L : TL) (k : Nat) : Prop := ∀ i, k ≤ i → i ≤ last → ∀ m, m < 3 → L o (3 * i + m) = lN (Gb c S h (last - i) i m)
theorem xb2 {fu h i last : Nat} {c S : Nat → Nat → Nat} {I J : TI} {k15 : Int32 → Int32 → Int32 → TI → TL → Option (Unit × TI × TL)} (hfu : 2000 ≤ fu) (md : MD c S I J) (hl : last < 6) (hi : i ≤ last) (hh : h = 0 ∨ h = 1) : ∀ (j m f : Nat) (L : TL), m + j = 3 → j < f → BkL c S h last 324 L (i + 1) → (∀ k, k < m → L 324 (3 * i + k) = lN (Gb c S h (last - i) i k)) → ∃ L', LO_O_weighFromBack_23 fu k15 f (nI h) (nI last) (nI i) (nI m) I L = k15 (nI h) (nI last) (nI i + (-1)) I L' ∧ BkL c S h last 324 L' i ∧ (∀ o, o ≠ 324 → L' o = L o) := by
  intro j
  induction j with
  | zero =>
    intro m f L hm hf p q
    obtain ⟨f, rfl⟩ : ∃ z, f = z + 1 := ⟨f - 1, by omega⟩
    have hm : m = 3 := by omega
    subst hm
    refine ⟨L, ?_, fun i' h1 h2 k hk => ?_, fun _ _ => rfl⟩
    · rw [LO_O_weighFromBack_23, if_pos (by decide)]
    · by_cases e : i' = i
      · subst e; exact q k hk
      · exact p i' (by omega) h2 k hk
  | succ j ih =>
    intro m f L hm hf p q
    obtain ⟨f, rfl⟩ : ∃ z, f = z + 1 := ⟨f - 1, by omega⟩
    have key : LO_O_weighFromBack_23 fu k15 (f + 1) (nI h) (nI last) (nI i) (nI m) I L = LO_O_weighFromBack_23 fu k15 f (nI h) (nI last) (nI i) (nI (m + 1)) I (sL L 324 (3 * i + m) (lN (Gb c S h (last - i) i m))) := by
      obtain ⟨z, rfl⟩ : ∃ z, fu = z + 4 := ⟨fu - 4, by omega⟩
      rw [LO_O_weighFromBack_23, if_neg (show ¬ (3 : Int32) ≤ nI m from nI_ge (b := 3) (by omega) (by omega))]
      by_cases e : i = last
      · subst e
        rw [if_pos rfl, Nat.sub_self, Gb_0]
        exact xb0 hl (by omega) (z + 3)
      · rw [if_neg (fun q => e ((nI_eq (by omega) (by omega)).mp q)), show last - i = (last - (i + 1)) + 1 by omega]
        exact xb1 md hl (by omega) (by omega) hh (fun k hk => p (i + 1) (by omega) (by omega) k hk) z
    obtain ⟨L', r1, r2, r3⟩ := ih (m + 1) f (sL L 324 (3 * i + m) (lN (Gb c S h (last - i) i m))) (by omega) (by omega) (fun i' h1 h2 k hk => by rw [sM_at, pk_uLn (by omega)]; exact p i' h1 h2 k hk) (fun k hk => by
      rw [sM_at]
      by_cases e : k = m
      · subst e; rw [pk_uLs]
      · rw [pk_uLn (by omega)]; exact q k (by omega))
    exact ⟨L', key.trans r1, r2, fun o ho => by rw [r3 o ho, sM_ne ho]⟩
theorem xb3 {fu h last : Nat} {c S : Nat → Nat → Nat} {I J : TI} (hfu : 2000 ≤ fu) (md : MD c S I J) (hl : last < 6) (hh : h = 0 ∨ h = 1) : ∀ (i f : Nat) (L : TL), i ≤ last + 1 → i < f → BkL c S h last 324 L i → ∃ L', LO_O_weighFromBack_15 fu f (nI h) (nI last) (nI i + (-1)) I L = some ((), I, L') ∧ BkL c S h last 324 L' 0 ∧ (∀ o, o ≠ 324 → L' o = L o) := by
  intro i
  induction i with
  | zero =>
    intro f L hi hf p
    obtain ⟨f, rfl⟩ : ∃ z, f = z + 1 := ⟨f - 1, by omega⟩
    exact ⟨L, by rw [LO_O_weighFromBack_15, if_pos (by decide)], p, fun _ _ => rfl⟩
  | succ i ih =>
    intro f L hi hf p
    obtain ⟨f, rfl⟩ : ∃ z, f = z + 1 := ⟨f - 1, by omega⟩
    obtain ⟨L1, r1, r2, r3⟩ := xb2 (fu := fu) (k15 := fun x2 x3 x4 I L => LO_O_weighFromBack_15 fu f x2 x3 x4 I L) hfu md hl (show i ≤ last by omega) hh 3 0 fu L (by omega) (by omega) p (fun k hk => by omega)
    obtain ⟨L2, s1, s2, s3⟩ := ih f L1 (by omega) (by omega) r2
    refine ⟨L2, ?_, s2, fun o ho => by rw [s3 o ho, r3 o ho]⟩
    rw [LO_O_weighFromBack_15, pk_m1, if_neg (nI_pos (by omega))]
    exact r1.trans s1
theorem x_back {fu h n : Nat} {c S : Nat → Nat → Nat} {I J : TI} {L : TL} (hfu : 2000 ≤ fu) (md : MD c S I J) (hn : n ≤ 6) (h0 : 0 < n) (e1 : I 1 11 = nI n) (hh : h = 0 ∨ h = 1) : ∃ L', FO_O_weighFromBack fu (nI h) I L = some ((), I, L') ∧ BkL c S h (n - 1) 324 L' 0 ∧ (∀ o, o ≠ 324 → L' o = L o) := by
  obtain ⟨L', r1, r2, r3⟩ := xb3 (fu := fu) (h := h) (last := n - 1) hfu md (by omega) hh n fu L (by omega) (by omega) (fun i h1 h2 => by omega)
  refine ⟨L', ?_, r2, r3⟩
  unfold FO_O_weighFromBack F_J_min
  rw [e1, if_neg (show ¬ (6 : Int32) < nI n from nI_nlt (a := 6) (by omega) (by omega)), show nI n - 1 = nI (n - 1) from pk_sub (b := 1) (by omega)]
  rw [show nI n + (-1) = nI (n - 1) from by rw [show n = (n - 1) + 1 by omega, pk_m1]; rfl] at r1
  exact r1
