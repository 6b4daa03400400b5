/-! moods -/
theorem sM_ne {L : TL} {o p k : Nat} {v : Int64} (h : p ≠ o) : sL L o k v p = L p := if_neg h
theorem sM_at {L : TL} {o k : Nat} {v : Int64} : sL L o k v o = vp_updL (L o) k v := if_pos rfl
/-- weights of changes and of sounds heard, in both -/
def MD (c S : Nat → Nat → Nat) (I J : TI) : Prop := (∀ m k, m < 3 → k < 3 → I 131 (3 * m + k) = nI (c m k) ∧ J 332 (42 + 3 * m + k) = nI (c m k) ∧ c m k ≤ 9) ∧ (∀ i, i < 6 → ∃ x, x < 3 ∧ I 133 i = nI x ∧ J 332 (60 + i) = nI x ∧ ∀ m, m < 3 → I 132 (3 * m + x) = nI (S i m) ∧ J 332 (51 + 3 * m + x) = nI (S i m) ∧ S i m ≤ 9)
theorem SR.md {I J : TI} (s : SR (aN I) (J 332)) : ∃ c S, MD c S I J := by
  refine ⟨fun m k => (I 131 (3 * m + k)).toNatClampNeg, fun i m => (I 132 (3 * m + (I 133 i).toNatClampNeg)).toNatClampNeg, fun m k hm hk => ?_, fun i hi => ?_⟩
  · obtain ⟨e, v, hv, ev⟩ := s.ch (3 * m + k) (by omega)
    have ev : I 131 (3 * m + k) = nI v := ev
    dsimp only
    rw [show 42 + 3 * m + k = 42 + (3 * m + k) by omega, e.trans ev, ev, nI_clamp (by omega)]
    exact ⟨rfl, rfl, hv⟩
  · obtain ⟨e, x, hx, ex⟩ := s.li i hi
    have ex : I 133 i = nI x := ex
    refine ⟨x, by omega, ex, e.trans ex, fun m hm => ?_⟩
    obtain ⟨e, v, hv, ev⟩ := s.sn (3 * m + x) (by omega)
    have ev : I 132 (3 * m + x) = nI v := ev
    dsimp only
    rw [show 51 + 3 * m + x = 51 + (3 * m + x) by omega, e.trans ev, ex, nI_clamp (by omega), ev, nI_clamp (by omega)]
    exact ⟨rfl, rfl, hv⟩
def Fr (c S : Nat → Nat → Nat) : Nat → Nat → Nat
  | 0, m => S 0 m
  | i + 1, m => (Fr c S i 0 * c 0 m + Fr c S i 1 * c 1 m + Fr c S i 2 * c 2 m) * S (i + 1) m
def Cm (c S : Nat → Nat → Nat) (i m : Nat) : Nat := Fr c S i 0 * c 0 m + Fr c S i 1 * c 1 m + Fr c S i 2 * c 2 m
def FrL (c S : Nat → Nat → Nat) (o : Nat) (L : TL) (k : Nat) : Prop := ∀ i, i < k → ∀ m, m < 3 → L o (3 * i + m) = lN (Fr c S i m)
theorem x_sw {fu i m : Nat} {c S : Nat → Nat → Nat} {I J : TI} {L : TL} (h : MD c S I J) (hi : i < 6) (hm : m < 3) : FO_O_soundWeight fu (nI i) (nI m) I L = some (nI (S i m), I, L) := by
  obtain ⟨x, hx, e1, e2, e3⟩ := h.2 i hi
  have e3 := (e3 m hm).1
  unfold FO_O_soundWeight
  simp (disch := omega) only [l_0, show (17 : Int32) = nI 17 from rfl, show (18 : Int32) = nI 18 from rfl, l_1, l_2, l_3, l_4, l_5, l_6, l_7, l_8, l_9, l_10, l_11, l_12, l_13, l_15, l_24, l_30, l_36, l_42, l_51, l_60, l_66, l_71, l_77, l_90, l_99, l_100, l_101, l_300, l_557, l_431, l_1511, l_1541, l_9999, l_2724, l_681, l_255, nI_add, pk_mul, pk_sub, Nat.add_sub_cancel, nI_clamp, nI_leI, nI_ltI, nI_eq, if_pos, if_neg, if_true, if_false, Option.bind_some, e1]
  rw [Nat.mul_comm m 3, e3]
theorem m_sw {fu i m : Nat} {c S : Nat → Nat → Nat} {I J : TI} {K : TL} (h : MD c S I J) (hi : i < 6) (hm : m < 3) : FO_M_soundOf fu (nI i) (nI m) J K = some (nI (S i m), J, K) := by
  obtain ⟨x, hx, e1, e2, e3⟩ := h.2 i hi
  have e3 := (e3 m hm).2.1
  unfold FO_M_soundOf
  simp (disch := omega) only [l_0, show (17 : Int32) = nI 17 from rfl, show (18 : Int32) = nI 18 from rfl, l_1, l_2, l_3, l_4, l_5, l_6, l_7, l_8, l_9, l_10, l_11, l_12, l_13, l_15, l_24, l_30, l_36, l_42, l_51, l_60, l_66, l_71, l_77, l_90, l_99, l_100, l_101, l_300, l_557, l_431, l_1511, l_1541, l_9999, l_2724, l_681, l_255, nI_add, pk_mul, pk_sub, Nat.add_sub_cancel, nI_clamp, nI_leI, nI_ltI, nI_eq, if_pos, if_neg, if_true, if_false, Option.bind_some, e2, e3]
theorem m_cw {fu m k : Nat} {c S : Nat → Nat → Nat} {I J : TI} {K : TL} (h : MD c S I J) (hm : m < 3) (hk : k < 3) : FO_M_changeOf fu (nI m) (nI k) J K = some (nI (c m k), J, K) := by
  have e := (h.1 m k hm hk).2.1
  unfold FO_M_changeOf
  simp (disch := omega) only [l_0, show (17 : Int32) = nI 17 from rfl, show (18 : Int32) = nI 18 from rfl, l_1, l_2, l_3, l_4, l_5, l_6, l_7, l_8, l_9, l_10, l_11, l_12, l_13, l_15, l_24, l_30, l_36, l_42, l_51, l_60, l_66, l_71, l_77, l_90, l_99, l_100, l_101, l_300, l_557, l_431, l_1511, l_1541, l_9999, l_2724, l_681, l_255, nI_add, pk_mul, pk_sub, Nat.add_sub_cancel, nI_clamp, nI_leI, nI_ltI, nI_eq, if_pos, if_neg, if_true, if_false, Option.bind_some, e]
theorem x_comes {fu i m : Nat} {c S : Nat → Nat → Nat} {I J : TI} {L : TL} (hfu : 2000 ≤ fu) (h : MD c S I J) (hi : i < 6) (hm : m < 3) (hL : ∀ k, k < 3 → L 323 (3 * i + k) = lN (Fr c S i k)) : FO_O_comesTo fu (nI i) (nI m) I L = some (lN (Cm c S i m), I, L) := by
  have st : ∀ (f k : Nat) (a : Int64), k < 3 → LO_O_comesTo_6 fu (f + 1) (nI i) (nI m) a (nI k) I L = LO_O_comesTo_6 fu f (nI i) (nI m) (a + lN (Fr c S i k) * lN (c k m)) (nI (k + 1)) I L := by
    intro f k a hk
    have e := h.1 k m hk hm
    rw [LO_O_comesTo_6]
    simp (disch := omega) only [l_0, show (17 : Int32) = nI 17 from rfl, show (18 : Int32) = nI 18 from rfl, l_1, l_2, l_3, l_4, l_5, l_6, l_7, l_8, l_9, l_10, l_11, l_12, l_13, l_15, l_24, l_30, l_36, l_42, l_51, l_60, l_66, l_71, l_77, l_90, l_99, l_100, l_101, l_300, l_557, l_431, l_1511, l_1541, l_9999, l_2724, l_681, l_255, nI_add, pk_mul, pk_sub, Nat.add_sub_cancel, nI_clamp, nI_leI, nI_ltI, nI_eq, if_pos, if_neg, if_true, if_false, Option.bind_some]
    rw [Nat.mul_comm i 3, Nat.mul_comm k 3, hL k hk, e.1, nI_l (by omega)]
  obtain ⟨f, rfl⟩ : ∃ z, fu = z + 4 := ⟨fu - 4, by omega⟩
  unfold FO_O_comesTo
  rw [show (0 : Int32) = nI 0 from rfl, show (0 : Int64) = lN 0 from rfl, st _ 0 _ (by omega), st _ 1 _ (by omega), st _ 2 _ (by omega), LO_O_comesTo_6, if_pos (by decide)]
  simp only [lN_mul, lN_add]
  unfold Cm
  rw [Nat.zero_add]
/-- the class's rows from the front -/
theorem xf1 {fu i : Nat} {c S : Nat → Nat → Nat} {I J : TI} {kx : Int32 → TI → TL → Option (Unit × TI × TL)} (hfu : 2000 ≤ fu) (h : MD c S I J) (hi : i < 6) : ∀ (j m f : Nat) (L : TL), m + j = 3 → j < f → FrL c S 323 L i → (∀ k, k < m → L 323 (3 * i + k) = lN (Fr c S i k)) → ∃ L', LO_O_weighFromFront_18 fu kx f (nI i) (nI m) I L = kx (nI (i + 1)) I L' ∧ FrL c S 323 L' (i + 1) ∧ (∀ o, o ≠ 323 → L' o = L o) := by
  intro j
  induction j with
  | zero =>
    intro m f L hm hf p q
    obtain ⟨f, rfl⟩ : ∃ z, f = z + 1 := ⟨f - 1, by omega⟩
    have hm : m = 3 := by omega
    subst hm
    refine ⟨L, ?_, fun i' hi' k hk => ?_, fun _ _ => rfl⟩
    · rw [LO_O_weighFromFront_18, if_pos (by decide), nI_1]
    · by_cases e : i' = i
      · subst e; exact q k hk
      · exact p i' (by omega) k hk
  | succ j ih =>
    intro m f L hm hf p q
    obtain ⟨f, rfl⟩ : ∃ z, f = z + 1 := ⟨f - 1, by omega⟩
    have key : LO_O_weighFromFront_18 fu kx (f + 1) (nI i) (nI m) I L = LO_O_weighFromFront_18 fu kx f (nI i) (nI (m + 1)) I (sL L 323 (3 * i + m) (lN (Fr c S i m))) := by
      rw [LO_O_weighFromFront_18]
      cases i with
      | zero =>
        simp (disch := omega) only [l_0, show (17 : Int32) = nI 17 from rfl, show (18 : Int32) = nI 18 from rfl, l_1, l_2, l_3, l_4, l_5, l_6, l_7, l_8, l_9, l_10, l_11, l_12, l_13, l_15, l_24, l_30, l_36, l_42, l_51, l_60, l_66, l_71, l_77, l_90, l_99, l_100, l_101, l_300, l_557, l_431, l_1511, l_1541, l_9999, l_2724, l_681, l_255, nI_add, pk_mul, pk_sub, Nat.add_sub_cancel, nI_clamp, nI_leI, nI_ltI, nI_eq, if_pos, if_neg, if_true, if_false, Option.bind_some, x_sw h hi (show m < 3 by omega), nI_l (show S 0 m < 2 ^ 31 by have := (h.2 0 hi).elim (fun x hx => (hx.2.2.2 m (by omega)).2.2); omega)]
        rw [show (1 : Int64) = lN 1 from rfl, lN_mul, Nat.one_mul, Nat.mul_comm 0 3]
        rfl
      | succ i =>
        have s9 : S (i + 1) m ≤ 9 := (h.2 (i + 1) hi).elim (fun x hx => (hx.2.2.2 m (by omega)).2.2)
        have cm := x_comes (fu := fu) (L := L) hfu h (show i < 6 by omega) (show m < 3 by omega) (fun k hk => p i (by omega) k hk)
        simp (disch := omega) only [l_0, show (17 : Int32) = nI 17 from rfl, show (18 : Int32) = nI 18 from rfl, l_1, l_2, l_3, l_4, l_5, l_6, l_7, l_8, l_9, l_10, l_11, l_12, l_13, l_15, l_24, l_30, l_36, l_42, l_51, l_60, l_66, l_71, l_77, l_90, l_99, l_100, l_101, l_300, l_557, l_431, l_1511, l_1541, l_9999, l_2724, l_681, l_255, nI_add, pk_mul, pk_sub, Nat.add_sub_cancel, nI_clamp, nI_leI, nI_ltI, nI_eq, if_pos, if_neg, if_true, if_false, Option.bind_some, x_sw h hi (show m < 3 by omega), cm, nI_l (show S (i + 1) m < 2 ^ 31 by omega), lN_mul]
        rw [Nat.mul_comm (i + 1) 3]
        rfl
    obtain ⟨L', r1, r2, r3⟩ := ih (m + 1) f (sL L 323 (3 * i + m) (lN (Fr c S i m))) (by omega) (by omega) (fun i' hi' k hk => by rw [sM_at, pk_uLn (by omega)]; exact p i' hi' k hk) (fun k hk => by
      rw [sM_at]
      by_cases e : k = m
      · subst e; rw [pk_uLs]
      · rw [pk_uLn (by omega)]; exact q k (by omega))
    exact ⟨L', key.trans r1, r2, fun o ho => by rw [r3 o ho, sM_ne ho]⟩
theorem xf2 {fu n : Nat} {c S : Nat → Nat → Nat} {I J : TI} (hfu : 2000 ≤ fu) (h : MD c S I J) (hn : n ≤ 6) (e1 : I 1 11 = nI n) : ∀ (j i f : Nat) (L : TL), i + j = n → j < f → FrL c S 323 L i → ∃ L', LO_O_weighFromFront_2 fu f (nI i) I L = some ((), I, L') ∧ FrL c S 323 L' n ∧ (∀ o, o ≠ 323 → L' o = L o) := by
  intro j
  induction j with
  | zero =>
    intro i f L hi hf p
    obtain ⟨f, rfl⟩ : ∃ z, f = z + 1 := ⟨f - 1, by omega⟩
    have hi : i = n := by omega
    subst hi
    exact ⟨L, by rw [LO_O_weighFromFront_2, e1, if_pos (Int32.le_refl _)], p, fun _ _ => rfl⟩
  | succ j ih =>
    intro i f L hi hf p
    obtain ⟨f, rfl⟩ : ∃ z, f = z + 1 := ⟨f - 1, by omega⟩
    obtain ⟨L1, r1, r2, r3⟩ := xf1 (fu := fu) (kx := fun x2 I L => LO_O_weighFromFront_2 fu f x2 I L) hfu h (show i < 6 by omega) 3 0 fu L (by omega) (by omega) p (fun k hk => by omega)
    obtain ⟨L2, s1, s2, s3⟩ := ih (i + 1) f L1 (by omega) (by omega) r2
    refine ⟨L2, ?_, s2, fun o ho => by rw [s3 o ho, r3 o ho]⟩
    rw [LO_O_weighFromFront_2, e1, if_neg (nI_ge (by omega) (by omega)), if_neg (show ¬ (6 : Int32) ≤ nI i from nI_ge (b := 6) (by omega) (by omega))]
    exact r1.trans s1
theorem x_front {fu n : Nat} {c S : Nat → Nat → Nat} {I J : TI} {L : TL} (hfu : 2000 ≤ fu) (h : MD c S I J) (hn : n ≤ 6) (e1 : I 1 11 = nI n) : ∃ L', FO_O_weighFromFront fu I L = some ((), I, L') ∧ FrL c S 323 L' n ∧ (∀ o, o ≠ 323 → L' o = L o) :=
  xf2 hfu h hn e1 n 0 fu L (by omega) (by omega) (fun i hi => by omega)
/-- what a row weighs behind the i-th, d places before the last -/
def Bk (c S : Nat → Nat → Nat) : Nat → Nat → Nat → Nat
  | 0, _, _ => 1
  | d + 1, i, m => c m 0 * S (i + 1) 0 * Bk c S d (i + 1) 0 + c m 1 * S (i + 1) 1 * Bk c S d (i + 1) 1 + c m 2 * S (i + 1) 2 * Bk c S d (i + 1) 2
def Hv (c S : Nat → Nat → Nat) : Nat → Nat → Nat → Nat
  | 0, _, _ => 1
  | d + 1, i, m => max (max (c m 0 * S (i + 1) 0 * Hv c S d (i + 1) 0) (c m 1 * S (i + 1) 1 * Hv c S d (i + 1) 1)) (c m 2 * S (i + 1) 2 * Hv c S d (i + 1) 2)
theorem le9 {c S I J} (h : MD c S I J) : (∀ m k, m < 3 → k < 3 → c m k ≤ 9) ∧ (∀ i m, i < 6 → m < 3 → S i m ≤ 9) :=
  ⟨fun m k hm hk => (h.1 m k hm hk).2.2, fun i m hi hm => (h.2 i hi).elim (fun _ hx => (hx.2.2.2 m hm).2.2)⟩
theorem mul3 {a b x A B X : Nat} (h1 : a ≤ A) (h2 : b ≤ B) (h3 : x ≤ X) : a * b * x ≤ A * B * X := Nat.mul_le_mul (Nat.mul_le_mul h1 h2) h3
theorem Bk_b {c S : Nat → Nat → Nat} (hc : ∀ m k, m < 3 → k < 3 → c m k ≤ 9) (hS : ∀ i m, i < 6 → m < 3 → S i m ≤ 9) : ∀ (d i m : Nat), i + d < 6 → m < 3 → Bk c S d i m ≤ 243 ^ d := by
  intro d
  induction d with
  | zero => intro i m _ _; exact Nat.le_refl 1
  | succ d ih =>
    intro i m hi hm
    rw [Bk, Nat.pow_succ]
    have h0 := mul3 (hc m 0 hm (by omega)) (hS (i + 1) 0 (by omega) (by omega)) (ih (i + 1) 0 (by omega) (by omega))
    have h1 := mul3 (hc m 1 hm (by omega)) (hS (i + 1) 1 (by omega) (by omega)) (ih (i + 1) 1 (by omega) (by omega))
    have h2 := mul3 (hc m 2 hm (by omega)) (hS (i + 1) 2 (by omega) (by omega)) (ih (i + 1) 2 (by omega) (by omega))
    omega
theorem Hv_b {c S : Nat → Nat → Nat} : ∀ (d i m : Nat), Hv c S d i m ≤ Bk c S d i m := by
  intro d
  induction d with
  | zero => intro i m; exact Nat.le_refl 1
  | succ d ih =>
    intro i m
    rw [Bk, Hv]
    have h0 := Nat.mul_le_mul_left (c m 0 * S (i + 1) 0) (ih (i + 1) 0)
    have h1 := Nat.mul_le_mul_left (c m 1 * S (i + 1) 1) (ih (i + 1) 1)
    have h2 := Nat.mul_le_mul_left (c m 2 * S (i + 1) 2) (ih (i + 1) 2)
    omega
theorem Fr_b {c S : Nat → Nat → Nat} (hc : ∀ m k, m < 3 → k < 3 → c m k ≤ 9) (hS : ∀ i m, i < 6 → m < 3 → S i m ≤ 9) : ∀ (i m : Nat), i < 6 → m < 3 → Fr c S i m ≤ 9 * 243 ^ i := by
  intro i
  induction i with
  | zero => intro m hi hm; have := hS 0 m hi hm; rw [Fr]; omega
  | succ i ih =>
    intro m hi hm
    rw [Fr, Nat.pow_succ]
    have h0 := Nat.mul_le_mul (ih 0 (by omega) (by omega)) (hc 0 m (by omega) hm)
    have h1 := Nat.mul_le_mul (ih 1 (by omega) (by omega)) (hc 1 m (by omega) hm)
    have h2 := Nat.mul_le_mul (ih 2 (by omega) (by omega)) (hc 2 m (by omega) hm)
    have := Nat.mul_le_mul (show Fr c S i 0 * c 0 m + Fr c S i 1 * c 1 m + Fr c S i 2 * c 2 m ≤ 243 * 243 ^ i by omega) (hS (i + 1) m hi hm)
    omega
/-- all rows weigh the same, at whatever place they are cut -/
theorem FB_step {c S : Nat → Nat → Nat} (d i : Nat) : Fr c S i 0 * Bk c S (d + 1) i 0 + Fr c S i 1 * Bk c S (d + 1) i 1 + Fr c S i 2 * Bk c S (d + 1) i 2 = Fr c S (i + 1) 0 * Bk c S d (i + 1) 0 + Fr c S (i + 1) 1 * Bk c S d (i + 1) 1 + Fr c S (i + 1) 2 * Bk c S d (i + 1) 2 := by
  simp only [Fr, Bk]
  grind
theorem FB_all {c S : Nat → Nat → Nat} : ∀ (d i : Nat), Fr c S i 0 * Bk c S d i 0 + Fr c S i 1 * Bk c S d i 1 + Fr c S i 2 * Bk c S d i 2 = Fr c S (i + d) 0 + Fr c S (i + d) 1 + Fr c S (i + d) 2 := by
  intro d
  induction d with
  | zero => intro i; simp only [Bk, Nat.mul_one, Nat.add_zero]
  | succ d ih => intro i; rw [FB_step, ih (i + 1), show i + 1 + d = i + (d + 1) by omega]
