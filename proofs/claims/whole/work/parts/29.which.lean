/-! which stair, who fits, pairs in one place -/
theorem and1 (x : Int32) : x &&& 1 = nI 0 ∨ x &&& 1 = nI 1 := by
  obtain ⟨j, hj, e⟩ := pk_andE x (m := 1) 1 (by decide)
  have : j = 0 ∨ j = 1 := by omega
  rcases this with rfl | rfl
  · exact Or.inl e
  · exact Or.inr e
theorem lk_win {fu n p : Nat} {I J : TI} {L K : TL} (s : SR (aN I) (J 332)) (hn : n ≤ 6) (t1 : F_X_tenants I = nI n) {kx : Int32 → Int32 → Int32 → TI → TL → Option (Int32 × TI × TL)} {km : Int32 → Int32 → Int32 → Int32 → TI → TL → Option (Int32 × TI × TL)} {x1 x2 y2 y3 : Int32} :
    ∀ (j k f g w : Nat), k + j = n → j < f → j < g → w ≤ k → ∃ w', w' ≤ n ∧ LO_X_which_30 fu kx f x1 x2 (nI p) (nI w) (nI k) I L = LO_X_which_30 fu kx 1 x1 x2 (nI p) (nI w') (nI n) I L ∧ LO_M_which_34 fu km g (nI n) y2 y3 (nI p) (nI w) (nI k) J K = LO_M_which_34 fu km 1 (nI n) y2 y3 (nI p) (nI w') (nI n) J K := by
  intro j
  induction j with
  | zero =>
    intro k f g w hk hf hg hw
    obtain ⟨f, rfl⟩ : ∃ z, f = z + 1 := ⟨f - 1, by omega⟩
    obtain ⟨g, rfl⟩ : ∃ z, g = z + 1 := ⟨g - 1, by omega⟩
    have hk : k = n := by omega
    subst hk
    refine ⟨w, hw, ?_, ?_⟩
    · rw [LO_X_which_30, LO_X_which_30, t1, if_pos (Int32.le_refl _), if_pos (Int32.le_refl _)]
    · rw [LO_M_which_34, LO_M_which_34, if_pos (Int32.le_refl _), if_pos (Int32.le_refl _)]
  | succ j ih =>
    intro k f g w hk hf hg hw
    obtain ⟨f, rfl⟩ : ∃ z, f = z + 1 := ⟨f - 1, by omega⟩
    obtain ⟨g, rfl⟩ : ∃ z, g = z + 1 := ⟨g - 1, by omega⟩
    rcases and1 (I 130 k >>> (nI p &&& 31)) with h | h
    · obtain ⟨w', h1, h2, h3⟩ := ih (k + 1) f g w (by omega) (by omega) (by omega) (by omega)
      refine ⟨w', h1, ?_, ?_⟩
      · rw [LO_X_which_30, t1, if_neg (nI_ge (by omega) (by omega)), nI_clamp (by omega), h, if_pos (show (0 : Int32) ≤ nI k ∧ nI k < 6 from ⟨nI_pos' (by omega), nI_lt (b := 6) (by omega) (by omega)⟩), nI_add, nI_1]
        exact h2
      · rw [LO_M_which_34, if_neg (nI_ge (by omega) (by omega)), show (36 : Int32) + nI k = nI (36 + k) from nI_add 36 k, nI_clamp (by omega), s.f_pr k (by omega), if_pos (show (0 : Int32) ≤ nI (36 + k) ∧ nI (36 + k) < 1541 from ⟨nI_pos' (by omega), nI_lt (b := 1541) (by omega) (by omega)⟩)]
        unfold FO_M_has
        rw [h, if_neg (by decide)]
        simp only [Option.bind_some]
        rw [if_pos trivial, Int32.add_zero, nI_1]
        exact h3
    · obtain ⟨w', h1, h2, h3⟩ := ih (k + 1) f g (w + 1) (by omega) (by omega) (by omega) (by omega)
      refine ⟨w', h1, ?_, ?_⟩
      · rw [LO_X_which_30, t1, if_neg (nI_ge (by omega) (by omega)), nI_clamp (by omega), h, if_pos (show (0 : Int32) ≤ nI k ∧ nI k < 6 from ⟨nI_pos' (by omega), nI_lt (b := 6) (by omega) (by omega)⟩), nI_add, nI_1]
        exact h2
      · rw [LO_M_which_34, if_neg (nI_ge (by omega) (by omega)), show (36 : Int32) + nI k = nI (36 + k) from nI_add 36 k, nI_clamp (by omega), s.f_pr k (by omega), if_pos (show (0 : Int32) ≤ nI (36 + k) ∧ nI (36 + k) < 1541 from ⟨nI_pos' (by omega), nI_lt (b := 1541) (by omega) (by omega)⟩)]
        unfold FO_M_has
        rw [h, if_pos (by decide)]
        simp only [Option.bind_some]
        rw [if_neg i10, nI_1, nI_1]
        exact h3
theorem lk_which {fu n : Nat} {I J : TI} {L K : TL} (hfu : 2000 ≤ fu) (s : SR (aN I) (J 332)) (hn : n ≤ 6) (hn1 : 1 < n) (t1 : F_X_tenants I = nI n) (e1 : I 1 2 = nI n) : ∀ (j p f g a b : Nat) (x2 : Int32), p + j = 13 → j < f → j < g → ((a = 7 ∧ b = 1000000) ∨ (a = b ∧ a ≤ 6)) → ∃ r, LO_X_which_7 fu f (nI a) x2 (nI p) I L = some (r, I, L) ∧ LO_M_which_16 fu g (nI n) x2 (nI b) (nI p) J K = some (r, J, K) := by
  intro j
  induction j with
  | zero =>
    intro p f g a b x2 hp hf hg hi
    obtain ⟨f, rfl⟩ : ∃ z, f = z + 1 := ⟨f - 1, by omega⟩
    obtain ⟨g, rfl⟩ : ∃ z, g = z + 1 := ⟨g - 1, by omega⟩
    have hp : p = 13 := by omega
    subst hp
    refine ⟨x2, ?_, ?_⟩
    · rw [LO_X_which_7, if_pos (by decide)]
    · rw [LO_M_which_16, if_pos (by decide)]
  | succ j ih =>
    intro p f g a b x2 hp hf hg hi
    obtain ⟨f, rfl⟩ : ∃ z, f = z + 1 := ⟨f - 1, by omega⟩
    obtain ⟨g, rfl⟩ : ∃ z, g = z + 1 := ⟨g - 1, by omega⟩
    obtain ⟨w, hw, h1, h2⟩ := lk_win (fu := fu) (p := p) (I := I) (J := J) (L := L) (K := K) s hn t1 (kx := fun x1 x2 x3 I L => LO_X_which_7 fu f x1 x2 x3 I L) (km := fun x1 x2 x3 x4 I L => LO_M_which_16 fu g x1 x2 x3 x4 I L) (x1 := nI a) (x2 := x2) (y2 := x2) (y3 := nI b) n 0 fu fu 0 (by omega) (by omega) (by omega) (by omega)
    rw [LO_X_which_7, LO_M_which_16, if_neg (show ¬ (12 : Int32) < nI p from nI_nlt (a := 12) (by omega) (by omega)), if_neg (show ¬ (12 : Int32) < nI p from nI_nlt (a := 12) (by omega) (by omega)), e1, if_neg (show ¬ nI n ≤ 1 from nI_ge (a := 1) (by omega) (by omega)), if_neg (show ¬ nI n ≤ 1 from nI_ge (a := 1) (by omega) (by omega))]
    rw [show LO_X_which_30 fu (fun x1 x2 x3 I L => LO_X_which_7 fu f x1 x2 x3 I L) fu (nI a) x2 (nI p) 0 0 I L = _ from h1, show LO_M_which_34 fu (fun x1 x2 x3 x4 I L => LO_M_which_16 fu g x1 x2 x3 x4 I L) fu (nI n) x2 (nI b) (nI p) 0 0 J K = _ from h2]
    rw [LO_X_which_30, LO_M_which_34, t1, e1, if_pos (Int32.le_refl _), if_pos (Int32.le_refl _), pk_sub hw, jmax, nI_1]
    by_cases c : n - w ≤ w
    · rw [if_pos (nI_le c (by omega))]
      by_cases c2 : w < a
      · rw [if_neg (nI_ge c2 (by omega))]
        by_cases c3 : w ≤ n - w
        · have hw2 : n - w = w := by omega
          rw [if_pos (nI_le c3 (by omega)), hw2, if_pos (nI_lt (show w < b by omega) (by omega))]
          exact ih (p + 1) f g w w (nI p) (by omega) (by omega) (by omega) (Or.inr ⟨rfl, by omega⟩)
        · rw [if_neg (nI_ge (by omega) (by omega)), if_pos (nI_lt (show w < b by omega) (by omega))]
          exact ih (p + 1) f g w w (nI p) (by omega) (by omega) (by omega) (Or.inr ⟨rfl, by omega⟩)
      · rw [if_pos (nI_le (show a ≤ w by omega) (by omega))]
        by_cases c3 : w ≤ n - w
        · rw [if_pos (nI_le c3 (by omega)), if_neg (nI_nlt (show b ≤ n - w by omega) (by omega))]
          exact ih (p + 1) f g a b x2 (by omega) (by omega) (by omega) hi
        · rw [if_neg (nI_ge (by omega) (by omega)), if_neg (nI_nlt (show b ≤ w by omega) (by omega))]
          exact ih (p + 1) f g a b x2 (by omega) (by omega) (by omega) hi
    · rw [if_neg (nI_ge (by omega) (by omega)), if_pos (nI_le (show w ≤ n - w by omega) (by omega))]
      by_cases c2 : n - w < a
      · rw [if_neg (nI_ge c2 (by omega)), if_pos (nI_lt (show n - w < b by omega) (by omega))]
        exact ih (p + 1) f g (n - w) (n - w) (nI p) (by omega) (by omega) (by omega) (Or.inr ⟨rfl, by omega⟩)
      · rw [if_pos (nI_le (show a ≤ n - w by omega) (by omega)), if_neg (nI_nlt (show b ≤ n - w by omega) (by omega))]
        exact ih (p + 1) f g a b x2 (by omega) (by omega) (by omega) hi
theorem op_which {T : TI → (Nat → Int32) → Prop} {fu : Nat} (hfu : 2000 ≤ fu) : OpR T (fun I L => FO_X_which fu  I L) (fun I L => FO_M_which fu  I L) := by
  refine OpR_q (fun I J L K hR => ?_)
  have s := hR.s
  obtain ⟨n, hn, e1, e2, t1⟩ := ten s
  unfold FO_X_which FO_M_which
  rw [e2]
  by_cases h : 1 < n
  · exact lk_which (fu := fu) (n := n) (L := L) (K := K) hfu s hn h t1 e1 12 1 fu fu 7 1000000 (-1) (by omega) (by omega) (by omega) (Or.inl ⟨rfl, rfl⟩)
  · obtain ⟨f, rfl⟩ : ∃ z, fu = z + 1 := ⟨fu - 1, by omega⟩
    refine ⟨-1, ?_, ?_⟩
    · rw [LO_X_which_7, if_neg (by decide), e1, if_pos (show nI n ≤ 1 from nI_le (b := 1) (by omega) (by omega))]
    · rw [LO_M_which_16, if_neg (by decide), if_pos (show nI n ≤ 1 from nI_le (b := 1) (by omega) (by omega))]
def jbc (p : Int32) : Int32 := match FO_J_bitCount 0 p (fun _ _ => 0) (fun _ _ => 0) with | some r => r.1 | none => 0
theorem j_bits {fu : Nat} {p : Int32} {I : TI} {L : TL} : FO_J_bitCount fu p I L = some (jbc p, I, L) := rfl
def bitsP : Nat → Int32 → Int32 → Option Int32
  | 0, _, _ => none
  | n + 1, a, x => if x = 0 then some a else bitsP n (a + 1) (x &&& (x - 1))
theorem bitsP_up : ∀ (n m : Nat) (a x r : Int32), n ≤ m → bitsP n a x = some r → bitsP m a x = some r := by
  intro n
  induction n with
  | zero => intro m a x r _ h; cases h
  | succ n ih =>
    intro m a x r hm h
    obtain ⟨m, rfl⟩ : ∃ z, m = z + 1 := ⟨m - 1, by omega⟩
    rw [bitsP] at h ⊢
    by_cases c : x = 0
    · rw [if_pos c] at h ⊢; exact h
    · rw [if_neg c] at h ⊢; exact ih m _ _ _ (by omega) h
theorem m_bitsP {fu : Nat} {I : TI} {L : TL} : ∀ (n : Nat) (p a x : Int32), LO_M_bits_4 fu n p a x I L = (bitsP n a x).map (fun r => (r, I, L)) := by
  intro n
  induction n with
  | zero => intro p a x; rfl
  | succ n ih =>
    intro p a x
    rw [LO_M_bits_4, bitsP]
    by_cases c : x = 0
    · rw [if_pos c, if_pos c]; rfl
    · rw [if_neg c, if_neg c]; exact ih _ _ _
theorem bits_all2 : ∀ h, h < 64 → ∀ l, l < 64 → bitsP 14 0 (nI (2 * (64 * h + l))) = some (jbc (nI (2 * (64 * h + l)))) := by decide +kernel
theorem bits_all (m : Nat) (hm : m < 4096) : bitsP 14 0 (nI (2 * m)) = some (jbc (nI (2 * m))) := by
  have := bits_all2 (m / 64) (by omega) (m % 64) (by omega)
  rw [show 64 * (m / 64) + m % 64 = m by omega] at this
  exact this
theorem m_bits {fu : Nat} {p : Int32} {I : TI} {L : TL} (hfu : 14 ≤ fu) (h : ss p) : FO_M_bits fu p I L = some (jbc p, I, L) := by
  obtain ⟨m, hm, rfl⟩ := h
  unfold FO_M_bits
  rw [m_bitsP, bitsP_up 14 fu 0 _ _ hfu (bits_all m (by omega))]
  rfl
theorem nxor (a b : Nat) : nI a ^^^ nI b = nI (a ^^^ b) := by
  apply Int32.toBitVec_inj.mp
  show BitVec.ofNat 32 a ^^^ BitVec.ofNat 32 b = BitVec.ofNat 32 (a ^^^ b)
  apply BitVec.eq_of_toNat_eq
  simp [BitVec.toNat_xor, BitVec.toNat_ofNat, Nat.xor_mod_two_pow]
theorem ss_xor {x y : Int32} (hx : ss x) (hy : ss y) : ss (x ^^^ y) := by
  obtain ⟨a, ha, rfl⟩ := hx
  obtain ⟨b, hb, rfl⟩ := hy
  refine ⟨a ^^^ b, ?_, ?_⟩
  · have := Nat.xor_lt_two_pow (x := a) (y := b) (n := 12) (by omega) (by omega)
    omega
  · rw [nxor]
    congr 1
    apply Nat.eq_of_testBit_eq
    intro i
    cases i with
    | zero => simp
    | succ i =>
      rw [Nat.testBit_xor, Nat.testBit_succ, Nat.testBit_succ, Nat.testBit_succ, Nat.mul_div_cancel_left _ (by omega), Nat.mul_div_cancel_left _ (by omega), Nat.mul_div_cancel_left _ (by omega), Nat.testBit_xor]
theorem lk_fits {fu n : Nat} {I J : TI} {L K : TL} {p q : Int32} (hfu : 2000 ≤ fu) (s : SR (aN I) (J 332)) (hn : n ≤ 6) (t1 : F_X_tenants I = nI n) (t2 : J 332 0 = nI n) (hp : ss p) : ∀ (j k f g : Nat) (a : Int32), k + j = n → j < f → j < g → ∃ r, LO_X_fits_24 fu f p q a (nI k) I L = some (r, I, L) ∧ LO_M_fits_24 fu g p q a (nI k) J K = some (r, J, K) := by
  intro j
  induction j with
  | zero =>
    intro k f g a hk hf hg
    obtain ⟨f, rfl⟩ : ∃ z, f = z + 1 := ⟨f - 1, by omega⟩
    obtain ⟨g, rfl⟩ : ∃ z, g = z + 1 := ⟨g - 1, by omega⟩
    have hk : k = n := by omega
    subst hk
    refine ⟨a, ?_, ?_⟩
    · rw [LO_X_fits_24, t1, if_pos (Int32.le_refl _)]
    · rw [LO_M_fits_24, t2, if_pos (Int32.le_refl _)]
  | succ j ih =>
    intro k f g a hk hf hg
    obtain ⟨f, rfl⟩ : ∃ z, f = z + 1 := ⟨f - 1, by omega⟩
    obtain ⟨g, rfl⟩ : ∃ z, g = z + 1 := ⟨g - 1, by omega⟩
    have hs : ss (I 130 k ^^^ p) := ss_xor (s.pr k (by omega)).2 hp
    rw [LO_X_fits_24, LO_M_fits_24, t1, t2, if_neg (nI_ge (by omega) (by omega)), if_neg (nI_ge (by omega) (by omega)), show (36 : Int32) + nI k = nI (36 + k) from nI_add 36 k, nI_clamp (by omega), nI_clamp (by omega), s.f_pr k (by omega), j_bits, m_bits (by omega) hs, if_pos (show (0 : Int32) ≤ nI k ∧ nI k < 6 from ⟨nI_pos' (by omega), nI_lt (b := 6) (by omega) (by omega)⟩), if_pos (show (0 : Int32) ≤ nI (36 + k) ∧ nI (36 + k) < 1541 from ⟨nI_pos' (by omega), nI_lt (b := 1541) (by omega) (by omega)⟩), nI_1]
    simp only [Option.bind_some]
    by_cases h : q < jbc (I 130 k ^^^ p)
    · rw [if_pos h, if_pos h, Int32.or_zero]
      exact ih (k + 1) f g _ (by omega) (by omega) (by omega)
    · rw [if_neg h, if_neg h]
      exact ih (k + 1) f g _ (by omega) (by omega) (by omega)
theorem op_fits {T : TI → (Nat → Int32) → Prop} {fu : Nat} (hfu : 2000 ≤ fu) (p q : Int32) : OpR T (fun I L => FO_X_fits fu p q I L) (fun I L => FO_M_fits fu p q I L) := by
  refine OpR_q (fun I J L K hR => ?_)
  have s := hR.s
  obtain ⟨n, hn, e1, e2, t1⟩ := ten s
  unfold FO_X_fits FO_M_fits
  by_cases c : p &&& (-8191) = 0
  · rw [if_pos c, if_pos c]
    by_cases c2 : 0 ≤ q ∧ q ≤ 12
    · rw [if_pos c2, if_pos c2]
      exact lk_fits (n := n) hfu s hn t1 e2 (mask_ss c) n 0 fu fu 0 (by omega) (by omega) (by omega)
    · rw [if_neg c2, if_neg c2]; exact ⟨_, rfl, rfl⟩
  · rw [if_neg c, if_neg c]; exact ⟨_, rfl, rfl⟩
def acc (p : Nat → Int32) (j : Nat) : Nat → Int32 → Int32
  | 0, a => a
  | m + 1, a => acc p (j + 1) m (a + p j)
def eqI (x y : Int32) : Int32 := if x = y then 1 else 0
theorem lx_dbl {fu i : Nat} {I : TI} {L : TL} {kx : Int32 → Int32 → TI → TL → Option (Int32 × TI × TL)} (hi : i < 6) : ∀ (m j f : Nat) (a : Int32), j + m = i → m < f → LO_X_doubles_14 fu kx f a (nI i) (nI j) I L = kx (acc (fun t => eqI (I 3 i) (I 3 t)) j m a) (nI (i + 1)) I L := by
  intro m
  induction m with
  | zero =>
    intro j f a hj hf
    obtain ⟨f, rfl⟩ : ∃ z, f = z + 1 := ⟨f - 1, by omega⟩
    have hj : j = i := by omega
    subst hj
    rw [LO_X_doubles_14, if_pos (Int32.le_refl _), nI_1]
    rfl
  | succ m ih =>
    intro j f a hj hf
    obtain ⟨f, rfl⟩ : ∃ z, f = z + 1 := ⟨f - 1, by omega⟩
    rw [LO_X_doubles_14]
    simp (disch := omega) only [l_0, l_1, l_2, l_3, l_4, l_5, l_6, l_7, l_8, l_9, l_10, l_11, l_12, l_13, l_15, l_24, l_30, l_36, l_42, l_51, l_60, l_66, l_71, l_77, l_90, l_99, l_100, l_101, l_300, l_557, l_431, l_1511, l_1541, l_9999, l_2724, l_681, l_255, nI_add, pk_mul, pk_sub, Nat.add_sub_cancel, nI_clamp, nI_leI, nI_ltI, nI_eq, if_pos, if_neg, if_true, if_false, Option.bind_some]
    rw [acc]
    unfold eqI
    by_cases h : I 3 i = I 3 j
    · rw [if_pos h, if_pos h]
      exact ih (j + 1) f _ (by omega) (by omega)
    · rw [if_neg h, if_neg h, Int32.add_zero]
      exact ih (j + 1) f _ (by omega) (by omega)
theorem lm_dbl {fu n i : Nat} {I J : TI} {K : TL} {km : Int32 → Int32 → TI → TL → Option (Int32 × TI × TL)} (s : SR (aN I) (J 332)) (hn : n ≤ 6) (t2 : J 332 0 = nI n) (hi : i < n) : ∀ (m j g : Nat) (a : Int32), j + m = n → m < g → LO_M_doubles_18 fu km g a (nI i) (nI j) J K = km (acc (fun t => eqI (I 3 i) (I 3 t)) j m a) (nI (i + 1)) J K := by
  intro m
  induction m with
  | zero =>
    intro j f a hj hf
    obtain ⟨f, rfl⟩ : ∃ z, f = z + 1 := ⟨f - 1, by omega⟩
    have hj : j = n := by omega
    subst hj
    rw [LO_M_doubles_18, t2, if_pos (Int32.le_refl _), nI_1]
    rfl
  | succ m ih =>
    intro j f a hj hf
    obtain ⟨f, rfl⟩ : ∃ z, f = z + 1 := ⟨f - 1, by omega⟩
    rw [LO_M_doubles_18]
    simp (disch := omega) only [l_0, l_1, l_2, l_3, l_4, l_5, l_6, l_7, l_8, l_9, l_10, l_11, l_12, l_13, l_15, l_24, l_30, l_36, l_42, l_51, l_60, l_66, l_71, l_77, l_90, l_99, l_100, l_101, l_300, l_557, l_431, l_1511, l_1541, l_9999, l_2724, l_681, l_255, nI_add, pk_mul, pk_sub, Nat.add_sub_cancel, nI_clamp, nI_leI, nI_ltI, nI_eq, if_pos, if_neg, if_true, if_false, Option.bind_some, t2, m_place, s.f_pl]
    rw [acc]
    unfold eqI
    by_cases h : I 3 i = I 3 j
    · rw [if_pos h, if_pos h]
      exact ih (j + 1) f _ (by omega) (by omega)
    · rw [if_neg h, if_neg h]
      exact ih (j + 1) f _ (by omega) (by omega)
def sumX (q : Nat → Nat → Int32) (i : Nat) : Nat → Int32 → Int32
  | 0, a => a
  | m + 1, a => sumX q (i + 1) m (acc (q i) 0 i a)
def sumM (q : Nat → Nat → Int32) (n i : Nat) : Nat → Int32 → Int32
  | 0, a => a
  | m + 1, a => sumM q n (i + 1) m (acc (q i) (i + 1) (n - (i + 1)) a)
theorem lx_dbl2 {fu n : Nat} {I : TI} {L : TL} (hfu : 2000 ≤ fu) (hn : n ≤ 6) (t1 : F_X_tenants I = nI n) : ∀ (m i f : Nat) (a : Int32), i + m = n → m < f → LO_X_doubles_4 fu f a (nI i) I L = some (sumX (fun i t => eqI (I 3 i) (I 3 t)) i m a, I, L) := by
  intro m
  induction m with
  | zero =>
    intro i f a hj hf
    obtain ⟨f, rfl⟩ : ∃ z, f = z + 1 := ⟨f - 1, by omega⟩
    have hj : i = n := by omega
    subst hj
    rw [LO_X_doubles_4, t1, if_pos (Int32.le_refl _)]
    rfl
  | succ m ih =>
    intro i f a hj hf
    obtain ⟨f, rfl⟩ : ∃ z, f = z + 1 := ⟨f - 1, by omega⟩
    rw [LO_X_doubles_4, t1, if_neg (nI_ge (by omega) (by omega))]
    rw [show LO_X_doubles_14 fu (fun x1 x2 I L => LO_X_doubles_4 fu f x1 x2 I L) fu a (nI i) 0 I L = _ from lx_dbl (by omega) i 0 fu a (by omega) (by omega)]
    exact ih (i + 1) f _ (by omega) (by omega)
theorem lm_dbl2 {fu n : Nat} {I J : TI} {K : TL} (hfu : 2000 ≤ fu) (s : SR (aN I) (J 332)) (hn : n ≤ 6) (t2 : J 332 0 = nI n) : ∀ (m i f : Nat) (a : Int32), i + m = n → m < f → LO_M_doubles_4 fu f a (nI i) J K = some (sumM (fun i t => eqI (I 3 i) (I 3 t)) n i m a, J, K) := by
  intro m
  induction m with
  | zero =>
    intro i f a hj hf
    obtain ⟨f, rfl⟩ : ∃ z, f = z + 1 := ⟨f - 1, by omega⟩
    have hj : i = n := by omega
    subst hj
    rw [LO_M_doubles_4, t2, if_pos (Int32.le_refl _)]
    rfl
  | succ m ih =>
    intro i f a hj hf
    obtain ⟨f, rfl⟩ : ∃ z, f = z + 1 := ⟨f - 1, by omega⟩
    rw [LO_M_doubles_4, t2, if_neg (nI_ge (by omega) (by omega)), nI_1]
    rw [show LO_M_doubles_18 fu (fun x1 x2 I L => LO_M_doubles_4 fu f x1 x2 I L) fu a (nI i) (nI (i + 1)) J K = _ from lm_dbl s hn t2 (by omega) (n - (i + 1)) (i + 1) fu a (by omega) (by omega)]
    exact ih (i + 1) f _ (by omega) (by omega)
theorem sum_sym {q : Nat → Nat → Int32} (hq : ∀ i j, q i j = q j i) {n : Nat} (hn : n ≤ 6) : sumX q 0 n 0 = sumM q n 0 n 0 := by
  have : n = 0 ∨ n = 1 ∨ n = 2 ∨ n = 3 ∨ n = 4 ∨ n = 5 ∨ n = 6 := by omega
  rcases this with rfl | rfl | rfl | rfl | rfl | rfl | rfl <;> simp only [sumX, sumM, acc, Nat.reduceAdd, Nat.reduceSub, Nat.zero_add, hq 1 0, hq 2 0, hq 2 1, hq 3 0, hq 3 1, hq 3 2, hq 4 0, hq 4 1, hq 4 2, hq 4 3, hq 5 0, hq 5 1, hq 5 2, hq 5 3, hq 5 4] <;> grind
theorem op_doubles {T : TI → (Nat → Int32) → Prop} {fu : Nat} (hfu : 2000 ≤ fu) : OpR T (fun I L => FO_X_doubles fu  I L) (fun I L => FO_M_doubles fu  I L) := by
  refine OpR_q (fun I J L K hR => ?_)
  have s := hR.s
  obtain ⟨n, hn, e1, e2, t1⟩ := ten s
  refine ⟨_, lx_dbl2 hfu hn t1 n 0 fu 0 (by omega) (by omega), ?_⟩
  rw [sum_sym (fun i j => by unfold eqI; simp only [eq_comm]) hn]
  exact lm_dbl2 hfu s hn e2 n 0 fu 0 (by omega) (by omega)
