/-! mood, next -/
theorem U_le {c S : Nat → Nat → Nat} {n i m : Nat} (hi : i < n) (hm : m < 3) : Fr c S i m * Bk c S (n - 1 - i) i m ≤ Al c S n := by
  have fb := FB_all (c := c) (S := S) (n - 1 - i) i
  rw [show i + (n - 1 - i) = n - 1 by omega] at fb
  unfold Al
  rw [if_neg (by omega), ← fb]
  have : m = 0 ∨ m = 1 ∨ m = 2 := by omega
  rcases this with rfl | rfl | rfl <;> omega
theorem op_mood {T : TI → (Nat → Int32) → Prop} {fu : Nat} (hfu : 2000 ≤ fu) (p q w : Int32) : OpR T (fun I L => FO_X_mood fu p q w I L) (fun I L => FO_M_mood fu p q w I L) := by
  refine OpR_s (fun I J L K hR => ?_)
  have s := hR.s
  obtain ⟨c, S, md⟩ := s.md
  obtain ⟨n, hn, e1, e2⟩ := s.f_so
  have is := m_isS (fu := fu) (p := p) (K := K) hn e2
  by_cases h : 0 ≤ p ∧ p ≤ nI n - 1
  · obtain ⟨i, hi, rfl⟩ := ix_of (by omega) h
    by_cases h2 : 0 ≤ q ∧ q ≤ 2
    · obtain ⟨m, hm, rfl⟩ := rng (hi := 2) (by omega) h2.1 h2.2
      have hm : m < 3 := by omega
      have ab := Al_b (n := n) (le9 md).1 (le9 md).2 hn
      have ul := U_le (c := c) (S := S) hi hm
      obtain ⟨L1, a1, a2, a3⟩ := x_front (fu := fu) (L := L) hfu md hn e1
      obtain ⟨L2, b1, b2, b3⟩ := x_back (fu := fu) (h := 0) (L := L1) hfu md hn (by omega) e1 (Or.inl rfl)
      have a2' : FrL c S 323 L2 n := fun i hi m hm => by rw [b3 323 (by omega)]; exact a2 i hi m hm
      obtain ⟨K1, d1, d2, d3⟩ := m_allr (fu := fu) (K := K) hfu md hn e2
      obtain ⟨K2, f1, f2, f3⟩ := m_allr (fu := fu) (K := K1) hfu md hn e2
      have x0 : FO_X_mood fu (nI i) (nI m) w I L = PX (lN (Fr c S i m * Bk c S (n - 1 - i) i m)) (lN (Al c S n)) w (lN (Nat.gcd (Fr c S i m * Bk c S (n - 1 - i) i m) (Al c S n))) I L2 := by
        unfold FO_X_mood
        rw [e1, if_pos h, if_pos h2, a1]
        simp only [Option.bind_some]
        rw [show FO_O_weighFromBack fu 0 I L1 = _ from b1]
        simp only [Option.bind_some]
        rw [x_thr hi hn hm a2' b2]
        simp only [Option.bind_some]
        rw [e1, x_all hfu hn a2']
        simp only [Option.bind_some]
        rw [x_part hfu (by omega) (by omega)]
        cases PX (lN (Fr c S i m * Bk c S (n - 1 - i) i m)) (lN (Al c S n)) w (lN (Nat.gcd (Fr c S i m * Bk c S (n - 1 - i) i m) (Al c S n))) I L2 <;> rfl
      by_cases h0 : Al c S n = 0
      · refine ⟨-1, I, L2, J, K1, ?_, ?_, ScI.rf, ScJ.rf⟩
        · rw [x0, h0]; exact PX_0
        · unfold FO_M_mood
          rw [is, bI_t h]
          simp only [Option.bind_some]
          rw [if_neg i10, if_pos h2, d1]
          simp only [Option.bind_some]
          rw [if_pos ((lN_e0 (by omega)).mpr h0)]
      · have g0 : 0 < Nat.gcd (Fr c S i m * Bk c S (n - 1 - i) i m) (Al c S n) := Nat.gcd_pos_of_pos_right _ (by omega)
        have g1 : Nat.gcd (Fr c S i m * Bk c S (n - 1 - i) i m) (Al c S n) ≤ Al c S n := Nat.gcd_le_right _ (by omega)
        refine ⟨_, I, L2, J, K2, x0.trans (PX_lN (by omega) (by omega) (by omega)), ?_, ScI.rf, ScJ.rf⟩
        unfold FO_M_mood
        rw [is, bI_t h]
        simp only [Option.bind_some]
        rw [if_neg i10, if_pos h2, d1]
        simp only [Option.bind_some]
        rw [if_neg (fun z => h0 ((lN_e0 (by omega)).mp z)), f1]
        simp only [Option.bind_some]
        rw [show (3 : Int32) * nI i + nI m = nI (3 * i + m) from by rw [show (3 : Int32) = nI 3 from rfl, pk_mul, nI_add], if_pos (show (0 : Int32) ≤ nI (3 * i + m) ∧ nI (3 * i + m) < 18 from ⟨nI_pos' (by omega), nI_lt (b := 18) (by omega) (by omega)⟩), if_pos (show (0 : Int32) ≤ nI (3 * i + m) ∧ nI (3 * i + m) < 18 from ⟨nI_pos' (by omega), nI_lt (b := 18) (by omega) (by omega)⟩), nI_clamp (by omega), f2 i hi m hm, (f3 i (by omega) hi m hm).1, lN_mul, m_div hfu (by omega) (by omega)]
        simp only [Option.bind_some]
        rw [if_pos (fun z => by have := (lN0 (by omega)).mp z; omega), if_pos (fun z => by have := (lN0 (by omega)).mp z; omega), pk_lDiv (by omega) g0 (by omega), pk_lDiv (by omega) g0 (by omega)]
        by_cases hw : w = 0
        · rw [if_pos hw, if_pos hw]
        · rw [if_neg hw, if_neg hw]
    · refine ⟨-1, I, L, J, K, ?_, ?_, ScI.rf, ScJ.rf⟩
      · unfold FO_X_mood; rw [e1, if_pos h, if_neg h2]
      · unfold FO_M_mood; rw [is, bI_t h]; simp only [Option.bind_some]; rw [if_neg i10, if_neg h2]
  · refine ⟨-1, I, L, J, K, ?_, ?_, ScI.rf, ScJ.rf⟩
    · unfold FO_X_mood; rw [e1, if_neg h]
    · unfold FO_M_mood; rw [is, bI_f h]; rfl
/-- every weight of a sound -/
def MW (w : Nat → Nat → Nat) (I J : TI) : Prop := ∀ m x, m < 3 → x < 3 → I 132 (3 * m + x) = nI (w m x) ∧ J 332 (51 + 3 * m + x) = nI (w m x) ∧ w m x ≤ 9
theorem SR.mw {I J : TI} (s : SR (aN I) (J 332)) : ∃ w, MW w I J := by
  refine ⟨fun m k => (I 132 (3 * m + k)).toNatClampNeg, fun m k hm hk => ?_⟩
  obtain ⟨e, v, hv, ev⟩ := s.sn (3 * m + k) (by omega)
  have ev : I 132 (3 * m + k) = nI v := ev
  dsimp only
  rw [show 51 + 3 * m + k = 51 + (3 * m + k) by omega, e.trans ev, ev, nI_clamp (by omega)]
  exact ⟨rfl, rfl, hv⟩
/-- what comes to a mood behind all that was heard -/
def Cn (c S : Nat → Nat → Nat) (n m : Nat) : Nat := if n = 0 then 1 else Cm c S (n - 1) m
def Nx (c S w : Nat → Nat → Nat) (n x : Nat) : Nat := Cn c S n 0 * w 0 x + Cn c S n 1 * w 1 x + Cn c S n 2 * w 2 x
theorem Nx_b {c S w : Nat → Nat → Nat} {n x : Nat} {I J : TI} (md : MD c S I J) (mw : MW w I J) (hn : n ≤ 6) (hx : x < 3) : Nx c S w n x < 2 ^ 60 := by
  have c9 := (le9 md).1
  have s9 := (le9 md).2
  have cb : ∀ m, m < 3 → Cn c S n m ≤ 243 * 243 ^ 5 := by
    intro m hm
    unfold Cn
    split
    · omega
    · unfold Cm
      have e : (243 : Nat) ^ (n - 1) ≤ 243 ^ 5 := Nat.pow_le_pow_right (by omega) (by omega)
      have h0 := Nat.mul_le_mul (Fr_b c9 s9 (n - 1) 0 (by omega) (by omega)) (c9 0 m (by omega) hm)
      have h1 := Nat.mul_le_mul (Fr_b c9 s9 (n - 1) 1 (by omega) (by omega)) (c9 1 m (by omega) hm)
      have h2 := Nat.mul_le_mul (Fr_b c9 s9 (n - 1) 2 (by omega) (by omega)) (c9 2 m (by omega) hm)
      omega
  unfold Nx
  have h0 := Nat.mul_le_mul (cb 0 (by omega)) (mw 0 x (by omega) hx).2.2
  have h1 := Nat.mul_le_mul (cb 1 (by omega)) (mw 1 x (by omega) hx).2.2
  have h2 := Nat.mul_le_mul (cb 2 (by omega)) (mw 2 x (by omega) hx).2.2
  omega
theorem x_next {fu n x : Nat} {c S w : Nat → Nat → Nat} {I J : TI} {L : TL} (hfu : 2000 ≤ fu) (md : MD c S I J) (mw : MW w I J) (hn : n ≤ 6) (e1 : I 1 11 = nI n) (hx : x < 3) (p : FrL c S 323 L n) : FO_O_soundsNext fu (nI x) I L = some (lN (Nx c S w n x), I, L) := by
  have st : ∀ (f m a : Nat), m < 3 → LO_O_soundsNext_5 fu (f + 1) (nI x) (lN a) (nI m) I L = LO_O_soundsNext_5 fu f (nI x) (lN (a + Cn c S n m * w m x)) (nI (m + 1)) I L := by
    intro f m a hm
    have w9 := (mw m x hm hx).2.2
    have ew := (mw m x hm hx).1
    rw [LO_O_soundsNext_5, e1]
    unfold Cn
    by_cases h0 : n = 0
    · subst h0
      simp (disch := omega) only [l_0, show (17 : Int32) = nI 17 from rfl, show (18 : Int32) = nI 18 from rfl, l_1, l_2, l_3, l_4, l_5, l_6, l_7, l_8, l_9, l_10, l_11, l_12, l_13, l_15, l_24, l_30, l_36, l_42, l_51, l_60, l_66, l_71, l_77, l_90, l_99, l_100, l_101, l_300, l_557, l_431, l_1511, l_1541, l_9999, l_2724, l_681, l_255, nI_add, pk_mul, pk_sub, Nat.add_sub_cancel, nI_clamp, nI_leI, nI_ltI, nI_eq, if_pos, if_neg, if_true, if_false, Option.bind_some]
      rw [Nat.mul_comm m 3, ew, nI_l (by omega), show (1 : Int64) = lN 1 from rfl, lN_mul, lN_add]
    · have cm := x_comes (fu := fu) (L := L) hfu md (show n - 1 < 6 by omega) hm (fun k hk => p (n - 1) (by omega) k hk)
      simp (disch := omega) only [l_0, show (17 : Int32) = nI 17 from rfl, show (18 : Int32) = nI 18 from rfl, l_1, l_2, l_3, l_4, l_5, l_6, l_7, l_8, l_9, l_10, l_11, l_12, l_13, l_15, l_24, l_30, l_36, l_42, l_51, l_60, l_66, l_71, l_77, l_90, l_99, l_100, l_101, l_300, l_557, l_431, l_1511, l_1541, l_9999, l_2724, l_681, l_255, nI_add, pk_mul, pk_sub, Nat.add_sub_cancel, nI_clamp, nI_leI, nI_ltI, nI_eq, if_pos, if_neg, if_true, if_false, Option.bind_some, cm]
      rw [Nat.mul_comm m 3, ew, nI_l (by omega), lN_mul, lN_add]
  obtain ⟨f, rfl⟩ : ∃ z, fu = z + 4 := ⟨fu - 4, by omega⟩
  unfold FO_O_soundsNext
  rw [show (0 : Int32) = nI 0 from rfl, show (0 : Int64) = lN 0 from rfl, st _ 0 _ (by omega), st _ 1 _ (by omega), st _ 2 _ (by omega), LO_O_soundsNext_5, if_pos (by decide), Nat.zero_add]
  rfl
theorem m_next {fu n x : Nat} {c S w : Nat → Nat → Nat} {I J : TI} {K : TL} (hfu : 2000 ≤ fu) (md : MD c S I J) (mw : MW w I J) (hn : n ≤ 6) (e2 : J 332 4 = nI n) (hx : x < 3) (p : FrL c S 343 K n) : FO_M_nextBy fu (nI x) J K = some (lN (Nx c S w n x), J, K) := by
  have st : ∀ (f m a : Nat), m < 3 → LO_M_nextBy_12 fu (f + 1) (nI x) (nI n) (lN a) (nI m) J K = LO_M_nextBy_12 fu f (nI x) (nI n) (lN (a + Cn c S n m * w m x)) (nI (m + 1)) J K := by
    intro f m a hm
    have w9 := (mw m x hm hx).2.2
    have ew := (mw m x hm hx).2.1
    obtain ⟨z, hz⟩ : ∃ z, fu = z + 4 := ⟨fu - 4, by omega⟩
    rw [LO_M_nextBy_12, if_neg (show ¬ (3 : Int32) ≤ nI m from nI_ge (b := 3) (by omega) (by omega))]
    unfold Cn
    by_cases h0 : n = 0
    · subst h0
      rw [if_pos rfl, if_pos (show nI 0 = 0 from rfl)]
      conv => lhs; rw [hz]
      rw [LO_M_nextBy_32]
      simp (disch := omega) only [l_0, show (17 : Int32) = nI 17 from rfl, show (18 : Int32) = nI 18 from rfl, l_1, l_2, l_3, l_4, l_5, l_6, l_7, l_8, l_9, l_10, l_11, l_12, l_13, l_15, l_24, l_30, l_36, l_42, l_51, l_60, l_66, l_71, l_77, l_90, l_99, l_100, l_101, l_300, l_557, l_431, l_1511, l_1541, l_9999, l_2724, l_681, l_255, nI_add, pk_mul, pk_sub, Nat.add_sub_cancel, nI_clamp, nI_leI, nI_ltI, nI_eq, if_pos, if_neg, if_true, if_false, Option.bind_some]
      rw [ew, nI_l (by omega), show (1 : Int64) = lN 1 from rfl, lN_mul, lN_add, ← hz]
    · rw [if_neg (nI_ne0 (by omega) (by omega)), if_neg h0, show (0 : Int64) = lN 0 from rfl, show (0 : Int32) = nI 0 from rfl]
      have s2 : ∀ (kk : Int32 → Int32 → Int64 → Int32 → TI → TL → Option (Int64 × TI × TL)) (f k b : Nat), k < 3 → LO_M_nextBy_32 fu kk (f + 1) (nI x) (nI n) (lN a) (nI m) (lN b) (nI k) J K = LO_M_nextBy_32 fu kk f (nI x) (nI n) (lN a) (nI m) (lN (b + Fr c S (n - 1) k * c k m)) (nI (k + 1)) J K := by
        intro kk f k b hk
        have c9 := (le9 md).1 k m hk hm
        have ek := p (n - 1) (by omega) k hk
        rw [LO_M_nextBy_32]
        simp (disch := omega) only [l_0, show (17 : Int32) = nI 17 from rfl, show (18 : Int32) = nI 18 from rfl, l_1, l_2, l_3, l_4, l_5, l_6, l_7, l_8, l_9, l_10, l_11, l_12, l_13, l_15, l_24, l_30, l_36, l_42, l_51, l_60, l_66, l_71, l_77, l_90, l_99, l_100, l_101, l_300, l_557, l_431, l_1511, l_1541, l_9999, l_2724, l_681, l_255, nI_add, pk_mul, pk_sub, Nat.add_sub_cancel, nI_clamp, nI_leI, nI_ltI, nI_eq, if_pos, if_neg, if_true, if_false, Option.bind_some, m_cw md hk hm]
        rw [show 3 * n - 3 + k = 3 * (n - 1) + k by omega, ek, nI_l (by omega), lN_mul, lN_add]
      have s3 : ∀ (kk : Int32 → Int32 → Int64 → Int32 → TI → TL → Option (Int64 × TI × TL)), LO_M_nextBy_32 fu kk fu (nI x) (nI n) (lN a) (nI m) (lN 0) (nI 0) J K = kk (nI x) (nI n) (lN (a + Cm c S (n - 1) m * w m x)) (nI (m + 1)) J K := by
        intro kk
        rw [show LO_M_nextBy_32 fu kk fu (nI x) (nI n) (lN a) (nI m) (lN 0) (nI 0) J K = LO_M_nextBy_32 fu kk (z + 4) (nI x) (nI n) (lN a) (nI m) (lN 0) (nI 0) J K from by rw [← hz], s2 _ _ 0 _ (by omega), s2 _ _ 1 _ (by omega), s2 _ _ 2 _ (by omega), LO_M_nextBy_32]
        simp (disch := omega) only [l_0, show (17 : Int32) = nI 17 from rfl, show (18 : Int32) = nI 18 from rfl, l_1, l_2, l_3, l_4, l_5, l_6, l_7, l_8, l_9, l_10, l_11, l_12, l_13, l_15, l_24, l_30, l_36, l_42, l_51, l_60, l_66, l_71, l_77, l_90, l_99, l_100, l_101, l_300, l_557, l_431, l_1511, l_1541, l_9999, l_2724, l_681, l_255, nI_add, pk_mul, pk_sub, Nat.add_sub_cancel, nI_clamp, nI_leI, nI_ltI, nI_eq, if_pos, if_neg, if_true, if_false, Option.bind_some]
        rw [ew, nI_l (by omega), lN_mul, lN_add, Nat.zero_add]
        rfl
      exact s3 _
  unfold FO_M_nextBy
  rw [e2]
  obtain ⟨f, hf⟩ : ∃ z, fu = z + 4 := ⟨fu - 4, by omega⟩
  rw [show LO_M_nextBy_12 fu fu (nI x) (nI n) 0 0 J K = LO_M_nextBy_12 fu (f + 4) (nI x) (nI n) (lN 0) (nI 0) J K from by rw [← hf]; rfl, st _ 0 _ (by omega), st _ 1 _ (by omega), st _ 2 _ (by omega), LO_M_nextBy_12, if_pos (by decide), Nat.zero_add]
  rfl
theorem op_next {T : TI → (Nat → Int32) → Prop} {fu : Nat} (hfu : 2000 ≤ fu) (p q : Int32) : OpR T (fun I L => FO_X_next fu p q I L) (fun I L => FO_M_next fu p q I L) := by
  refine OpR_s (fun I J L K hR => ?_)
  have s := hR.s
  obtain ⟨c, S, md⟩ := s.md
  obtain ⟨w, mw⟩ := s.mw
  obtain ⟨n, hn, e1, e2⟩ := s.f_so
  by_cases h : 0 ≤ p ∧ p ≤ 2
  · obtain ⟨x, hx, rfl⟩ := rng (hi := 2) (by omega) h.1 h.2
    have hx : x < 3 := by omega
    obtain ⟨L1, a1, a2, a3⟩ := x_front (fu := fu) (L := L) hfu md hn e1
    obtain ⟨K1, d1, d2, d3⟩ := m_lay (fu := fu) (K := K) hfu md hn e2
    have b0 := Nx_b md mw hn (show 0 < 3 by omega)
    have b1 := Nx_b md mw hn (show 1 < 3 by omega)
    have b2 := Nx_b md mw hn (show 2 < 3 by omega)
    have bx := Nx_b md mw hn hx
    have x0 : FO_X_next fu (nI x) q I L = PX (lN (Nx c S w n x)) (lN (Nx c S w n 0 + Nx c S w n 1 + Nx c S w n 2)) q (lN (Nat.gcd (Nx c S w n x) (Nx c S w n 0 + Nx c S w n 1 + Nx c S w n 2))) I L1 := by
      unfold FO_X_next
      rw [if_pos h, a1]
      simp only [Option.bind_some]
      have st : ∀ (f m a : Nat), m < 3 → LO_X_next_27 fu (f + 1) (nI x) q (lN a) (nI m) I L1 = LO_X_next_27 fu f (nI x) q (lN (a + Nx c S w n m)) (nI (m + 1)) I L1 := by
        intro f m a hm
        rw [LO_X_next_27, if_neg (show ¬ (3 : Int32) ≤ nI m from nI_ge (b := 3) (by omega) (by omega)), x_next hfu md mw hn e1 hm a2]
        simp only [Option.bind_some]
        rw [lN_add, nI_1]
      obtain ⟨f, hf⟩ : ∃ z, fu = z + 4 := ⟨fu - 4, by omega⟩
      rw [show LO_X_next_27 fu fu (nI x) q 0 0 I L1 = LO_X_next_27 fu (f + 4) (nI x) q (lN 0) (nI 0) I L1 from by rw [← hf]; rfl, st _ 0 _ (by omega), st _ 1 _ (by omega), st _ 2 _ (by omega), LO_X_next_27, if_pos (by decide), x_next hfu md mw hn e1 hx a2, Nat.zero_add]
      simp only [Option.bind_some]
      rw [x_part hfu (by omega) (by omega)]
      cases PX (lN (Nx c S w n x)) (lN (Nx c S w n 0 + Nx c S w n 1 + Nx c S w n 2)) q (lN (Nat.gcd (Nx c S w n x) (Nx c S w n 0 + Nx c S w n 1 + Nx c S w n 2))) I L1 <;> rfl
    have n0 : FO_M_nextBy fu 0 J K1 = _ := m_next (x := 0) hfu md mw hn e2 (by omega) d2
    have n1 : FO_M_nextBy fu 1 J K1 = _ := m_next (x := 1) hfu md mw hn e2 (by omega) d2
    have n2 : FO_M_nextBy fu 2 J K1 = _ := m_next (x := 2) hfu md mw hn e2 (by omega) d2
    have nx := m_next (x := x) hfu md mw hn e2 hx d2
    by_cases h0 : Nx c S w n 0 + Nx c S w n 1 + Nx c S w n 2 = 0
    · refine ⟨-1, I, L1, J, K1, ?_, ?_, ScI.rf, ScJ.rf⟩
      · rw [x0, h0]; exact PX_0
      · unfold FO_M_next
        rw [if_pos h, d1]
        simp only [Option.bind_some, n0, n1, n2, lN_add]
        rw [if_pos ((lN_e0 (by omega)).mpr h0)]
    · have g0 : 0 < Nat.gcd (Nx c S w n x) (Nx c S w n 0 + Nx c S w n 1 + Nx c S w n 2) := Nat.gcd_pos_of_pos_right _ (by omega)
      have g1 : Nat.gcd (Nx c S w n x) (Nx c S w n 0 + Nx c S w n 1 + Nx c S w n 2) ≤ Nx c S w n 0 + Nx c S w n 1 + Nx c S w n 2 := Nat.gcd_le_right _ (by omega)
      refine ⟨_, I, L1, J, K1, x0.trans (PX_lN (by omega) (by omega) (by omega)), ?_, ScI.rf, ScJ.rf⟩
      unfold FO_M_next
      rw [if_pos h, d1]
      simp only [Option.bind_some, n0, n1, n2, nx, lN_add, m_div hfu (show Nx c S w n x < 2 ^ 63 by omega) (show Nx c S w n 0 + Nx c S w n 1 + Nx c S w n 2 < 2 ^ 63 by omega)]
      rw [if_neg (fun z => h0 ((lN_e0 (by omega)).mp z)), if_pos (fun z => by have := (lN0 (by omega)).mp z; omega), if_pos (fun z => by have := (lN0 (by omega)).mp z; omega), pk_lDiv (by omega) g0 (by omega), pk_lDiv (by omega) g0 (by omega)]
      by_cases hw : q = 0
      · rw [if_pos hw, if_pos hw]
      · rw [if_neg hw, if_neg hw]
  · refine ⟨-1, I, L, J, K, ?_, ?_, ScI.rf, ScJ.rf⟩
    · unfold FO_X_next; rw [if_neg h]
    · unfold FO_M_next; rw [if_neg h]
