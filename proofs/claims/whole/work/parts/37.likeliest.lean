/-! likeliest -/
/-- the lowest of the heaviest so far -/
def pkL (v : Nat → Nat) : Nat → Nat × Int32
  | 0 => (0, -1)
  | m + 1 => if v m ≤ (pkL v m).1 then pkL v m else (v m, nI m)
theorem pkL_b {v : Nat → Nat} {B : Nat} (h : ∀ m, m < 3 → v m ≤ B) : ∀ m, m ≤ 3 → (pkL v m).1 ≤ B := by
  intro m
  induction m with
  | zero => intro _; exact Nat.zero_le _
  | succ m ih =>
    intro hm
    rw [pkL]
    split
    · exact ih (by omega)
    · exact h m (by omega)
/-- either nothing weighs anything, or one that does is found -/
theorem pkL_c {v : Nat → Nat} : ∀ m, ((pkL v m = (0, -1)) ∧ ∀ k, k < m → v k = 0) ∨ (∃ q, q < m ∧ (pkL v m).2 = nI q ∧ 0 < v q ∧ 0 < (pkL v m).1) := by
  intro m
  induction m with
  | zero => exact Or.inl ⟨rfl, fun k hk => by omega⟩
  | succ m ih =>
    rw [pkL]
    rcases ih with ⟨a, b⟩ | ⟨q, h1, h2, h3, h4⟩
    · rw [a]
      by_cases c : v m ≤ 0
      · rw [if_pos c]
        refine Or.inl ⟨rfl, fun k hk => ?_⟩
        by_cases e : k = m
        · subst e; omega
        · exact b k (by omega)
      · rw [if_neg c]
        exact Or.inr ⟨m, by omega, rfl, by omega, by show 0 < v m; omega⟩
    · by_cases c : v m ≤ (pkL v m).1
      · rw [if_pos c]
        exact Or.inr ⟨q, by omega, h2, h3, h4⟩
      · rw [if_neg c]
        exact Or.inr ⟨m, by omega, rfl, by omega, by show 0 < v m; omega⟩
theorem x_hb {fu k n : Nat} {a : Int32} {c S : Nat → Nat → Nat} {I J : TI} {L : TL} {v : Nat → Nat} (hfu : 2000 ≤ fu) (md : MD c S I J) (hk : k < n) (hn : n ≤ 6) (q : BkL c S 1 (n - 1) 324 L 0) (hv : (k = 0 ∧ v = fun m => Hv c S (n - 1 - k) k m * S k m) ∨ (0 < k ∧ ∃ b, b < 3 ∧ a = nI b ∧ v = fun m => Hv c S (n - 1 - k) k m * S k m * c b m) ∨ (0 < k ∧ a = -1 ∧ v = fun _ => 0)) : FO_O_heaviestBehind fu (nI k) a I L = some ((pkL v 3).2, I, L) := by
  have c9 := (le9 md).1
  have s9 := (le9 md).2
  have hb : ∀ m, m < 3 → Hv c S (n - 1 - k) k m ≤ 243 ^ 5 := fun m hm => Nat.le_trans (Hv_b _ _ _) (Nat.le_trans (Bk_b c9 s9 _ k m (by omega) hm) (Nat.pow_le_pow_right (by omega) (by omega)))
  have vb : ∀ m, m < 3 → v m ≤ 243 ^ 5 * 9 * 9 := by
    intro m hm
    have h1 := Nat.mul_le_mul (hb m hm) (s9 k m (by omega) hm)
    rcases hv with ⟨_, e⟩ | ⟨_, b, hb3, _, e⟩ | ⟨_, _, e⟩
    · rw [e]; dsimp only; omega
    · rw [e]; exact Nat.mul_le_mul h1 (c9 b m hb3 hm)
    · rw [e]; dsimp only; omega
  have st : ∀ (f m : Nat), m < 3 → LO_O_heaviestBehind_9 fu (f + 1) (nI k) a (lN (pkL v m).1) (pkL v m).2 (nI m) I L = LO_O_heaviestBehind_9 fu f (nI k) a (lN (pkL v (m + 1)).1) (pkL v (m + 1)).2 (nI (m + 1)) I L := by
    intro f m hm
    have pb := pkL_b vb m (by omega)
    have vm := vb m hm
    have e4 := q k (by omega) (by omega) m hm
    have e4 : L 324 (3 * k + m) = lN (Hv c S (n - 1 - k) k m) := e4
    have sk := s9 k m (by omega) hm
    have dec : (lg_cmp (lN (v m)) (lN (pkL v m).1) ≤ nI 0) ↔ v m ≤ (pkL v m).1 := (lc_le _ _).trans (pk_lLE (by omega) (by omega))
    rw [LO_O_heaviestBehind_9]
    simp (disch := omega) only [l_0, show (17 : Int32) = nI 17 from rfl, show (18 : Int32) = nI 18 from rfl, l_1, l_2, l_3, l_4, l_5, l_6, l_7, l_8, l_9, l_10, l_11, l_12, l_13, l_15, l_24, l_30, l_36, l_42, l_51, l_60, l_66, l_71, l_77, l_90, l_99, l_100, l_101, l_300, l_557, l_431, l_1511, l_1541, l_9999, l_2724, l_681, l_255, nI_add, pk_mul, pk_sub, Nat.add_sub_cancel, nI_clamp, nI_leI, nI_ltI, nI_eq, if_pos, if_neg, if_true, if_false, Option.bind_some, x_sw md (show k < 6 by omega) hm, nI_l (show S k m < 2 ^ 31 by omega)]
    rw [Nat.mul_comm k 3, e4, lN_mul]
    rcases hv with ⟨h0, e⟩ | ⟨h0, b, hb3, rfl, e⟩ | ⟨h0, rfl, e⟩
    · have ev : v m = Hv c S (n - 1 - k) k m * S k m := by rw [e]
      rw [if_pos (show k ≤ 0 by omega), ← ev, pkL]
      by_cases g : v m ≤ (pkL v m).1
      · rw [if_pos (dec.mpr g), if_pos g]
      · rw [if_neg (fun z => g (dec.mp z)), if_neg g]
    · have ev : v m = Hv c S (n - 1 - k) k m * S k m * c b m := by rw [e]
      have cb := c9 b m hb3 hm
      have ec := (md.1 b m hb3 hm).1
      rw [if_neg (show ¬ k ≤ 0 by omega)]
      simp (disch := omega) only [l_0, show (17 : Int32) = nI 17 from rfl, show (18 : Int32) = nI 18 from rfl, l_1, l_2, l_3, l_4, l_5, l_6, l_7, l_8, l_9, l_10, l_11, l_12, l_13, l_15, l_24, l_30, l_36, l_42, l_51, l_60, l_66, l_71, l_77, l_90, l_99, l_100, l_101, l_300, l_557, l_431, l_1511, l_1541, l_9999, l_2724, l_681, l_255, nI_add, pk_mul, pk_sub, Nat.add_sub_cancel, nI_clamp, nI_leI, nI_ltI, nI_eq, if_pos, if_neg, if_true, if_false, Option.bind_some]
      rw [Nat.mul_comm b 3, ec, nI_l (by omega), lN_mul, ← ev, pkL]
      by_cases g : v m ≤ (pkL v m).1
      · rw [if_pos (dec.mpr g), if_pos g]
      · rw [if_neg (fun z => g (dec.mp z)), if_neg g]
    · have ev : v m = 0 := by rw [e]
      rw [if_neg (show ¬ k ≤ 0 by omega), if_neg (show ¬ (nI 0 ≤ -1 ∧ (-1 : Int32) ≤ nI 2) by decide), show (0 : Int64) = lN 0 from rfl, lN_mul, Nat.mul_zero, show lN 0 = lN (v m) from by rw [ev], pkL]
      rw [if_pos (dec.mpr (by omega)), if_pos (by omega)]
  obtain ⟨f, hf⟩ : ∃ z, fu = z + 4 := ⟨fu - 4, by omega⟩
  unfold FO_O_heaviestBehind
  rw [show LO_O_heaviestBehind_9 fu fu (nI k) a 0 (-1) 0 I L = LO_O_heaviestBehind_9 fu (f + 4) (nI k) a (lN (pkL v 0).1) (pkL v 0).2 (nI 0) I L from by rw [← hf]; rfl, st _ 0 (by omega), st _ 1 (by omega), st _ 2 (by omega), LO_O_heaviestBehind_9, if_pos (by decide)]
theorem m_hb {fu k n : Nat} {a x1 : Int32} {c S : Nat → Nat → Nat} {I J : TI} {K : TL} {v : Nat → Nat} {kk : Int32 → Int32 → Int32 → TI → TL → Option (Int32 × TI × TL)} (hfu : 2000 ≤ fu) (md : MD c S I J) (hk : k < n) (hn : n ≤ 6) (q : BM c S n K 0) (hv : (a = -1 ∧ v = fun m => Hv c S (n - 1 - k) k m * S k m) ∨ (∃ b, b < 3 ∧ a = nI b ∧ v = fun m => Hv c S (n - 1 - k) k m * S k m * c b m)) : LO_M_likeliest_37 fu kk fu x1 a (nI k) (-1) 0 0 J K = kk x1 (pkL v 3).2 (nI (k + 1)) J K := by
  have c9 := (le9 md).1
  have s9 := (le9 md).2
  have hb : ∀ m, m < 3 → Hv c S (n - 1 - k) k m ≤ 243 ^ 5 := fun m hm => Nat.le_trans (Hv_b _ _ _) (Nat.le_trans (Bk_b c9 s9 _ k m (by omega) hm) (Nat.pow_le_pow_right (by omega) (by omega)))
  have vb : ∀ m, m < 3 → v m ≤ 243 ^ 5 * 9 * 9 := by
    intro m hm
    have h1 := Nat.mul_le_mul (hb m hm) (s9 k m (by omega) hm)
    rcases hv with ⟨_, e⟩ | ⟨b, hb3, _, e⟩
    · rw [e]; dsimp only; omega
    · rw [e]; exact Nat.mul_le_mul h1 (c9 b m hb3 hm)
  have st : ∀ (f m : Nat), m < 3 → LO_M_likeliest_37 fu kk (f + 1) x1 a (nI k) (pkL v m).2 (lN (pkL v m).1) (nI m) J K = LO_M_likeliest_37 fu kk f x1 a (nI k) (pkL v (m + 1)).2 (lN (pkL v (m + 1)).1) (nI (m + 1)) J K := by
    intro f m hm
    have pb := pkL_b vb m (by omega)
    have vm := vb m hm
    have e5 := (q k (by omega) hk m hm).2
    have sk := s9 k m (by omega) hm
    have dec : (nI 0 < lg_cmp (lN (v m)) (lN (pkL v m).1)) ↔ ¬ v m ≤ (pkL v m).1 := ((lc_gt _ _).trans (pk_lLT (by omega) (by omega))).trans (by omega)
    rw [LO_M_likeliest_37]
    rcases hv with ⟨rfl, e⟩ | ⟨b, hb3, rfl, e⟩
    · have ev : v m = Hv c S (n - 1 - k) k m * S k m := by rw [e]
      simp (disch := omega) only [l_0, show (17 : Int32) = nI 17 from rfl, show (18 : Int32) = nI 18 from rfl, l_1, l_2, l_3, l_4, l_5, l_6, l_7, l_8, l_9, l_10, l_11, l_12, l_13, l_15, l_24, l_30, l_36, l_42, l_51, l_60, l_66, l_71, l_77, l_90, l_99, l_100, l_101, l_300, l_557, l_431, l_1511, l_1541, l_9999, l_2724, l_681, l_255, nI_add, pk_mul, pk_sub, Nat.add_sub_cancel, nI_clamp, nI_leI, nI_ltI, nI_eq, if_pos, if_neg, if_true, if_false, Option.bind_some, m_sw md (show k < 6 by omega) hm, nI_l (show S k m < 2 ^ 31 by omega), e5]
      rw [show (1 : Int64) = lN 1 from rfl, lN_mul, lN_mul, Nat.one_mul, Nat.mul_comm, ← ev, pkL]
      by_cases g : v m ≤ (pkL v m).1
      · rw [if_neg (fun z => dec.mp z g), if_pos g]
      · rw [if_pos (dec.mpr g), if_neg g]
    · have ev : v m = Hv c S (n - 1 - k) k m * S k m * c b m := by rw [e]
      have cb := c9 b m hb3 hm
      rw [if_neg (nI_nm (by omega))]
      simp (disch := omega) only [l_0, show (17 : Int32) = nI 17 from rfl, show (18 : Int32) = nI 18 from rfl, l_1, l_2, l_3, l_4, l_5, l_6, l_7, l_8, l_9, l_10, l_11, l_12, l_13, l_15, l_24, l_30, l_36, l_42, l_51, l_60, l_66, l_71, l_77, l_90, l_99, l_100, l_101, l_300, l_557, l_431, l_1511, l_1541, l_9999, l_2724, l_681, l_255, nI_add, pk_mul, pk_sub, Nat.add_sub_cancel, nI_clamp, nI_leI, nI_ltI, nI_eq, if_pos, if_neg, if_true, if_false, Option.bind_some, m_cw md hb3 hm, m_sw md (show k < 6 by omega) hm, nI_l (show S k m < 2 ^ 31 by omega), nI_l (show c b m < 2 ^ 31 by omega), e5, lN_mul]
      rw [show c b m * S k m * Hv c S (n - 1 - k) k m = v m from by rw [ev, Nat.mul_comm (c b m * S k m), Nat.mul_comm (c b m), Nat.mul_assoc], pkL]
      by_cases g : v m ≤ (pkL v m).1
      · rw [if_neg (fun z => dec.mp z g), if_pos g]
      · rw [if_pos (dec.mpr g), if_neg g]
  obtain ⟨f, hf⟩ : ∃ z, fu = z + 4 := ⟨fu - 4, by omega⟩
  rw [show LO_M_likeliest_37 fu kk fu x1 a (nI k) (-1) 0 0 J K = LO_M_likeliest_37 fu kk (f + 4) x1 a (nI k) (pkL v 0).2 (lN (pkL v 0).1) (nI 0) J K from by rw [← hf]; rfl, st _ 0 (by omega), st _ 1 (by omega), st _ 2 (by omega), LO_M_likeliest_37, if_pos (by decide), nI_1]
theorem Hv_pos {c S : Nat → Nat → Nat} : ∀ (d i m : Nat), 0 < Bk c S d i m → 0 < Hv c S d i m := by
  intro d
  induction d with
  | zero => intro i m _; exact Nat.one_pos
  | succ d ih =>
    intro i m h
    rw [Bk] at h
    rw [Hv]
    have one : ∀ k, 0 < c m k * S (i + 1) k * Bk c S d (i + 1) k → 0 < c m k * S (i + 1) k * Hv c S d (i + 1) k := by
      intro k hk
      exact Nat.mul_pos (Nat.pos_of_mul_pos_right hk) (ih _ _ (Nat.pos_of_mul_pos_left hk))
    by_cases h0 : 0 < c m 0 * S (i + 1) 0 * Bk c S d (i + 1) 0
    · have := one 0 h0; omega
    · by_cases h1 : 0 < c m 1 * S (i + 1) 1 * Bk c S d (i + 1) 1
      · have := one 1 h1; omega
      · have := one 2 (by omega); omega
theorem lk_lik0 {fu n i : Nat} {c S : Nat → Nat → Nat} {I J : TI} {L : TL} (hfu : 2000 ≤ fu) (md : MD c S I J) (hi : i < n) (hn : n ≤ 6) (q : BkL c S 1 (n - 1) 324 L 0) (h0 : Al c S n = 0) : ∀ (j k f : Nat), k + j = i + 1 → j < f → LO_X_likeliest_35 fu f (nI i) (-1) (nI k) I L = some (-1, I, L) := by
  intro j
  induction j with
  | zero =>
    intro k f hk hf
    obtain ⟨f, rfl⟩ : ∃ z, f = z + 1 := ⟨f - 1, by omega⟩
    rw [LO_X_likeliest_35, if_pos (nI_lt (by omega) (by omega))]
  | succ j ih =>
    intro k f hk hf
    obtain ⟨f, rfl⟩ : ∃ z, f = z + 1 := ⟨f - 1, by omega⟩
    rw [LO_X_likeliest_35, if_neg (nI_nlt (by omega) (by omega))]
    have hb : FO_O_heaviestBehind fu (nI k) (-1) I L = some (-1, I, L) := by
      by_cases hk0 : k = 0
      · subst hk0
        rw [x_hb hfu md (show 0 < n by omega) hn q (Or.inl ⟨rfl, rfl⟩)]
        rcases pkL_c (v := fun m => Hv c S (n - 1 - 0) 0 m * S 0 m) 3 with ⟨e, _⟩ | ⟨b, hb, _, h3, _⟩
        · rw [e]
        · exfalso
          have u := U_le (c := c) (S := S) (n := n) (i := 0) (m := b) (by omega) hb
          rw [h0] at u
          have hh := Hv_b (c := c) (S := S) (n - 1 - 0) 0 b
          have := Nat.mul_le_mul_left (S 0 b) hh
          rw [Fr] at u
          have h3 : 0 < Hv c S (n - 1 - 0) 0 b * S 0 b := h3
          rw [Nat.mul_comm] at h3
          omega
      · rw [x_hb hfu md (show k < n by omega) hn q (Or.inr (Or.inr ⟨by omega, rfl, rfl⟩))]
        rfl
    rw [hb]
    simp only [Option.bind_some]
    rw [nI_1]
    exact ih (k + 1) f (by omega) (by omega)
theorem lk_lik {fu n i : Nat} {c S : Nat → Nat → Nat} {I J : TI} {L K : TL} (hfu : 2000 ≤ fu) (md : MD c S I J) (hi : i < n) (hn : n ≤ 6) (q : BkL c S 1 (n - 1) 324 L 0) (q2 : BM c S n K 0) (h0 : ¬ Al c S n = 0) : ∀ (j k f g : Nat) (a : Int32), k + j = i + 1 → j < f → j < g → ((k = 0 ∧ a = -1) ∨ (0 < k ∧ ∃ b, b < 3 ∧ a = nI b ∧ 0 < Hv c S (n - 1 - (k - 1)) (k - 1) b)) → ∃ r, LO_X_likeliest_35 fu f (nI i) a (nI k) I L = some (r, I, L) ∧ LO_M_likeliest_23 fu g (nI i) a (nI k) J K = some (r, J, K) := by
  intro j
  induction j with
  | zero =>
    intro k f g a hk hf hg h
    obtain ⟨f, rfl⟩ : ∃ z, f = z + 1 := ⟨f - 1, by omega⟩
    obtain ⟨g, rfl⟩ : ∃ z, g = z + 1 := ⟨g - 1, by omega⟩
    refine ⟨a, ?_, ?_⟩
    · rw [LO_X_likeliest_35, if_pos (nI_lt (by omega) (by omega))]
    · rw [LO_M_likeliest_23, if_pos (nI_lt (by omega) (by omega))]
  | succ j ih =>
    intro k f g a hk hf hg h
    obtain ⟨f, rfl⟩ : ∃ z, f = z + 1 := ⟨f - 1, by omega⟩
    obtain ⟨g, rfl⟩ : ∃ z, g = z + 1 := ⟨g - 1, by omega⟩
    have main : ∃ v : Nat → Nat, FO_O_heaviestBehind fu (nI k) a I L = some ((pkL v 3).2, I, L) ∧ LO_M_likeliest_37 fu (fun x1 x2 x3 I L => LO_M_likeliest_23 fu g x1 x2 x3 I L) fu (nI i) a (nI k) (-1) 0 0 J K = LO_M_likeliest_23 fu g (nI i) (pkL v 3).2 (nI (k + 1)) J K ∧ (∃ m, m < 3 ∧ 0 < v m) ∧ (∀ m, 0 < v m → 0 < Hv c S (n - 1 - k) k m) := by
      rcases h with ⟨h1, rfl⟩ | ⟨h1, b, hb, rfl, hp⟩
      · subst h1
        refine ⟨fun m => Hv c S (n - 1 - 0) 0 m * S 0 m, x_hb hfu md (by omega) hn q (Or.inl ⟨rfl, rfl⟩), m_hb hfu md (by omega) hn q2 (Or.inl ⟨rfl, rfl⟩), ?_, fun m hm => Nat.pos_of_mul_pos_right hm⟩
        have fb := FB_all (c := c) (S := S) (n - 1) 0
        rw [Nat.zero_add] at fb
        have ha : 0 < Al c S n := by omega
        unfold Al at ha
        rw [if_neg (by omega), ← fb] at ha
        have one : ∀ m, 0 < Fr c S 0 m * Bk c S (n - 1) 0 m → 0 < Hv c S (n - 1 - 0) 0 m * S 0 m := by
          intro m hm
          rw [Fr] at hm
          exact Nat.mul_pos (Hv_pos _ _ _ (Nat.pos_of_mul_pos_left hm)) (Nat.pos_of_mul_pos_right hm)
        by_cases z0 : 0 < Fr c S 0 0 * Bk c S (n - 1) 0 0
        · exact ⟨0, by omega, one 0 z0⟩
        · by_cases z1 : 0 < Fr c S 0 1 * Bk c S (n - 1) 0 1
          · exact ⟨1, by omega, one 1 z1⟩
          · exact ⟨2, by omega, one 2 (by omega)⟩
      · refine ⟨fun m => Hv c S (n - 1 - k) k m * S k m * c b m, x_hb hfu md (by omega) hn q (Or.inr (Or.inl ⟨h1, b, hb, rfl, rfl⟩)), m_hb hfu md (by omega) hn q2 (Or.inr ⟨b, hb, rfl, rfl⟩), ?_, fun m hm => Nat.pos_of_mul_pos_right (Nat.pos_of_mul_pos_right hm)⟩
        rw [show n - 1 - (k - 1) = (n - 1 - k) + 1 by omega, Hv, show k - 1 + 1 = k by omega] at hp
        have one : ∀ m, c b m * S k m * Hv c S (n - 1 - k) k m = Hv c S (n - 1 - k) k m * S k m * c b m := fun m => by rw [Nat.mul_comm (c b m * S k m), Nat.mul_comm (c b m), Nat.mul_assoc]
        rw [one, one, one] at hp
        by_cases z0 : 0 < Hv c S (n - 1 - k) k 0 * S k 0 * c b 0
        · exact ⟨0, by omega, z0⟩
        · by_cases z1 : 0 < Hv c S (n - 1 - k) k 1 * S k 1 * c b 1
          · exact ⟨1, by omega, z1⟩
          · exact ⟨2, by omega, by show 0 < Hv c S (n - 1 - k) k 2 * S k 2 * c b 2; omega⟩
    obtain ⟨v, m1, m2, ⟨m, hm, hv⟩, m4⟩ := main
    rw [LO_X_likeliest_35, LO_M_likeliest_23, if_neg (nI_nlt (by omega) (by omega)), if_neg (nI_nlt (by omega) (by omega)), m1, m2]
    simp only [Option.bind_some]
    rw [nI_1]
    refine ih (k + 1) f g _ (by omega) (by omega) (by omega) (Or.inr ⟨by omega, ?_⟩)
    rcases pkL_c (v := v) 3 with ⟨_, e⟩ | ⟨b, hb, e, h3, _⟩
    · have := e m hm; omega
    · exact ⟨b, hb, e, by rw [Nat.add_sub_cancel]; exact m4 b h3⟩
theorem op_likeliest {T : TI → (Nat → Int32) → Prop} {fu : Nat} (hfu : 2000 ≤ fu) (p : Int32) : OpR T (fun I L => FO_X_likeliest fu p I L) (fun I L => FO_M_likeliest fu p I L) := by
  refine OpR_s (fun I J L K hR => ?_)
  have s := hR.s
  obtain ⟨c, S, md⟩ := s.md
  obtain ⟨n, hn, e1, e2⟩ := s.f_so
  have is := m_isS (fu := fu) (p := p) (K := K) hn e2
  by_cases h : 0 ≤ p ∧ p ≤ nI n - 1
  · obtain ⟨i, hi, rfl⟩ := ix_of (by omega) h
    have ab := Al_b (n := n) (le9 md).1 (le9 md).2 hn
    obtain ⟨L1, b1, b2, b3⟩ := x_back (fu := fu) (h := 1) (L := L) hfu md hn (by omega) e1 (Or.inr rfl)
    obtain ⟨K1, d1, d2, d3⟩ := m_allr (fu := fu) (K := K) hfu md hn e2
    have x0 : FO_X_likeliest fu (nI i) I L = LO_X_likeliest_35 fu fu (nI i) (-1) (nI 0) I L1 := by
      unfold FO_X_likeliest
      rw [e1, if_pos h, show FO_O_weighFromBack fu 1 I L = _ from b1]
      rfl
    by_cases h0 : Al c S n = 0
    · refine ⟨-1, I, L1, J, K1, x0.trans (lk_lik0 hfu md hi hn b2 h0 (i + 1) 0 fu (by omega) (by omega)), ?_, ScI.rf, ScJ.rf⟩
      unfold FO_M_likeliest
      rw [is, bI_t h]
      simp only [Option.bind_some]
      rw [if_neg i10, d1]
      simp only [Option.bind_some]
      rw [if_pos ((lN_e0 (by omega)).mpr h0)]
    · obtain ⟨r, r1, r2⟩ := lk_lik (fu := fu) (K := K1) hfu md hi hn b2 d3 h0 (i + 1) 0 fu fu (-1) (by omega) (by omega) (by omega) (Or.inl ⟨rfl, rfl⟩)
      refine ⟨r, I, L1, J, K1, x0.trans r1, ?_, ScI.rf, ScJ.rf⟩
      unfold FO_M_likeliest
      rw [is, bI_t h]
      simp only [Option.bind_some]
      rw [if_neg i10, d1]
      simp only [Option.bind_some]
      rw [if_neg (fun z => h0 ((lN_e0 (by omega)).mp z))]
      exact r2
  · refine ⟨-1, I, L, J, K, ?_, ?_, ScI.rf, ScJ.rf⟩
    · unfold FO_X_likeliest; rw [e1, if_neg h]
    · unfold FO_M_likeliest; rw [is, bI_f h]; rfl
