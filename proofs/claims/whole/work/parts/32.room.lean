/-! one by the other, in lowest terms -/
theorem lc_0 (x : Int64) : lg_cmp x 0 = 0 ↔ x = 0 := by unfold lg_cmp; grind
theorem lc_le (x y : Int64) : lg_cmp x y ≤ 0 ↔ x ≤ y := by unfold lg_cmp; grind
theorem lc_gt (x y : Int64) : 0 < lg_cmp x y ↔ y < x := by unfold lg_cmp; grind
theorem lN0 {a : Nat} (h : a < 2 ^ 63) : lN a = 0 ↔ a = 0 := pk_lEQ (b := 0) h (by omega)
theorem lN_e0 {a : Nat} (h : a < 2 ^ 63) : lg_cmp (lN a) 0 = 0 ↔ a = 0 := (lc_0 _).trans (lN0 h)
theorem lR_lN {a b : Nat} (ha : a < 2 ^ 63) (h0 : 0 < b) (hb : b < 2 ^ 63) : lR (lN a) (lN b) = lN (a % b) := pk_lRem ha h0 hb
/-- what the class says once it has the divisor -/
def PX (x0 x2 : Int64) (x4 : Int32) (g : Int64) (I : TI) (L : TL) : Option (Int64 × TI × TL) := if lg_cmp x2 0 ≤ 0 then (some ((-1), I, L)) else (if 0 < lg_cmp g 0 then (if x4 = 0 then (if ¬ g = 0 then (some (x0 / g, I, L)) else none) else (if ¬ g = 0 then (some (x2 / g, I, L)) else none)) else (some ((-1), I, L)))
theorem half {a b : Nat} (h1 : 0 < b) (h2 : b < a) : 2 * (a % b) < a := by
  have := Nat.div_add_mod a b
  have := Nat.mod_lt a h1
  have : 1 ≤ a / b := Nat.div_pos (by omega) h1
  have : b ≤ b * (a / b) := Nat.le_mul_of_pos_right b this
  omega
theorem lk_part {fu : Nat} {I : TI} {L : TL} {x0 x2 : Int64} {x4 : Int32} : ∀ (m i f a b : Nat), a < 2 ^ m → a < 2 ^ 63 → b < 2 ^ 63 → i + 2 * m + 1 ≤ 200 → 2 * m + 1 < f → LO_X_part_9 fu f x0 x2 x4 (lN a) (lN b) (nI i) I L = PX x0 x2 x4 (lN (Nat.gcd a b)) I L := by
  intro m
  have z : ∀ (i f b : Nat), i < 200 → 0 < f → LO_X_part_9 fu f x0 x2 x4 (lN 0) (lN b) (nI i) I L = PX x0 x2 x4 (lN (Nat.gcd 0 b)) I L := by
    intro i f b hi hf
    obtain ⟨f, rfl⟩ : ∃ z, f = z + 1 := ⟨f - 1, by omega⟩
    rw [LO_X_part_9, if_neg (show ¬ (200 : Int32) ≤ nI i from nI_ge (b := 200) hi (by omega)), if_pos (show lg_cmp (lN 0) 0 = 0 from by decide), Nat.gcd_zero_left]
    rfl
  have st : ∀ (i f a b : Nat), i < 200 → 0 < a → a < 2 ^ 63 → b < 2 ^ 63 → LO_X_part_9 fu (f + 1) x0 x2 x4 (lN a) (lN b) (nI i) I L = LO_X_part_9 fu f x0 x2 x4 (lN (b % a)) (lN a) (nI (i + 1)) I L := by
    intro i f a b hi ha ha2 hb
    rw [LO_X_part_9, if_neg (show ¬ (200 : Int32) ≤ nI i from nI_ge (b := 200) hi (by omega)), if_neg (fun q => by have := (lN_e0 ha2).mp q; omega), if_pos (fun q => by have := (lN0 ha2).mp q; omega), lR_lN hb ha ha2, nI_1]
  induction m with
  | zero =>
    intro i f a b h1 h2 h3 h4 h5
    have : a = 0 := by omega
    subst this
    exact z i f b (by omega) (by omega)
  | succ m ih =>
    intro i f a b h1 h2 h3 h4 h5
    by_cases h0 : a = 0
    · subst h0
      exact z i f b (by omega) (by omega)
    · obtain ⟨f, rfl⟩ : ∃ z, f = z + 1 := ⟨f - 1, by omega⟩
      have hl := Nat.mod_lt b (show 0 < a by omega)
      rw [st i f a b (by omega) (by omega) h2 h3, Nat.gcd_rec a b]
      by_cases h6 : b % a = 0
      · rw [h6]
        exact z (i + 1) f a (by omega) (by omega)
      · obtain ⟨f, rfl⟩ : ∃ z, f = z + 1 := ⟨f - 1, by omega⟩
        have hh := half (a := a) (b := b % a) (by omega) hl
        rw [Nat.pow_succ] at h1
        rw [st (i + 1) f (b % a) a (by omega) (by omega) (by omega) h2, Nat.gcd_rec (b % a) a]
        exact ih (i + 1 + 1) f (a % (b % a)) (b % a) (by omega) (by omega) (by omega) (by omega) (by omega)
theorem x_part {fu a b : Nat} {x4 : Int32} {I : TI} {L : TL} (hfu : 2000 ≤ fu) (ha : a < 2 ^ 63) (hb : b < 2 ^ 63) : FO_X_part fu (lN a) (lN b) x4 I L = PX (lN a) (lN b) x4 (lN (Nat.gcd a b)) I L :=
  lk_part 63 0 fu a b ha ha hb (by omega) (by omega)
theorem lk_div {fu : Nat} {J : TI} {K : TL} {x0 x2 : Int64} : ∀ (m f a b : Nat), a < 2 ^ m → a < 2 ^ 63 → b < 2 ^ 63 → 2 * m + 1 < f → LO_M_divisor_6 fu f x0 x2 (lN b) (lN a) J K = some (lN (Nat.gcd a b), J, K) := by
  intro m
  have z : ∀ (f b : Nat), 0 < f → LO_M_divisor_6 fu f x0 x2 (lN b) (lN 0) J K = some (lN (Nat.gcd 0 b), J, K) := by
    intro f b hf
    obtain ⟨f, rfl⟩ : ∃ z, f = z + 1 := ⟨f - 1, by omega⟩
    rw [LO_M_divisor_6, if_pos (show lg_cmp (lN 0) 0 = 0 from by decide), Nat.gcd_zero_left]
  have st : ∀ (f a b : Nat), 0 < a → a < 2 ^ 63 → b < 2 ^ 63 → LO_M_divisor_6 fu (f + 1) x0 x2 (lN b) (lN a) J K = LO_M_divisor_6 fu f x0 x2 (lN a) (lN (b % a)) J K := by
    intro f a b ha ha2 hb
    rw [LO_M_divisor_6, if_neg (fun q => by have := (lN_e0 ha2).mp q; omega), if_pos (fun q => by have := (lN0 ha2).mp q; omega), lR_lN hb ha ha2]
  induction m with
  | zero =>
    intro f a b h1 h2 h3 h5
    have : a = 0 := by omega
    subst this
    exact z f b (by omega)
  | succ m ih =>
    intro f a b h1 h2 h3 h5
    by_cases h0 : a = 0
    · subst h0
      exact z f b (by omega)
    · obtain ⟨f, rfl⟩ : ∃ z, f = z + 1 := ⟨f - 1, by omega⟩
      have hl := Nat.mod_lt b (show 0 < a by omega)
      rw [st f a b (by omega) h2 h3, Nat.gcd_rec a b]
      by_cases h6 : b % a = 0
      · rw [h6]
        exact z f a (by omega)
      · obtain ⟨f, rfl⟩ : ∃ z, f = z + 1 := ⟨f - 1, by omega⟩
        have hh := half (a := a) (b := b % a) (by omega) hl
        rw [Nat.pow_succ] at h1
        rw [st f (b % a) a (by omega) (by omega) h2, Nat.gcd_rec (b % a) a]
        exact ih f (a % (b % a)) (b % a) (by omega) (by omega) (by omega) (by omega)
theorem m_div {fu a b : Nat} {J : TI} {K : TL} (hfu : 2000 ≤ fu) (ha : a < 2 ^ 63) (hb : b < 2 ^ 63) : FO_M_divisor fu (lN a) (lN b) J K = some (lN (Nat.gcd a b), J, K) := by
  rw [Nat.gcd_comm]
  exact lk_div 63 fu b a hb hb ha (by omega)
/-- both, where the lower number isn't 0 -/
theorem PX_lN {a b : Nat} {x4 : Int32} {I : TI} {L : TL} (ha : a < 2 ^ 63) (hb : b < 2 ^ 63) (h0 : 0 < b) : PX (lN a) (lN b) x4 (lN (Nat.gcd a b)) I L = some (if x4 = 0 then lN (a / Nat.gcd a b) else lN (b / Nat.gcd a b), I, L) := by
  have g0 : 0 < Nat.gcd a b := Nat.gcd_pos_of_pos_right _ h0
  have g1 : Nat.gcd a b ≤ b := Nat.gcd_le_right _ h0
  unfold PX
  rw [if_neg (fun q => by have := (pk_lLE (b := 0) hb (by omega)).mp ((lc_le _ _).mp q); omega), if_pos (show 0 < lg_cmp (lN (Nat.gcd a b)) 0 from (lc_gt _ _).mpr ((pk_lLT (a := 0) (by omega) (by omega)).mpr g0)), if_pos (fun q => by have := (lN0 (by omega)).mp q; omega), if_pos (fun q => by have := (lN0 (by omega)).mp q; omega), pk_lDiv ha g0 (by omega), pk_lDiv hb g0 (by omega)]
  split <;> rfl
theorem PX_0 {x0 g : Int64} {x4 : Int32} {I : TI} {L : TL} : PX x0 0 x4 g I L = some (-1, I, L) := by
  unfold PX
  rw [if_pos (show lg_cmp 0 0 ≤ 0 from by decide)]
theorem sh32 : ∀ s, s < 9 → (32 : Int32) >>> (nI s &&& 31) = nI (32 / 2 ^ s) := by decide +kernel
theorem lk_room {fu n : Nat} {I J : TI} {L K : TL} {p : Int32} (hfu : 2000 ≤ fu) (hn : n ≤ 5) (e1 : I 1 13 = nI n) (e2 : J 332 5 = nI n) (w : ∀ k, k < n → ∃ p q : Nat, 1 ≤ p ∧ p ≤ 22222 ∧ J 332 (66 + k) = nI p ∧ I 134 k = nI q ∧ Vd 8 p = some q ∧ 2 ≤ q ∧ q < 64) : ∀ (j k f g a : Nat), k + j = n → j < f → j < g → a ≤ 32 * k → ∃ r, LO_X_room_8 fu f p 32 (nI a) (nI k) I L = some (r, I, L) ∧ LO_M_room_4 fu g p (nI a) (nI k) J K = some (r, J, K) := by
  intro j
  induction j with
  | zero =>
    intro k f g a hk hf hg ha
    obtain ⟨f, rfl⟩ : ∃ z, f = z + 1 := ⟨f - 1, by omega⟩
    obtain ⟨g, rfl⟩ : ∃ z, g = z + 1 := ⟨g - 1, by omega⟩
    have hk : k = n := by omega
    subst hk
    have g0 : 0 < Nat.gcd a 32 := Nat.gcd_pos_of_pos_right _ (by omega)
    have g1 : Nat.gcd a 32 ≤ 32 := Nat.gcd_le_right _ (by omega)
    rw [LO_X_room_8, LO_M_room_4, e1, e2, if_pos (Int32.le_refl _), if_pos (Int32.le_refl _), nI_l (by omega), show ((32 : Int32).toInt64) = lN 32 from by decide, show (32 : Int64) = lN 32 from rfl, x_part hfu (by omega) (by omega), PX_lN (by omega) (by omega) (by omega), m_div hfu (by omega) (by omega)]
    simp only [Option.bind_some, lN_i]
    have gi : ¬ nI (Nat.gcd a 32) = 0 := nI_ne0 g0 (by omega)
    by_cases hp : p = 0
    · rw [if_pos hp, if_pos hp, if_pos gi, pk_div (by omega) g0 (by omega), lN_i]
      exact ⟨_, rfl, rfl⟩
    · rw [if_neg hp, if_neg hp, if_pos gi, show (32 : Int32) = nI 32 from rfl, pk_div (by omega) g0 (by omega), lN_i]
      exact ⟨_, rfl, rfl⟩
  | succ j ih =>
    intro k f g a hk hf hg ha
    obtain ⟨f, rfl⟩ : ∃ z, f = z + 1 := ⟨f - 1, by omega⟩
    obtain ⟨g, rfl⟩ : ∃ z, g = z + 1 := ⟨g - 1, by omega⟩
    obtain ⟨p', q', a1, a2, a3, a4, a5, a6, a7⟩ := w k (by omega)
    have l8 := lg_8 q'
    have hd := Nat.div_le_self 32 (2 ^ lg q')
    rw [LO_X_room_8, LO_M_room_4, e1, e2, if_neg (nI_ge (by omega) (by omega)), if_neg (nI_ge (by omega) (by omega)), if_neg (show ¬ (5 : Int32) ≤ nI k from nI_ge (b := 5) (by omega) (by omega)), if_pos (show (0 : Int32) ≤ nI k ∧ nI k < 5 from ⟨nI_pos' (by omega), nI_lt (b := 5) (by omega) (by omega)⟩), nI_clamp (by omega), a4, x_len (by omega) (by omega), m_word hfu (show k < 5 by omega) a1 a2 a3 a5]
    simp only [Option.bind_some]
    rw [m_len (by omega) (by omega)]
    simp only [Option.bind_some]
    rw [sh32 _ (by omega), nI_add, nI_1]
    exact ih (k + 1) f g _ (by omega) (by omega) (by omega) (by omega)
theorem op_room {T : TI → (Nat → Int32) → Prop} {fu : Nat} (hfu : 2000 ≤ fu) (p : Int32) : OpR T (fun I L => FO_X_room fu p I L) (fun I L => FO_M_room fu p I L) := by
  refine OpR_q (fun I J L K hR => ?_)
  have s := hR.s
  obtain ⟨n, hn, e1, e2, w⟩ := s.f_wo
  exact lk_room (fu := fu) (L := L) (K := K) hfu hn e1 e2 w n 0 fu fu 0 (by omega) (by omega) (by omega) (by omega)
