/-! codes: keys, lengths, what is left -/
theorem nI_nm {r : Nat} (h : r < 2 ^ 31) : ¬ nI r = -1 := fun z => absurd (show (0 : Int32) ≤ -1 from z ▸ nI_pos' h) (by decide)
theorem Vd_mono : ∀ (n p : Nat), p < 10 ^ n → Vd (n + 1) p = Vd n p := by
  intro n
  induction n with
  | zero => intro p hp; have : p = 0 := by omega
            subst this; rfl
  | succ n ih =>
    intro p hp
    show (if p = 0 then some 1 else if p % 10 = 1 ∨ p % 10 = 2 then (Vd (n + 1) (p / 10)).map (fun k => 2 * k + (p % 10 - 1)) else none) = (if p = 0 then some 1 else if p % 10 = 1 ∨ p % 10 = 2 then (Vd n (p / 10)).map (fun k => 2 * k + (p % 10 - 1)) else none)
    rw [ih (p / 10) (by rw [Nat.pow_succ] at hp; omega)]
theorem Vd_s {p : Nat} (hp : p < 10 ^ 8) (h0 : ¬ p = 0) : Vd 8 p = if p % 10 = 1 ∨ p % 10 = 2 then (Vd 8 (p / 10)).map (fun k => 2 * k + (p % 10 - 1)) else none := by
  rw [Vd_mono 7 (p / 10) (by omega), Vd, if_neg h0]
theorem Vd_0 : Vd 8 0 = some 1 := rfl
theorem Vd_b : ∀ (n p k : Nat), Vd n p = some k → 1 ≤ k ∧ k < 2 ^ (n + 1) := by
  intro n
  induction n with
  | zero => intro p k h; rw [Vd] at h; split at h <;> cases h; decide
  | succ n ih =>
    intro p k h
    rw [Vd] at h
    split at h
    · cases h; exact ⟨by omega, Nat.one_lt_two_pow (by omega)⟩
    · split at h
      · obtain ⟨q, hq, e⟩ := Option.map_eq_some_iff.mp h
        have := ih _ _ hq
        rw [Nat.pow_succ]
        subst e
        omega
      · cases h
/-- a word of at most five digits -/
theorem Vd_5 {p k : Nat} (hp : p ≤ 22222) (h : Vd 8 p = some k) : k < 64 := by
  have e : Vd 8 p = Vd 5 p := by
    rw [Vd_mono 7 p (by omega), Vd_mono 6 p (by omega), Vd_mono 5 p (by omega)]
  rw [e] at h
  exact (Vd_b 5 p k h).2
theorem Vd_2 {p k : Nat} (hp : p < 10 ^ 8) (h0 : ¬ p = 0) (h : Vd 8 p = some k) : 2 ≤ k := by
  rw [Vd_s hp h0] at h
  split at h
  · obtain ⟨q, hq, e⟩ := Option.map_eq_some_iff.mp h
    have := (Vd_b 8 _ _ hq).1
    omega
  · cases h
theorem Vd_inj : ∀ (n p q k : Nat), Vd n p = some k → Vd n q = some k → p = q := by
  intro n
  induction n with
  | zero =>
    intro p q k h1 h2
    rw [Vd] at h1 h2
    split at h1
    · split at h2
      · omega
      · cases h2
    · cases h1
  | succ n ih =>
    intro p q k h1 h2
    rw [Vd] at h1 h2
    split at h1
    · split at h2
      · omega
      · split at h2
        · cases h1
          obtain ⟨x, hx, e⟩ := Option.map_eq_some_iff.mp h2
          have := (Vd_b _ _ _ hx).1
          omega
        · cases h2
    · split at h1
      · obtain ⟨x, hx, e⟩ := Option.map_eq_some_iff.mp h1
        split at h2
        · cases h2
          have := (Vd_b _ _ _ hx).1
          omega
        · split at h2
          · obtain ⟨y, hy, e2⟩ := Option.map_eq_some_iff.mp h2
            have hxy : x = y := by omega
            subst hxy
            have := ih _ _ _ hx hy
            omega
          · cases h2
      · cases h1
theorem or_sh : ∀ i, i < 9 → ∀ b, b < 2 → ∀ a, a < 2 ^ i → nI a ||| (nI b <<< (nI i &&& 31)) = nI (a + b * 2 ^ i) := by decide +kernel
theorem ir10 {p : Nat} (h : p < 2 ^ 31) : iR (nI p) 10 = nI (p % 10) := pk_rem (d := 10) h (by omega) (by omega)
theorem dv10 {p : Nat} (h : p < 2 ^ 31) : nI p / 10 = nI (p / 10) := pk_div (d := 10) h (by omega) (by omega)
theorem lk_key {fu : Nat} {I : TI} {L : TL} {x0 : Int32} : ∀ (j i f a r : Nat), i + j = 8 → r < 10 ^ j → j < f → a < 2 ^ i → LO_C_keyOf_9 fu f x0 (nI a) (nI i) (nI r) (nI i) I L = some (match Vd 8 r with | some k => nI (k * 2 ^ i + a) | none => 0, I, L) := by
  intro j
  induction j with
  | zero =>
    intro i f a r hi hr hf ha
    obtain ⟨f, rfl⟩ : ∃ z, f = z + 1 := ⟨f - 1, by omega⟩
    have hr : r = 0 := by omega
    subst hr
    have hi : i = 8 := by omega
    subst hi
    rw [LO_C_keyOf_9, if_pos (by decide), show (1 : Int32) = nI 1 from rfl, or_sh 8 (by omega) 1 (by omega) a ha, Vd_0]
    exact congrArg (fun z => some (nI z, I, L)) (by omega)
  | succ j ih =>
    intro i f a r hi hr hf ha
    obtain ⟨f, rfl⟩ : ∃ z, f = z + 1 := ⟨f - 1, by omega⟩
    have hp8 : (10 : Nat) ^ (j + 1) ≤ 10 ^ 8 := Nat.pow_le_pow_right (by omega) (by omega)
    have hr8 : r < 10 ^ 8 := by omega
    rw [LO_C_keyOf_9, if_neg (show ¬ (8 : Int32) ≤ nI i from nI_ge (b := 8) (by omega) (by omega))]
    by_cases h0 : r = 0
    · subst h0
      rw [if_pos (by decide), show (1 : Int32) = nI 1 from rfl, or_sh i (by omega) 1 (by omega) a ha, Vd_0]
      exact congrArg (fun z => some (nI z, I, L)) (by omega)
    · rw [if_neg (nI_nle (by omega) (by omega)), ir10 (by omega), Vd_s hr8 h0]
      by_cases h : r % 10 = 1 ∨ r % 10 = 2
      · rw [if_pos h, if_pos (show (1 : Int32) ≤ nI (r % 10) ∧ nI (r % 10) ≤ 2 from ⟨nI_le (a := 1) (by omega) (by omega), nI_le (b := 2) (by omega) (by omega)⟩), dv10 (by omega), show nI (r % 10) - 1 = nI (r % 10 - 1) from pk_sub (b := 1) (by omega), or_sh i (by omega) (r % 10 - 1) (by omega) a ha, nI_1]
        have hb : a + (r % 10 - 1) * 2 ^ i < 2 ^ (i + 1) := by
          rw [Nat.pow_succ]
          have : r % 10 - 1 = 0 ∨ r % 10 - 1 = 1 := by omega
          rcases this with e | e <;> rw [e] <;> omega
        rw [ih (i + 1) f _ (r / 10) (by omega) (by rw [Nat.pow_succ] at hr; omega) (by omega) hb]
        cases hv : Vd 8 (r / 10) with
        | none => rfl
        | some k =>
          refine congrArg (fun z => some (nI z, I, L)) ?_
          show k * 2 ^ (i + 1) + (a + (r % 10 - 1) * 2 ^ i) = (2 * k + (r % 10 - 1)) * 2 ^ i + a
          rw [Nat.pow_succ, Nat.add_mul, Nat.mul_comm 2 k, Nat.mul_assoc, Nat.mul_comm 2 (2 ^ i)]
          omega
      · rw [if_neg h, if_neg (fun z => h ?_)]
        have z1 := (nI_leI (a := 1) (by omega) (by omega)).mp z.1
        have z2 := (nI_leI (b := 2) (by omega) (by omega)).mp z.2
        omega
theorem x_key {fu p : Nat} {I : TI} {L : TL} (hfu : 2000 ≤ fu) (hp : p < 10 ^ 8) : FO_C_keyOf fu (nI p) I L = some (match Vd 8 p with | some k => nI k | none => 0, I, L) := by
  have h := lk_key (fu := fu) (I := I) (L := L) (x0 := nI p) 8 0 fu 0 p (by omega) hp (by omega) (by omega)
  unfold FO_C_keyOf
  rw [show LO_C_keyOf_9 fu fu (nI p) 0 0 (nI p) 0 I L = _ from h]
  cases Vd 8 p with
  | none => rfl
  | some k => exact congrArg (fun z => some (nI z, I, L)) (by omega)
theorem lk_twos {fu p : Nat} {J : TI} {K : TL} (hp : p < 10 ^ 8) : ∀ (j f t : Nat), j ≤ 8 → j < f → (j = 0 ∨ 10 ^ (j - 1) ≤ p) → Vd 8 (p / 10 ^ j) = some t → LO_M_twosOf_19 fu f (nI p) (nI t) (nI (10 ^ j / 10)) J K = some (match Vd 8 p with | some k => nI k | none => -1, J, K) := by
  intro j
  induction j with
  | zero =>
    intro f t hj hf hle ht
    obtain ⟨f, rfl⟩ : ∃ z, f = z + 1 := ⟨f - 1, by omega⟩
    rw [LO_M_twosOf_19, if_pos (by decide)]
    rw [Nat.pow_zero, Nat.div_one] at ht
    rw [ht]
  | succ j ih =>
    intro f t hj hf hle ht
    obtain ⟨f, rfl⟩ : ∃ z, f = z + 1 := ⟨f - 1, by omega⟩
    have hb : 0 < (10 : Nat) ^ j := Nat.pow_pos (by omega)
    have hb2 : (10 : Nat) ^ j ≤ 10 ^ 7 := Nat.pow_le_pow_right (by omega) (by omega)
    have e1 : (10 : Nat) ^ (j + 1) / 10 = 10 ^ j := by rw [Nat.pow_succ]; omega
    have e2 : p / 10 ^ (j + 1) = p / 10 ^ j / 10 := by rw [Nat.pow_succ, Nat.div_div_eq_div_mul]
    have hq : p / 10 ^ j < 10 ^ 8 := Nat.lt_of_le_of_lt (Nat.div_le_self _ _) hp
    rw [e2] at ht
    rw [LO_M_twosOf_19, e1, if_neg (nI_nle hb (by omega)), if_pos (nI_ne0 hb (by omega)), pk_div (by omega) hb (by omega), ir10 (by omega)]
    have tb := Vd_b _ _ _ ht
    have nxt : ∀ d, p / 10 ^ j % 10 = d → (d = 1 ∨ d = 2) → Vd 8 (p / 10 ^ j) = some (2 * t + (d - 1)) := by
      intro d hd h12
      have h0 : ¬ p / 10 ^ j = 0 := by omega
      rw [Vd_s hq h0, hd, if_pos h12, ht]
      rfl
    have bad : ¬ (p / 10 ^ j % 10 = 1 ∨ p / 10 ^ j % 10 = 2) → ¬ (p / 10 ^ j = 0) → Vd 8 p = none := by
      intro hb0 h0
      have hv : Vd 8 (p / 10 ^ j) = none := by rw [Vd_s hq h0, if_neg hb0]
      have up : ∀ i, Vd 8 (p / 10 ^ i) = none → Vd 8 p = none := by
        intro i
        induction i with
        | zero => intro h; rw [Nat.pow_zero, Nat.div_one] at h; exact h
        | succ i ihi =>
          intro h
          apply ihi
          rw [Nat.pow_succ, ← Nat.div_div_eq_div_mul] at h
          have hqi : p / 10 ^ i < 10 ^ 8 := Nat.lt_of_le_of_lt (Nat.div_le_self _ _) hp
          by_cases hz : p / 10 ^ i = 0
          · rw [hz] at h; cases h
          · rw [Vd_s hqi hz, h]
            split <;> rfl
      exact up j hv
    have h1 : 10 ^ j ≤ p := hle.resolve_left (by omega)
    have h0 : ¬ p / 10 ^ j = 0 := by have := Nat.div_pos h1 hb; omega
    by_cases c1 : p / 10 ^ j % 10 < 1
    · rw [if_pos (show nI (p / 10 ^ j % 10) < 1 from nI_lt (b := 1) c1 (by omega)), bad (by omega) h0]
    · rw [if_neg (show ¬ nI (p / 10 ^ j % 10) < 1 from nI_nlt (b := 1) (by omega) (by omega))]
      by_cases c2 : p / 10 ^ j % 10 ≤ 2
      · rw [if_pos (show nI (p / 10 ^ j % 10) ≤ 2 from nI_le (b := 2) c2 (by omega)), dv10 (by omega), show (2 : Int32) = nI 2 from rfl, pk_mul, nI_add, show nI (2 * t + p / 10 ^ j % 10) - 1 = nI (2 * t + p / 10 ^ j % 10 - 1) from pk_sub (b := 1) (by omega), show 2 * t + p / 10 ^ j % 10 - 1 = 2 * t + (p / 10 ^ j % 10 - 1) by omega]
        refine ih f _ (by omega) (by omega) ?_ (nxt _ rfl (by omega))
        by_cases hj0 : j = 0
        · exact Or.inl hj0
        · exact Or.inr (Nat.le_trans (Nat.pow_le_pow_right (by omega) (by omega)) h1)
      · rw [if_neg (show ¬ nI (p / 10 ^ j % 10) ≤ 2 from nI_ge (a := 2) (by omega) (by omega)), bad (by omega) h0]
theorem m_twos {fu p : Nat} {J : TI} {K : TL} (hfu : 2000 ≤ fu) (hp : p < 10 ^ 8) (hp1 : 1 ≤ p) : FO_M_twosOf fu (nI p) J K = some (match Vd 8 p with | some k => nI k | none => -1, J, K) := by
  have go : ∀ (j f : Nat), j ≤ 7 → j < f → p < 10 ^ (j + 1) → LO_M_twosOf_6 fu f (nI p) (nI 1) (nI (10 ^ j)) J K = some (match Vd 8 p with | some k => nI k | none => -1, J, K) := by
    intro j
    induction j with
    | zero =>
      intro f hj hf h
      obtain ⟨f, rfl⟩ : ∃ z, f = z + 1 := ⟨f - 1, by omega⟩
      rw [LO_M_twosOf_6, if_pos (show nI (10 ^ 0) ≤ nI p from nI_le (a := 1) hp1 (by omega))]
      exact lk_twos hp 1 fu 1 (by omega) (by omega) (Or.inr (by omega)) (by rw [Nat.div_eq_of_lt (by omega)]; rfl)
    | succ j ih =>
      intro f hj hf h
      obtain ⟨f, rfl⟩ : ∃ z, f = z + 1 := ⟨f - 1, by omega⟩
      have hb2 : (10 : Nat) ^ (j + 1) ≤ 10 ^ 7 := Nat.pow_le_pow_right (by omega) (by omega)
      rw [LO_M_twosOf_6]
      by_cases c : 10 ^ (j + 1) ≤ p
      · rw [if_pos (nI_le c (by omega))]
        have := lk_twos (fu := fu) (J := J) (K := K) hp (j + 2) fu 1 (by omega) (by omega) (Or.inr c) (by rw [Nat.div_eq_of_lt h]; rfl)
        rw [show (10 : Nat) ^ (j + 2) / 10 = 10 ^ (j + 1) from by rw [Nat.pow_succ]; omega] at this
        exact this
      · rw [if_neg (nI_ge (by omega) (by omega)), dv10 (by omega), show (10 : Nat) ^ (j + 1) / 10 = 10 ^ j from by rw [Nat.pow_succ]; omega]
        exact ih f (by omega) (by omega) (by omega)
  exact go 7 fu (by omega) (by omega) hp
def lenX : Nat → Int32 → Int32 → Option Int32
  | 0, _, _ => none
  | n + 1, a, x => if x ≤ 1 then some a else (if 8 ≤ a then some a else lenX n (a + 1) (x >>> (1 &&& 31)))
def lenM : Nat → Int32 → Int32 → Option Int32
  | 0, _, _ => none
  | n + 1, a, x => if x ≤ 1 then some a else lenM n (a + 1) (x / 2)
theorem lenX_up : ∀ (n m : Nat) (a x r : Int32), n ≤ m → lenX n a x = some r → lenX m a x = some r := by
  intro n
  induction n with
  | zero => intro m a x r _ h; cases h
  | succ n ih =>
    intro m a x r hm h
    obtain ⟨m, rfl⟩ : ∃ z, m = z + 1 := ⟨m - 1, by omega⟩
    rw [lenX] at h ⊢
    by_cases c : x ≤ 1
    · rw [if_pos c] at h ⊢; exact h
    · rw [if_neg c] at h ⊢
      by_cases c2 : 8 ≤ a
      · rw [if_pos c2] at h ⊢; exact h
      · rw [if_neg c2] at h ⊢; exact ih m _ _ _ (by omega) h
theorem lenM_up : ∀ (n m : Nat) (a x r : Int32), n ≤ m → lenM n a x = some r → lenM m a x = some r := by
  intro n
  induction n with
  | zero => intro m a x r _ h; cases h
  | succ n ih =>
    intro m a x r hm h
    obtain ⟨m, rfl⟩ : ∃ z, m = z + 1 := ⟨m - 1, by omega⟩
    rw [lenM] at h ⊢
    by_cases c : x ≤ 1
    · rw [if_pos c] at h ⊢; exact h
    · rw [if_neg c] at h ⊢; exact ih m _ _ _ (by omega) h
theorem x_lenP {fu : Nat} {I : TI} {L : TL} : ∀ (n : Nat) (p a x : Int32), LO_C_lengthOf_4 fu n p a x I L = (lenX n a x).map (fun r => (r, I, L)) := by
  intro n
  induction n with
  | zero => intro p a x; rfl
  | succ n ih =>
    intro p a x
    rw [LO_C_lengthOf_4, lenX]
    by_cases c : x ≤ 1
    · rw [if_pos c, if_pos c]; rfl
    · rw [if_neg c, if_neg c]
      by_cases c2 : 8 ≤ a
      · rw [if_pos c2, if_pos c2]; rfl
      · rw [if_neg c2, if_neg c2]; exact ih _ _ _
theorem m_lenP {fu : Nat} {I : TI} {L : TL} : ∀ (n : Nat) (p a x : Int32), LO_M_lengthOf_4 fu n p a x I L = (lenM n a x).map (fun r => (r, I, L)) := by
  intro n
  induction n with
  | zero => intro p a x; rfl
  | succ n ih =>
    intro p a x
    rw [LO_M_lengthOf_4, lenM]
    by_cases c : x ≤ 1
    · rw [if_pos c, if_pos c]; rfl
    · rw [if_neg c, if_neg c]; exact ih _ _ _
def lg (k : Nat) : Nat := if k < 2 then 0 else if k < 4 then 1 else if k < 8 then 2 else if k < 16 then 3 else if k < 32 then 4 else if k < 64 then 5 else if k < 128 then 6 else if k < 256 then 7 else 8
theorem lg_8 (k : Nat) : lg k ≤ 8 := by
  unfold lg
  repeat' split
  all_goals omega
theorem len_all : ∀ h, h < 32 → ∀ l, l < 16 → lenX 10 0 (nI (16 * h + l)) = some (nI (lg (16 * h + l))) ∧ lenM 10 0 (nI (16 * h + l)) = some (nI (lg (16 * h + l))) := by decide +kernel
theorem x_len {fu k : Nat} {I : TI} {L : TL} (hfu : 10 ≤ fu) (hk : k < 512) : FO_C_lengthOf fu (nI k) I L = some (nI (lg k), I, L) := by
  have := (len_all (k / 16) (by omega) (k % 16) (by omega)).1
  rw [show 16 * (k / 16) + k % 16 = k by omega] at this
  unfold FO_C_lengthOf
  rw [x_lenP, lenX_up 10 fu 0 _ _ hfu this]
  rfl
theorem m_len {fu k : Nat} {I : TI} {L : TL} (hfu : 10 ≤ fu) (hk : k < 512) : FO_M_lengthOf fu (nI k) I L = some (nI (lg k), I, L) := by
  have := (len_all (k / 16) (by omega) (k % 16) (by omega)).2
  rw [show 16 * (k / 16) + k % 16 = k by omega] at this
  unfold FO_M_lengthOf
  rw [m_lenP, lenM_up 10 fu 0 _ _ hfu this]
  rfl
theorem sh_all : ∀ s, s < 9 → ∀ h, h < 32 → ∀ l, l < 16 → nI (16 * h + l) >>> (nI s &&& 31) = nI ((16 * h + l) / 2 ^ s) ∧ (nI (16 * h + l) &&& (((1 : Int32) <<< (nI s &&& 31)) - 1)) ||| ((1 : Int32) <<< (nI s &&& 31)) = nI ((16 * h + l) % 2 ^ s + 2 ^ s) ∧ (nI (16 * h + l) &&& (((1 : Int32) <<< (nI s &&& 31)) - 1)) = nI ((16 * h + l) % 2 ^ s) := by decide +kernel
theorem sh_k {s k : Nat} (hs : s < 9) (hk : k < 512) : nI k >>> (nI s &&& 31) = nI (k / 2 ^ s) ∧ (nI k &&& (((1 : Int32) <<< (nI s &&& 31)) - 1)) ||| ((1 : Int32) <<< (nI s &&& 31)) = nI (k % 2 ^ s + 2 ^ s) ∧ (nI k &&& (((1 : Int32) <<< (nI s &&& 31)) - 1)) = nI (k % 2 ^ s) := by
  have := sh_all s hs (k / 16) (by omega) (k % 16) (by omega)
  rw [show 16 * (k / 16) + k % 16 = k by omega] at this
  exact this
/-- what is left of a key behind another one -/
def rst (a b : Nat) : Option Nat := if lg a < lg b then none else if a / 2 ^ (lg a - lg b) = b then some (a % 2 ^ (lg a - lg b) + 2 ^ (lg a - lg b)) else none
theorem p2_8 {s : Nat} (h : s ≤ 8) : 0 < 2 ^ s ∧ 2 ^ s ≤ 256 := ⟨Nat.pow_pos (by omega), Nat.pow_le_pow_right (n := 2) (by omega) h⟩
theorem rst_b {a b k : Nat} (h : rst a b = some k) : 1 ≤ k ∧ k < 512 := by
  unfold rst at h
  split at h
  · cases h
  · split at h
    · cases h
      have := p2_8 (s := lg a - lg b) (by have := lg_8 a; omega)
      have := Nat.mod_lt a this.1
      omega
    · cases h
theorem x_rest {fu a b : Nat} {I : TI} {L : TL} (hfu : 10 ≤ fu) (ha : a < 512) (hb : b < 512) : FO_C_behind fu (nI a) (nI b) I L = some (match rst a b with | some k => nI k | none => 0, I, L) := by
  unfold FO_C_behind rst
  rw [x_len hfu ha]
  simp only [Option.bind_some]
  rw [x_len hfu hb]
  simp only [Option.bind_some]
  have l1 := lg_8 a
  have l2 := lg_8 b
  by_cases c : lg a < lg b
  · rw [if_pos (pk_sneg (by omega) c), if_pos c]
  · rw [if_neg c, pk_sub (by omega), if_neg (nI_pos (by omega))]
    have q := sh_k (s := lg a - lg b) (k := a) (by omega) ha
    rw [q.1, q.2.1]
    have := Nat.div_le_self a (2 ^ (lg a - lg b))
    by_cases c2 : a / 2 ^ (lg a - lg b) = b
    · rw [if_pos c2, if_pos (by rw [c2])]
    · rw [if_neg c2, if_neg (fun z => c2 ((nI_eq (by omega) (by omega)).mp z))]
theorem m_rest {fu a b : Nat} {I : TI} {L : TL} (hfu : 10 ≤ fu) (ha : a < 512) (hb : b < 512) : FO_M_restOf fu (nI a) (nI b) I L = some (match rst a b with | some k => nI k | none => -1, I, L) := by
  unfold FO_M_restOf rst
  rw [m_len hfu ha]
  simp only [Option.bind_some]
  rw [m_len hfu hb]
  simp only [Option.bind_some]
  have l1 := lg_8 a
  have l2 := lg_8 b
  by_cases c : lg a < lg b
  · rw [if_pos (pk_sneg (by omega) c), if_pos c]
  · rw [if_neg c, pk_sub (by omega), if_neg (nI_pos (by omega))]
    have q := sh_k (s := lg a - lg b) (k := a) (by omega) ha
    rw [q.1, Int32.or_comm, q.2.1]
    have := Nat.div_le_self a (2 ^ (lg a - lg b))
    by_cases c2 : a / 2 ^ (lg a - lg b) = b
    · rw [if_pos c2, if_pos (by rw [c2])]
    · rw [if_neg c2, if_neg (fun z => c2 ((nI_eq (by omega) (by omega)).mp z))]
/-- the words told so far -/
theorem SR.f_wo {I J : TI} (s : SR (aN I) (J 332)) : ∃ n : Nat, n ≤ 5 ∧ I 1 13 = nI n ∧ J 332 5 = nI n ∧ ∀ k, k < n → ∃ p q : Nat, 1 ≤ p ∧ p ≤ 22222 ∧ J 332 (66 + k) = nI p ∧ I 134 k = nI q ∧ Vd 8 p = some q ∧ 2 ≤ q ∧ q < 64 := by
  obtain ⟨e, n, hn, e2⟩ := s.wo
  have e2 : I 1 13 = nI n := e2
  refine ⟨n, hn, e2, e.trans e2, fun k hk => ?_⟩
  obtain ⟨p, q, h1, h2, h3, h4, h5⟩ := s.wd k (by omega) (by show nI k < I 1 13; rw [e2]; exact nI_lt hk (by omega))
  exact ⟨p, q, h1, h2, h3, h4, h5, Vd_2 (by omega) (by omega) h5, Vd_5 h2 h5⟩
theorem m_word {fu k p q : Nat} {J : TI} {K : TL} (hfu : 2000 ≤ fu) (hk : k < 5) (h1 : 1 ≤ p) (h2 : p ≤ 22222) (h3 : J 332 (66 + k) = nI p) (h5 : Vd 8 p = some q) : FO_M_wordAt fu (nI k) J K = some (nI q, J, K) := by
  unfold FO_M_wordAt
  rw [show (66 : Int32) + nI k = nI (66 + k) from nI_add 66 k, if_pos (show (0 : Int32) ≤ nI (66 + k) ∧ nI (66 + k) < 1541 from ⟨nI_pos' (by omega), nI_lt (b := 1541) (by omega) (by omega)⟩), nI_clamp (by omega), h3, m_twos hfu (by omega) h1, h5]
  rfl
theorem lk_isw {fu n p q : Nat} {I J : TI} {L K : TL} (hn : n ≤ 5) (e1 : I 1 13 = nI n) (e2 : J 332 5 = nI n) (w : ∀ k, k < n → ∃ p q : Nat, 1 ≤ p ∧ p ≤ 22222 ∧ J 332 (66 + k) = nI p ∧ I 134 k = nI q ∧ Vd 8 p = some q ∧ 2 ≤ q ∧ q < 64) (hp : p ≤ 22222) (hq : q < 64) (hv : Vd 8 p = some q) : ∀ (j k f g : Nat), k + j = n → j < f → j < g → (LO_C_isWord_2 fu f (nI q) (nI k) I L = some (1, I, L) ∧ LO_M_code_48 fu g (nI p) (nI k) J K = some (-2, J, K)) ∨ (LO_C_isWord_2 fu f (nI q) (nI k) I L = some (0, I, L) ∧ LO_M_code_48 fu g (nI p) (nI k) J K = LO_M_code_48 fu 1 (nI p) (nI n) J K) := by
  intro j
  induction j with
  | zero =>
    intro k f g hk hf hg
    obtain ⟨f, rfl⟩ : ∃ z, f = z + 1 := ⟨f - 1, by omega⟩
    obtain ⟨g, rfl⟩ : ∃ z, g = z + 1 := ⟨g - 1, by omega⟩
    have hk : k = n := by omega
    subst hk
    right
    constructor
    · rw [LO_C_isWord_2, e1, if_pos (Int32.le_refl _)]
    · rw [LO_M_code_48, LO_M_code_48, e2, if_pos (Int32.le_refl _), if_pos (Int32.le_refl _)]
  | succ j ih =>
    intro k f g hk hf hg
    obtain ⟨f, rfl⟩ : ∃ z, f = z + 1 := ⟨f - 1, by omega⟩
    obtain ⟨g, rfl⟩ : ∃ z, g = z + 1 := ⟨g - 1, by omega⟩
    obtain ⟨p', q', a1, a2, a3, a4, a5, a6, a7⟩ := w k (by omega)
    rw [LO_C_isWord_2, LO_M_code_48, e1, e2]
    simp (disch := omega) only [l_0, l_1, l_2, l_3, l_4, l_5, l_6, l_7, l_8, l_9, l_10, l_11, l_12, l_13, l_15, l_24, l_30, l_36, l_42, l_51, l_60, l_66, l_71, l_77, l_90, l_99, l_100, l_101, l_300, l_557, l_431, l_1511, l_1541, l_9999, l_2724, l_681, l_255, nI_add, pk_mul, pk_sub, Nat.add_sub_cancel, nI_clamp, nI_leI, nI_ltI, nI_eq, if_pos, if_neg, if_true, if_false, Option.bind_some, a3, a4]
    by_cases c : q' = q
    · subst c
      have := Vd_inj 8 _ _ _ a5 hv
      subst this
      left
      exact ⟨if_pos rfl, if_pos rfl⟩
    · have c2 : ¬ p' = p := fun e => by subst e; rw [a5] at hv; cases hv; exact c rfl
      rw [if_neg c, if_neg c2]
      exact ih (k + 1) f g (by omega) (by omega) (by omega)
theorem op_code {T : TI → (Nat → Int32) → Prop} {fu : Nat} (hfu : 2000 ≤ fu) (p : Int32) : OpR T (fun I L => FO_X_code fu p I L) (fun I L => FO_M_code fu p I L) := by
  intro I J L K hR
  have s := hR.s
  obtain ⟨n, hn, e1, e2, w⟩ := s.f_wo
  by_cases c : p = -1
  · refine now1 (L := L) (K := K) (r := 0) (j := 0) (k := 13) (i := 5) (v := 0) (w := 0) hR (by omega) (by omega) ?_ ?_ (SR.zero_wo s)
    · dsimp only; unfold FO_X_code; rw [if_pos c]
    · dsimp only; unfold FO_M_code; rw [if_pos c]
  · by_cases c0 : 1 ≤ p ∧ p ≤ 22222
    · obtain ⟨a, ha1, ha, rfl⟩ := rng1 (hi := 22222) (by omega) c0.1 c0.2
      have x0 := x_key (fu := fu) (I := I) (L := L) (p := a) hfu (by omega)
      have m0 := m_twos (fu := fu) (J := J) (K := K) (p := a) hfu (by omega) ha1
      by_cases h5 : n = 5
      · subst h5
        refine now0 (L := L) (K := K) (-2) hR ?_ ?_
        · dsimp only; unfold FO_X_code; rw [if_neg c, if_pos c0, e1, if_neg (by decide)]
        · dsimp only; unfold FO_M_code; rw [if_neg c, if_pos c0, m0]
          simp only [Option.bind_some]
          rw [e2, if_pos (show nI 5 = 5 from rfl)]
          exact ite_self _
      · have cx : 0 ≤ I 1 13 ∧ I 1 13 ≤ 4 := by rw [e1]; exact ⟨nI_pos' (by omega), nI_le (b := 4) (by omega) (by omega)⟩
        have cm : ¬ J 332 5 = 5 := by rw [e2]; exact fun z => h5 ((nI_eq (b := 5) (by omega) (by omega)).mp z)
        cases hv : Vd 8 a with
        | none =>
          rw [hv] at x0 m0
          refine now0 (L := L) (K := K) (-2) hR ?_ ?_
          · dsimp only; unfold FO_X_code; rw [if_neg c, if_pos c0, if_pos cx, x0]; rfl
          · dsimp only; unfold FO_M_code; rw [if_neg c, if_pos c0, m0]; rfl
        | some q =>
          rw [hv] at x0 m0
          have hq2 := Vd_2 (by omega) (by omega) hv
          have hq := Vd_5 ha hv
          have q0 : ¬ nI q = 0 := nI_ne0 (by omega) (by omega)
          have q1 : ¬ nI q = -1 := fun z => absurd (show (0 : Int32) ≤ -1 from z ▸ nI_pos' (by omega)) (by decide)
          rcases lk_isw (fu := fu) (L := L) (K := K) hn e1 e2 w ha hq hv n 0 fu fu (by omega) (by omega) (by omega) with ⟨r1, r2⟩ | ⟨r1, r2⟩
          · refine now0 (L := L) (K := K) (-2) hR ?_ ?_
            · dsimp only; unfold FO_X_code; rw [if_neg c, if_pos c0, if_pos cx, x0]
              simp only [Option.bind_some]
              rw [if_neg q0, show FO_C_isWord fu (nI q) I L = _ from r1]
              rfl
            · dsimp only; unfold FO_M_code; rw [if_neg c, if_pos c0, m0]
              simp only [Option.bind_some]
              rw [if_neg q1, if_neg cm]
              exact r2
          · refine nowW (r := nI (n + 1)) (I' := sI (sI I 134 n (nI q)) 1 13 (nI (n + 1))) (J' := sI (sI J 332 (66 + n) (nI a)) 332 5 (nI (n + 1))) (L' := L) (K' := K) hR ?_ ?_ ?_ ?_ rfl ?_
            · dsimp only; unfold FO_X_code; rw [if_neg c, if_pos c0, if_pos cx, x0]
              simp only [Option.bind_some]
              rw [if_neg q0, show FO_C_isWord fu (nI q) I L = _ from r1]
              simp only [Option.bind_some]
              rw [if_pos trivial, e1, if_pos (show (0 : Int32) ≤ nI n ∧ nI n < 5 from ⟨nI_pos' (by omega), nI_lt (b := 5) (by omega) (by omega)⟩), nI_clamp (by omega), nI_1]
            · dsimp only; unfold FO_M_code; rw [if_neg c, if_pos c0, m0]
              simp only [Option.bind_some]
              rw [if_neg q1, if_neg cm]
              refine r2.trans ?_
              rw [LO_M_code_48, e2, if_pos (Int32.le_refl _), show (66 : Int32) + nI n = nI (66 + n) from nI_add 66 n, if_pos (show (0 : Int32) ≤ nI (66 + n) ∧ nI (66 + n) < 1541 from ⟨nI_pos' (by omega), nI_lt (b := 1541) (by omega) (by omega)⟩), nI_clamp (by omega), sJ_at, pk_un (by omega), e2, nI_1]
            · rw [aN_sI 0 rfl, aN_sI 133 rfl, sJ_at, sJ_at]
              exact SR.set_wd s (by omega) e1 ⟨a, q, ha1, ha, rfl, rfl, hv⟩
            · intro o ho; rw [sJ_ne (by omega), sJ_ne (by omega)]
            · intro o ho; rw [sJ_ne ho, sJ_ne ho]
    · refine now0 (L := L) (K := K) (-2) hR ?_ ?_
      · dsimp only; unfold FO_X_code; rw [if_neg c, if_neg c0]
      · dsimp only; unfold FO_M_code; rw [if_neg c, if_neg c0]
theorem lk_free1 {fu n i : Nat} {I J : TI} {L K : TL} (hfu : 2000 ≤ fu) (hn : n ≤ 5) (e1 : I 1 13 = nI n) (e2 : J 332 5 = nI n) (w : ∀ k, k < n → ∃ p q : Nat, 1 ≤ p ∧ p ≤ 22222 ∧ J 332 (66 + k) = nI p ∧ I 134 k = nI q ∧ Vd 8 p = some q ∧ 2 ≤ q ∧ q < 64) (hi : i < n) {kx : Int32 → TI → TL → Option (Int32 × TI × TL)} {km : Int32 → TI → TL → Option (Int32 × TI × TL)} : ∀ (j k f g : Nat), k + j = n → j < f → j < g → (LO_C_isFree_17 fu kx f (nI i) (nI k) I L = some (0, I, L) ∧ LO_M_free_14 fu km g (nI i) (nI k) J K = some (0, J, K)) ∨ (LO_C_isFree_17 fu kx f (nI i) (nI k) I L = kx (nI (i + 1)) I L ∧ LO_M_free_14 fu km g (nI i) (nI k) J K = km (nI (i + 1)) J K) := by
  intro j
  induction j with
  | zero =>
    intro k f g hk hf hg
    obtain ⟨f, rfl⟩ : ∃ z, f = z + 1 := ⟨f - 1, by omega⟩
    obtain ⟨g, rfl⟩ : ∃ z, g = z + 1 := ⟨g - 1, by omega⟩
    have hk : k = n := by omega
    subst hk
    right
    constructor
    · rw [LO_C_isFree_17, e1, if_pos (Int32.le_refl _), nI_1]
    · rw [LO_M_free_14, e2, if_pos (Int32.le_refl _), nI_1]
  | succ j ih =>
    intro k f g hk hf hg
    obtain ⟨f, rfl⟩ : ∃ z, f = z + 1 := ⟨f - 1, by omega⟩
    obtain ⟨g, rfl⟩ : ∃ z, g = z + 1 := ⟨g - 1, by omega⟩
    obtain ⟨p', q', a1, a2, a3, a4, a5, a6, a7⟩ := w k (by omega)
    obtain ⟨p2, q2, b1, b2, b3, b4, b5, b6, b7⟩ := w i (by omega)
    have x0 := x_rest (fu := fu) (I := I) (L := L) (a := q2) (b := q') (by omega) (by omega) (by omega)
    have m0 := m_rest (fu := fu) (I := J) (L := K) (a := q2) (b := q') (by omega) (by omega) (by omega)
    rw [LO_C_isFree_17, LO_M_free_14, e1, e2]
    simp (disch := omega) only [l_0, l_1, l_2, l_3, l_4, l_5, l_6, l_7, l_8, l_9, l_10, l_11, l_12, l_13, l_15, l_24, l_30, l_36, l_42, l_51, l_60, l_66, l_71, l_77, l_90, l_99, l_100, l_101, l_300, l_557, l_431, l_1511, l_1541, l_9999, l_2724, l_681, l_255, nI_add, pk_mul, pk_sub, Nat.add_sub_cancel, nI_clamp, nI_leI, nI_ltI, nI_eq, if_pos, if_neg, if_true, if_false, Option.bind_some, a4, b4, m_word hfu (show k < 5 by omega) a1 a2 a3 a5, m_word hfu (show i < 5 by omega) b1 b2 b3 b5]
    by_cases c : i = k
    · rw [if_pos c, if_pos c]
      exact ih (k + 1) f g (by omega) (by omega) (by omega)
    · rw [if_neg c, if_neg c, x0, m0]
      cases hr : rst q2 q' with
      | none =>
        simp only [Option.bind_some]
        rw [if_pos (show (0 : Int32) = nI 0 from rfl), if_pos (show (-1 : Int32) = -nI 1 from rfl)]
        exact ih (k + 1) f g (by omega) (by omega) (by omega)
      | some r =>
        have rb := rst_b hr
        simp only [Option.bind_some]
        left
        rw [if_neg (fun z => by have := (nI_eq (a := r) (b := 0) (by omega) (by omega)).mp z; omega), if_neg (show ¬ nI r = -nI 1 from nI_nm (by omega))]
        exact ⟨rfl, rfl⟩
theorem lk_free2 {fu n : Nat} {I J : TI} {L K : TL} (hfu : 2000 ≤ fu) (hn : n ≤ 5) (e1 : I 1 13 = nI n) (e2 : J 332 5 = nI n) (w : ∀ k, k < n → ∃ p q : Nat, 1 ≤ p ∧ p ≤ 22222 ∧ J 332 (66 + k) = nI p ∧ I 134 k = nI q ∧ Vd 8 p = some q ∧ 2 ≤ q ∧ q < 64) : ∀ (j i f g : Nat), i + j = n → j < f → j < g → ∃ r, (r = 0 ∨ r = 1) ∧ LO_C_isFree_2 fu f (nI i) I L = some (r, I, L) ∧ LO_M_free_2 fu g (nI i) J K = some (r, J, K) := by
  intro j
  induction j with
  | zero =>
    intro k f g hk hf hg
    obtain ⟨f, rfl⟩ : ∃ z, f = z + 1 := ⟨f - 1, by omega⟩
    obtain ⟨g, rfl⟩ : ∃ z, g = z + 1 := ⟨g - 1, by omega⟩
    have hk : k = n := by omega
    subst hk
    refine ⟨1, Or.inr rfl, ?_, ?_⟩
    · rw [LO_C_isFree_2, e1, if_pos (Int32.le_refl _)]
    · rw [LO_M_free_2, e2, if_pos (Int32.le_refl _)]
  | succ j ih =>
    intro i f g hk hf hg
    obtain ⟨f, rfl⟩ : ∃ z, f = z + 1 := ⟨f - 1, by omega⟩
    obtain ⟨g, rfl⟩ : ∃ z, g = z + 1 := ⟨g - 1, by omega⟩
    rw [LO_C_isFree_2, LO_M_free_2, e1, e2, if_neg (nI_ge (by omega) (by omega)), if_neg (nI_ge (by omega) (by omega)), if_neg (show ¬ (5 : Int32) ≤ nI i from nI_ge (b := 5) (by omega) (by omega))]
    rcases lk_free1 (fu := fu) (I := I) (J := J) (L := L) (K := K) hfu hn e1 e2 w (show i < n by omega) (kx := fun x1 I L => LO_C_isFree_2 fu f x1 I L) (km := fun x1 I L => LO_M_free_2 fu g x1 I L) n 0 fu fu (by omega) (by omega) (by omega) with ⟨h1, h2⟩ | ⟨h1, h2⟩
    · exact ⟨0, Or.inl rfl, h1, h2⟩
    · obtain ⟨r, r0, r1, r2⟩ := ih (i + 1) f g (by omega) (by omega) (by omega)
      exact ⟨r, r0, h1.trans r1, h2.trans r2⟩
theorem op_free {T : TI → (Nat → Int32) → Prop} {fu : Nat} (hfu : 2000 ≤ fu) : OpR T (fun I L => FO_X_free fu  I L) (fun I L => FO_M_free fu  I L) := by
  refine OpR_q (fun I J L K hR => ?_)
  have s := hR.s
  obtain ⟨n, hn, e1, e2, w⟩ := s.f_wo
  obtain ⟨r, r0, r1, r2⟩ := lk_free2 (fu := fu) (L := L) (K := K) hfu hn e1 e2 w n 0 fu fu (by omega) (by omega) (by omega)
  refine ⟨r, ?_, r2⟩
  unfold FO_X_free
  rw [show FO_C_isFree fu I L = _ from r1]
  rcases r0 with rfl | rfl <;> rfl
