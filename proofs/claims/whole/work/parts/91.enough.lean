/-! how many stairs are enough -/
theorem cnt_lt2 : ∀ h, h < 64 → ∀ l, l < 64 → jbc (nI (2 * (64 * h + l))) < 13 := by decide +kernel
theorem cnt_lt (m : Nat) (hm : m < 4096) : jbc (nI (2 * m)) < 13 := by
  have := cnt_lt2 (m / 64) (by omega) (m % 64) (by omega)
  rw [show 64 * (m / 64) + m % 64 = m by omega] at this
  exact this
/-- two prints that a set doesn't tell apart -/
def Zst (I : TI) (s : Int32) (a b : Nat) : Prop := ((I 130 a) ^^^ (I 130 b)) &&& s = 0
theorem Zst.sym {I : TI} {s : Int32} {a b : Nat} (h : Zst I s a b) : Zst I s b a := by
  unfold Zst at *
  rw [Int32.xor_comm]; exact h
/-- all are told apart -/
def Pt (I : TI) (n : Nat) (s : Int32) : Prop := ∀ a b, b < a → a < n → ¬ Zst I s a b
theorem xt12 {fu a : Nat} {s : Int32} {I : TI} {L : TL} {kk : Int32 → Int32 → TI → TL → Option (Int32 × TI × TL)} (ha : a < 6) : ∀ (j b f : Nat), b + j = a → j < f → (LO_X_tellsAllApart_12 fu kk f s (nI a) (nI b) I L = kk s (nI (a + 1)) I L ∧ ∀ b', b ≤ b' → b' < a → ¬ Zst I s a b') ∨ (LO_X_tellsAllApart_12 fu kk f s (nI a) (nI b) I L = some (0, I, L) ∧ ∃ b', b' < a ∧ Zst I s a b') := by
  intro j
  induction j with
  | zero =>
    intro b f hb hf
    obtain ⟨f, rfl⟩ : ∃ z, f = z + 1 := ⟨f - 1, by omega⟩
    left
    refine ⟨?_, fun b' h1 h2 => by omega⟩
    rw [LO_X_tellsAllApart_12, if_pos (nI_le (by omega) (by omega)), show nI a + 1 = nI (a + 1) from nI_1 ..]
  | succ j ih =>
    intro b f hb hf
    obtain ⟨f, rfl⟩ : ∃ z, f = z + 1 := ⟨f - 1, by omega⟩
    rw [LO_X_tellsAllApart_12, if_neg (show ¬ nI a ≤ nI b from nI_ge (by omega) (by omega)), if_pos (show (0 : Int32) ≤ nI a ∧ nI a < 6 from ib (n := 6) rfl (by omega) (by omega)), if_pos (show (0 : Int32) ≤ nI b ∧ nI b < 6 from ib (n := 6) rfl (by omega) (by omega)), nI_clamp (show a < 2 ^ 31 by omega), nI_clamp (show b < 2 ^ 31 by omega)]
    by_cases c : Zst I s a b
    · have c' := c
      unfold Zst at c'
      rw [if_pos c']
      exact Or.inr ⟨rfl, b, by omega, c⟩
    · have c' := c
      unfold Zst at c'
      rw [if_neg c', show nI b + 1 = nI (b + 1) from nI_1 ..]
      rcases ih (b + 1) f (by omega) (by omega) with ⟨h1, h2⟩ | h
      · refine Or.inl ⟨h1, fun b' h3 h4 => ?_⟩
        by_cases e : b' = b
        · subst e; exact c
        · exact h2 b' (by omega) h4
      · exact Or.inr h
theorem xt2 {fu n : Nat} {s : Int32} {I : TI} {L : TL} (hfu : 2000 ≤ fu) (hn : n ≤ 6) (e : F_X_tenants I = nI n) : ∀ (j a f : Nat), a + j = n → j < f → (LO_X_tellsAllApart_2 fu f s (nI a) I L = some (1, I, L) ∧ ∀ a' b', a ≤ a' → a' < n → b' < a' → ¬ Zst I s a' b') ∨ (LO_X_tellsAllApart_2 fu f s (nI a) I L = some (0, I, L) ∧ ¬ Pt I n s) := by
  intro j
  induction j with
  | zero =>
    intro a f ha hf
    obtain ⟨f, rfl⟩ : ∃ z, f = z + 1 := ⟨f - 1, by omega⟩
    left
    refine ⟨?_, fun a' b' h1 h2 _ => by omega⟩
    rw [LO_X_tellsAllApart_2, e, if_pos (nI_le (by omega) (by omega))]
  | succ j ih =>
    intro a f ha hf
    obtain ⟨f, rfl⟩ : ∃ z, f = z + 1 := ⟨f - 1, by omega⟩
    rw [LO_X_tellsAllApart_2, e, if_neg (show ¬ nI n ≤ nI a from nI_ge (by omega) (by omega))]
    rcases xt12 (fu := fu) (a := a) (s := s) (I := I) (L := L) (kk := fun x1 x2 I L => LO_X_tellsAllApart_2 fu f x1 x2 I L) (by omega) a 0 fu (by omega) (by omega) with ⟨h1, h2⟩ | ⟨h1, b', h2, h3⟩
    · rcases ih (a + 1) f (by omega) (by omega) with ⟨g1, g2⟩ | ⟨g1, g2⟩
      · refine Or.inl ⟨h1.trans g1, fun a' b' h3 h4 h5 => ?_⟩
        by_cases ea : a' = a
        · subst ea; exact h2 b' (by omega) h5
        · exact g2 a' b' (by omega) h4 h5
      · exact Or.inr ⟨h1.trans g1, g2⟩
    · exact Or.inr ⟨h1, fun q => q a b' h2 (by omega) h3⟩
theorem x_tell {fu n : Nat} {s : Int32} {I : TI} {L : TL} (hfu : 2000 ≤ fu) (hn : n ≤ 6) (e : F_X_tenants I = nI n) : (FO_X_tellsAllApart fu s I L = some (1, I, L) ∧ Pt I n s) ∨ (FO_X_tellsAllApart fu s I L = some (0, I, L) ∧ ¬ Pt I n s) := by
  rcases xt2 (fu := fu) (s := s) (L := L) hfu hn e n 0 fu (by omega) (by omega) with ⟨h1, h2⟩ | h
  · exact Or.inl ⟨h1, fun a b h3 h4 => h2 a b (by omega) h4 h3⟩
  · exact Or.inr h
theorem mt16 {fu n a : Nat} {s : Int32} {I J : TI} {K : TL} {kk : Int32 → Int32 → TI → TL → Option (Int32 × TI × TL)} (hs : SR (aN I) (J 332)) (hn : n ≤ 6) (e : J 332 0 = nI n) (ha : a < n) : ∀ (j b f : Nat), b + j = n → a < b → j < f → (LO_M_areUnlike_16 fu kk f s (nI a) (nI b) J K = kk s (nI (a + 1)) J K ∧ ∀ b', b ≤ b' → b' < n → ¬ Zst I s b' a) ∨ (LO_M_areUnlike_16 fu kk f s (nI a) (nI b) J K = some (0, J, K) ∧ ∃ b', a < b' ∧ b' < n ∧ Zst I s b' a) := by
  intro j
  induction j with
  | zero =>
    intro b f hb hab hf
    obtain ⟨f, rfl⟩ : ∃ z, f = z + 1 := ⟨f - 1, by omega⟩
    left
    refine ⟨?_, fun b' h1 h2 => by omega⟩
    rw [LO_M_areUnlike_16, e, if_pos (nI_le (by omega) (by omega)), show nI a + 1 = nI (a + 1) from nI_1 ..]
  | succ j ih =>
    intro b f hb hab hf
    obtain ⟨f, rfl⟩ : ∃ z, f = z + 1 := ⟨f - 1, by omega⟩
    have g : ∀ x, (36 : Int32) + nI x = nI (36 + x) := fun x => nI_add 36 x
    rw [LO_M_areUnlike_16, e, if_neg (show ¬ nI n ≤ nI b from nI_ge (by omega) (by omega)), g a, g b, if_pos (show (0 : Int32) ≤ nI (36 + a) ∧ nI (36 + a) < 1541 from ib (n := 1541) rfl (by omega) (by omega)), if_pos (show (0 : Int32) ≤ nI (36 + b) ∧ nI (36 + b) < 1541 from ib (n := 1541) rfl (by omega) (by omega)), nI_clamp (show 36 + a < 2 ^ 31 by omega), nI_clamp (show 36 + b < 2 ^ 31 by omega), hs.f_pr a (by omega), hs.f_pr b (by omega)]
    by_cases c : Zst I s b a
    · have c' := c.sym
      unfold Zst at c'
      rw [if_pos c']
      exact Or.inr ⟨rfl, b, by omega, by omega, c⟩
    · have c' : ¬ Zst I s a b := fun z => c z.sym
      unfold Zst at c'
      rw [if_neg c', show nI b + 1 = nI (b + 1) from nI_1 ..]
      rcases ih (b + 1) f (by omega) (by omega) (by omega) with ⟨h1, h2⟩ | h
      · refine Or.inl ⟨h1, fun b' h3 h4 => ?_⟩
        by_cases e : b' = b
        · subst e; exact c
        · exact h2 b' (by omega) h4
      · exact Or.inr h
theorem mt2 {fu n : Nat} {s : Int32} {I J : TI} {K : TL} (hfu : 2000 ≤ fu) (hs : SR (aN I) (J 332)) (hn : n ≤ 6) (e : J 332 0 = nI n) : ∀ (j a f : Nat), a + j = n → j < f → (LO_M_areUnlike_2 fu f s (nI a) J K = some (1, J, K) ∧ ∀ a' b', a ≤ b' → a' < n → b' < a' → ¬ Zst I s a' b') ∨ (LO_M_areUnlike_2 fu f s (nI a) J K = some (0, J, K) ∧ ¬ Pt I n s) := by
  intro j
  induction j with
  | zero =>
    intro a f ha hf
    obtain ⟨f, rfl⟩ : ∃ z, f = z + 1 := ⟨f - 1, by omega⟩
    left
    refine ⟨?_, fun a' b' h1 h2 _ => by omega⟩
    rw [LO_M_areUnlike_2, e, if_pos (nI_le (by omega) (by omega))]
  | succ j ih =>
    intro a f ha hf
    obtain ⟨f, rfl⟩ : ∃ z, f = z + 1 := ⟨f - 1, by omega⟩
    rw [LO_M_areUnlike_2, e, if_neg (show ¬ nI n ≤ nI a from nI_ge (by omega) (by omega)), show nI a + 1 = nI (a + 1) from nI_1 ..]
    rcases mt16 (fu := fu) (n := n) (a := a) (s := s) (K := K) (kk := fun x1 x2 I L => LO_M_areUnlike_2 fu f x1 x2 I L) hs hn e (by omega) j (a + 1) fu (by omega) (by omega) (by omega) with ⟨h1, h2⟩ | ⟨h1, b', h2, h3, h4⟩
    · rcases ih (a + 1) f (by omega) (by omega) with ⟨g1, g2⟩ | ⟨g1, g2⟩
      · refine Or.inl ⟨h1.trans g1, fun a' b' h3 h4 h5 => ?_⟩
        by_cases ea : b' = a
        · subst ea; exact h2 a' (by omega) h4
        · exact g2 a' b' (by omega) h4 h5
      · exact Or.inr ⟨h1.trans g1, g2⟩
    · exact Or.inr ⟨h1, fun q => q b' a h2 h3 h4⟩
theorem m_tell {fu n : Nat} {s : Int32} {I J : TI} {K : TL} (hfu : 2000 ≤ fu) (hs : SR (aN I) (J 332)) (hn : n ≤ 6) (e : J 332 0 = nI n) : (FO_M_areUnlike fu s J K = some (1, J, K) ∧ Pt I n s) ∨ (FO_M_areUnlike fu s J K = some (0, J, K) ∧ ¬ Pt I n s) := by
  rcases mt2 (fu := fu) (s := s) (K := K) hfu hs hn e n 0 fu (by omega) (by omega) with ⟨h1, h2⟩ | h
  · exact Or.inl ⟨h1, fun a b h3 h4 => h2 a b (by omega) h4 h3⟩
  · exact Or.inr h
/-- the best set of a stretch: fewest stairs, then the lowest -/
def Bst (P : Nat → Prop) (lo hi k : Nat) : Prop := lo ≤ k ∧ k < hi ∧ P k ∧ ∀ k', lo ≤ k' → k' < hi → P k' → jbc (nI (2 * k)) < jbc (nI (2 * k')) ∨ (jbc (nI (2 * k)) = jbc (nI (2 * k')) ∧ k ≤ k')
theorem Bst.one {P : Nat → Prop} {lo hi k k' : Nat} (a : Bst P lo hi k) (b : Bst P lo hi k') : k = k' := by
  obtain ⟨a1, a2, a3, a4⟩ := a
  obtain ⟨b1, b2, b3, b4⟩ := b
  rcases a4 k' b1 b2 b3 with h | ⟨h, h'⟩
  · rcases b4 k a1 a2 a3 with g | ⟨g, g'⟩
    · exact (Int32.lt_irrefl (Int32.lt_trans h g)).elim
    · rw [g] at h; exact (Int32.lt_irrefl h).elim
  · rcases b4 k a1 a2 a3 with g | ⟨g, g'⟩
    · rw [h] at g; exact (Int32.lt_irrefl g).elim
    · omega
theorem lx_en {fu n : Nat} {x1 : Int32} {I : TI} {L : TL} (hfu : 2000 ≤ fu) (hn : n ≤ 6) (e : F_X_tenants I = nI n) : ∀ (j k f : Nat) (x2 x3 : Int32), k + j = 4096 → j < f → ((x2 = 13 ∧ x3 = -1 ∧ ∀ k', k' < k → ¬ Pt I n (nI (2 * k'))) ∨ ∃ q, Bst (fun z => Pt I n (nI (2 * z))) 0 k q ∧ x2 = jbc (nI (2 * q)) ∧ x3 = nI (2 * q)) → (LO_X_enough_8 fu f x1 x2 x3 (nI (2 * k)) I L = some (-1, I, L) ∧ ∀ k', k' < 4096 → ¬ Pt I n (nI (2 * k'))) ∨ (∃ q, Bst (fun z => Pt I n (nI (2 * z))) 0 4096 q ∧ LO_X_enough_8 fu f x1 x2 x3 (nI (2 * k)) I L = some (if x1 = 0 then nI (2 * q) else jbc (nI (2 * q)), I, L)) := by
  intro j
  induction j with
  | zero =>
    intro k f x2 x3 hk hf h
    obtain ⟨f, rfl⟩ : ∃ z, f = z + 1 := ⟨f - 1, by omega⟩
    have : k = 4096 := by omega
    subst this
    rw [LO_X_enough_8, if_pos (by decide)]
    rcases h with ⟨h1, h2, h3⟩ | ⟨q, hq, h1, h2⟩
    · left
      refine ⟨?_, h3⟩
      subst h2
      by_cases c : x1 = 0
      · rw [if_pos c]
      · rw [if_neg c, if_pos rfl]
    · right
      refine ⟨q, hq, ?_⟩
      have := hq.2.1
      subst h1 h2
      by_cases c : x1 = 0
      · rw [if_pos c, if_pos c]
      · rw [if_neg c, if_neg c, if_neg (show ¬ nI (2 * q) = -1 from nI_nm (by omega))]
  | succ j ih =>
    intro k f x2 x3 hk hf h
    obtain ⟨f, rfl⟩ : ∃ z, f = z + 1 := ⟨f - 1, by omega⟩
    rw [LO_X_enough_8, if_neg (show ¬ (8190 : Int32) < nI (2 * k) from nI_nlt (a := 8190) (by omega) (by omega)), j_bits, show nI (2 * k) + 2 = nI (2 * (k + 1)) from (nI_add _ 2).trans (by congr 1)]
    simp only [Option.bind_some]
    have up : ∀ q, Bst (fun z => Pt I n (nI (2 * z))) 0 k q → (Pt I n (nI (2 * k)) → jbc (nI (2 * q)) ≤ jbc (nI (2 * k))) → Bst (fun z => Pt I n (nI (2 * z))) 0 (k + 1) q := by
      intro q hq hc
      obtain ⟨a1, a2, a3, a4⟩ := hq
      refine ⟨a1, by omega, a3, fun k' h1 h2 h3 => ?_⟩
      by_cases ek : k' = k
      · subst ek
        rcases Int32.lt_or_eq_of_le (hc h3) with g | g
        · exact Or.inl g
        · exact Or.inr ⟨g, by omega⟩
      · exact a4 k' h1 (by omega) h3
    by_cases c : x2 ≤ jbc (nI (2 * k))
    · rw [if_pos c]
      refine ih (k + 1) f x2 x3 (by omega) (by omega) ?_
      rcases h with ⟨h1, h2, h3⟩ | ⟨q, hq, h1, h2⟩
      · exfalso
        rw [h1] at c
        exact absurd (cnt_lt k (by omega)) (Int32.not_lt.mpr c)
      · exact Or.inr ⟨q, up q hq (fun _ => by rw [← h1]; exact c), h1, h2⟩
    · rw [if_neg c]
      rcases x_tell (fu := fu) (s := nI (2 * k)) (L := L) hfu hn e with ⟨g1, g2⟩ | ⟨g1, g2⟩
      · rw [g1]
        simp only [Option.bind_some]
        rw [if_neg i10]
        refine ih (k + 1) f _ _ (by omega) (by omega) (Or.inr ⟨k, ⟨by omega, by omega, g2, fun k' h1 h2 h3 => ?_⟩, rfl, rfl⟩)
        by_cases ek : k' = k
        · subst ek; exact Or.inr ⟨rfl, Nat.le_refl _⟩
        · rcases h with ⟨p1, p2, p3⟩ | ⟨q, hq, p1, p2⟩
          · exact absurd h3 (p3 k' (by omega))
          · left
            rw [p1] at c
            have c := Int32.not_le.mp c
            rcases hq.2.2.2 k' (by omega) (by omega) h3 with w | ⟨w, _⟩
            · exact Int32.lt_trans c w
            · rw [← w]; exact c
      · rw [g1]
        simp only [Option.bind_some]
        rw [if_pos trivial]
        refine ih (k + 1) f x2 x3 (by omega) (by omega) ?_
        rcases h with ⟨h1, h2, h3⟩ | ⟨q, hq, h1, h2⟩
        · refine Or.inl ⟨h1, h2, fun k' hk' => ?_⟩
          by_cases ek : k' = k
          · subst ek; exact g2
          · exact h3 k' (by omega)
        · exact Or.inr ⟨q, up q hq (fun w => absurd w g2), h1, h2⟩
theorem lm_en {fu n : Nat} {x1 : Int32} {I J : TI} {K : TL} (hfu : 2000 ≤ fu) (hs : SR (aN I) (J 332)) (hn : n ≤ 6) (e : J 332 0 = nI n) : ∀ (k f : Nat) (x2 : Int32), k ≤ 4096 → k < f → ((x2 = -1 ∧ ∀ k', k ≤ k' → k' < 4096 → ¬ Pt I n (nI (2 * k'))) ∨ ∃ q, Bst (fun z => Pt I n (nI (2 * z))) k 4096 q ∧ x2 = nI (2 * q)) → (LO_M_enough_6 fu f x1 x2 (nI (2 * k) - 2) J K = some (-1, J, K) ∧ ∀ k', k' < 4096 → ¬ Pt I n (nI (2 * k'))) ∨ (∃ q, Bst (fun z => Pt I n (nI (2 * z))) 0 4096 q ∧ LO_M_enough_6 fu f x1 x2 (nI (2 * k) - 2) J K = some (if x1 = 0 then nI (2 * q) else jbc (nI (2 * q)), J, K)) := by
  intro k
  induction k with
  | zero =>
    intro f x2 hk hf h
    obtain ⟨f, rfl⟩ : ∃ z, f = z + 1 := ⟨f - 1, by omega⟩
    rw [LO_M_enough_6, if_pos (show nI (2 * 0) - 2 < 0 by decide)]
    rcases h with ⟨h1, h2⟩ | ⟨q, hq, h1⟩
    · left
      rw [if_pos h1]
      exact ⟨rfl, fun k' h => h2 k' (by omega) h⟩
    · right
      have := hq.2.1
      refine ⟨q, hq, ?_⟩
      subst h1
      rw [if_neg (show ¬ nI (2 * q) = -1 from nI_nm (by omega)), m_bits (by omega) ⟨q, by omega, rfl⟩]
      simp only [Option.bind_some]
      by_cases c : x1 = 0
      · rw [if_pos c, if_pos c]
      · rw [if_neg c, if_neg c]
  | succ k ih =>
    intro f x2 hk hf h
    obtain ⟨f, rfl⟩ : ∃ z, f = z + 1 := ⟨f - 1, by omega⟩
    have e2 : nI (2 * (k + 1)) - 2 = nI (2 * k) := (pk_sub (b := 2) (by omega)).trans (by congr 1)
    have e3 : nI (2 * k) + (-2) = nI (2 * k) - 2 := by rw [Int32.sub_eq_add_neg]
    rw [e2, LO_M_enough_6, if_neg (nI_pos (by omega)), e3]
    have ext : ∀ q, Bst (fun z => Pt I n (nI (2 * z))) (k + 1) 4096 q → (Pt I n (nI (2 * k)) → jbc (nI (2 * q)) < jbc (nI (2 * k))) → Bst (fun z => Pt I n (nI (2 * z))) k 4096 q := by
      intro q hq hc
      obtain ⟨a1, a2, a3, a4⟩ := hq
      refine ⟨by omega, a2, a3, fun k' h1 h2 h3 => ?_⟩
      by_cases ek : k' = k
      · subst ek; exact Or.inl (hc h3)
      · exact a4 k' (by omega) h2 h3
    rcases h with ⟨h1, h2⟩ | ⟨q, hq, h1⟩
    · rw [if_pos h1]
      rcases m_tell (fu := fu) (s := nI (2 * k)) (K := K) hfu hs hn e with ⟨g1, g2⟩ | ⟨g1, g2⟩
      · rw [g1]
        simp only [Option.bind_some]
        rw [if_neg i10]
        refine ih f _ (by omega) (by omega) (Or.inr ⟨k, ⟨by omega, by omega, g2, fun k' p1 p2 p3 => ?_⟩, rfl⟩)
        by_cases ek : k' = k
        · subst ek; exact Or.inr ⟨rfl, Nat.le_refl _⟩
        · exact absurd p3 (h2 k' (by omega) p2)
      · rw [g1]
        simp only [Option.bind_some]
        rw [if_pos trivial]
        refine ih f _ (by omega) (by omega) (Or.inl ⟨h1, fun k' p1 p2 => ?_⟩)
        by_cases ek : k' = k
        · subst ek; exact g2
        · exact h2 k' (by omega) p2
    · have := hq.2.1
      subst h1
      rw [if_neg (show ¬ nI (2 * q) = -1 from nI_nm (by omega)), m_bits (p := nI (2 * k)) (by omega) ⟨k, by omega, rfl⟩]
      simp only [Option.bind_some]
      rw [m_bits (p := nI (2 * q)) (by omega) ⟨q, by omega, rfl⟩]
      simp only [Option.bind_some]
      by_cases c : jbc (nI (2 * q)) < jbc (nI (2 * k))
      · rw [if_pos c]
        exact ih f _ (by omega) (by omega) (Or.inr ⟨q, ext q hq (fun _ => c), rfl⟩)
      · rw [if_neg c]
        rcases m_tell (fu := fu) (s := nI (2 * k)) (K := K) hfu hs hn e with ⟨g1, g2⟩ | ⟨g1, g2⟩
        · rw [g1]
          simp only [Option.bind_some]
          rw [if_neg i10]
          refine ih f _ (by omega) (by omega) (Or.inr ⟨k, ⟨by omega, by omega, g2, fun k' p1 p2 p3 => ?_⟩, rfl⟩)
          by_cases ek : k' = k
          · subst ek; exact Or.inr ⟨rfl, Nat.le_refl _⟩
          · have c' := Int32.not_lt.mp c
            rcases hq.2.2.2 k' (by omega) p2 p3 with w | ⟨w, _⟩
            · exact Or.inl (Int32.lt_of_le_of_lt c' w)
            · rw [w] at c'
              rcases Int32.lt_or_eq_of_le c' with y | y
              · exact Or.inl y
              · exact Or.inr ⟨y, by omega⟩
        · rw [g1]
          simp only [Option.bind_some]
          rw [if_pos trivial]
          exact ih f _ (by omega) (by omega) (Or.inr ⟨q, ext q hq (fun w => absurd w g2), rfl⟩)
theorem op_enough {T : TI → (Nat → Int32) → Prop} {fu : Nat} (hfu : 5000 ≤ fu) (p : Int32) : OpR T (fun I L => FO_X_enough fu p I L) (fun I L => FO_M_enough fu p I L) := by
  refine OpR_q (fun I J L K hR => ?_)
  obtain ⟨n, hn, t1, t2, t3⟩ := ten hR.s
  have a := lx_en (fu := fu) (n := n) (x1 := p) (I := I) (L := L) (by omega) hn t3 4096 0 fu 13 (-1) (by omega) (by omega) (Or.inl ⟨rfl, rfl, fun k' h => by omega⟩)
  have b := lm_en (fu := fu) (n := n) (x1 := p) (K := K) (by omega) hR.s hn t2 4096 fu (-1) (by omega) (by omega) (Or.inl ⟨rfl, fun k' h1 h2 => by omega⟩)
  rcases a with ⟨a1, a2⟩ | ⟨q, a1, a2⟩
  · rcases b with ⟨b1, b2⟩ | ⟨q', b1, b2⟩
    · exact ⟨-1, a1, b1⟩
    · exact absurd b1.2.2.1 (a2 q' b1.2.1)
  · rcases b with ⟨b1, b2⟩ | ⟨q', b1, b2⟩
    · exact absurd a1.2.2.1 (b2 q a1.2.1)
    · have := a1.one b1
      subst this
      exact ⟨_, a2, b2⟩
