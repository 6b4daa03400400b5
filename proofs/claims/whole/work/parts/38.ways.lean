/-! ways up -/
/-- what stands one, two and three places below -/
def bel (f : Nat → Int64) (p : Nat) : Int64 := (if 1 ≤ p then f (p - 1) else 0) + (if 2 ≤ p then f (p - 2) else 0) + (if 3 ≤ p then f (p - 3) else 0)
theorem bel_cg {f g : Nat → Int64} {p : Nat} (h : ∀ t, t < p → f t = g t) : bel f p = bel g p := by
  unfold bel
  by_cases h1 : 1 ≤ p
  · by_cases h2 : 2 ≤ p
    · by_cases h3 : 3 ≤ p
      · simp only [if_pos h1, if_pos h2, if_pos h3]; rw [h (p - 1) (by omega), h (p - 2) (by omega), h (p - 3) (by omega)]
      · simp only [if_pos h1, if_pos h2, if_neg h3]; rw [h (p - 1) (by omega), h (p - 2) (by omega)]
    · simp only [if_pos h1, if_neg h2, if_neg (show ¬ 3 ≤ p by omega)]; rw [h (p - 1) (by omega)]
  · simp only [if_neg h1, if_neg (show ¬ 2 ≤ p by omega), if_neg (show ¬ 3 ≤ p by omega)]
theorem x_bel {fu p : Nat} {I : TI} {L : TL} (hfu : 2000 ≤ fu) (hp : p < 13) : FO_X_countFromBelow fu (nI p) I L = some (bel (L 329) p, I, L) := by
  have z : ∀ (f : Nat) (a : Int64), LO_X_countFromBelow_11 fu (f + 1) (nI p) a (nI p) I L = some (a, I, L) := fun f a => by rw [LO_X_countFromBelow_11, if_pos (Int32.le_refl _)]
  have st : ∀ (f q : Nat) (a : Int64), q < p → LO_X_countFromBelow_11 fu (f + 1) (nI p) a (nI q) I L = LO_X_countFromBelow_11 fu f (nI p) (a + L 329 q) (nI (q + 1)) I L := by
    intro f q a hq
    rw [LO_X_countFromBelow_11]
    simp (disch := omega) only [l_0, show (17 : Int32) = nI 17 from rfl, show (18 : Int32) = nI 18 from rfl, l_1, l_2, l_3, l_4, l_5, l_6, l_7, l_8, l_9, l_10, l_11, l_12, l_13, l_15, l_24, l_30, l_36, l_42, l_51, l_60, l_66, l_71, l_77, l_90, l_99, l_100, l_101, l_300, l_557, l_431, l_1511, l_1541, l_9999, l_2724, l_681, l_255, nI_add, pk_mul, pk_sub, Nat.add_sub_cancel, nI_clamp, nI_leI, nI_ltI, nI_eq, if_pos, if_neg, if_true, if_false, Option.bind_some]
  obtain ⟨f, hf⟩ : ∃ z, fu = z + 4 := ⟨fu - 4, by omega⟩
  unfold FO_X_countFromBelow bel
  rw [jmax]
  by_cases h3 : 3 ≤ p
  · rw [show nI p - 3 = nI (p - 3) from pk_sub (b := 3) h3, if_pos (show (0 : Int32) ≤ nI (p - 3) from nI_pos' (by omega)), if_pos (show 1 ≤ p by omega), if_pos (show 2 ≤ p by omega), if_pos h3]
    rw [show LO_X_countFromBelow_11 fu fu (nI p) 0 (nI (p - 3)) I L = LO_X_countFromBelow_11 fu (f + 4) (nI p) 0 (nI (p - 3)) I L from by rw [← hf], st _ _ _ (by omega), st _ _ _ (by omega), st _ _ _ (by omega), show p - 3 + 1 + 1 + 1 = p by omega, z, show p - 3 + 1 + 1 = p - 1 by omega, show p - 3 + 1 = p - 2 by omega]
    exact congrArg (fun y => some (y, I, L)) (by grind)
  · have h0 : (if (0 : Int32) ≤ nI p - 3 then nI p - 3 else 0) = nI 0 := by
      have : p = 0 ∨ p = 1 ∨ p = 2 := by omega
      rcases this with rfl | rfl | rfl <;> decide
    rw [h0, if_neg h3]
    have : p = 0 ∨ p = 1 ∨ p = 2 := by omega
    rw [show LO_X_countFromBelow_11 fu fu (nI p) 0 (nI 0) I L = LO_X_countFromBelow_11 fu (f + 4) (nI p) 0 (nI 0) I L from by rw [← hf]]
    rcases this with rfl | rfl | rfl
    · rw [z]; rfl
    · rw [st _ 0 _ (by omega), z]
      exact congrArg (fun y => some (y, I, L)) (by simp)
    · rw [st _ 0 _ (by omega), st _ 1 _ (by omega), z]
      exact congrArg (fun y => some (y, I, L)) (by simp; grind)
/-- the ways from a, place by place; b: what may not be come to -/
def Tw (a : Nat) (blk : Nat → Prop) [DecidablePred blk] : Nat → (Nat → Int64)
  | 0 => fun _ => 0
  | p + 1 => vp_updL (Tw a blk p) p (if p = a then 1 else if p < a ∨ blk p then 0 else bel (Tw a blk p) p)
theorem Tw_le {a : Nat} {blk : Nat → Prop} [DecidablePred blk] : ∀ (d p t : Nat), t < p → Tw a blk (p + d) t = Tw a blk p t := by
  intro d
  induction d with
  | zero => intro p t _; rfl
  | succ d ih =>
    intro p t ht
    rw [show p + (d + 1) = (p + d) + 1 by omega, Tw, pk_uLn (by omega), ih p t ht]
theorem lx_ways {fu a b : Nat} {lo : Int32} {I : TI} {blk : Nat → Prop} [DecidablePred blk] (hfu : 2000 ≤ fu) (hab : a ≤ b) (hb : b < 13) (hl : ∀ p, p < 13 → (((lo >>> (nI p &&& 31)) &&& 1 = 0) ↔ ¬ blk p)) : ∀ (j p f : Nat) (L : TL), p + j = b + 1 → a < p → j < f → (∀ t, t < p → L 329 t = Tw a blk p t) → (∀ t, p ≤ t → t < 13 → L 329 t = 0) → ∃ L', LO_X_countWays_20 fu f (nI a) (nI b) lo (nI p) I L = some (Tw a blk 13 b, I, L') := by
  intro j
  induction j with
  | zero =>
    intro p f L hp hap hf h1 h2
    obtain ⟨f, rfl⟩ : ∃ z, f = z + 1 := ⟨f - 1, by omega⟩
    have e := Tw_le (a := a) (blk := blk) (13 - p) p b (by omega)
    rw [show p + (13 - p) = 13 by omega] at e
    refine ⟨L, ?_⟩
    rw [LO_X_countWays_20, if_pos (nI_lt (by omega) (by omega)), if_pos (show (0 : Int32) ≤ nI b ∧ nI b < 13 from ⟨nI_pos' (by omega), nI_lt (b := 13) hb (by omega)⟩), nI_clamp (by omega), h1 b (by omega), e]
  | succ j ih =>
    intro p f L hp hap hf h1 h2
    obtain ⟨f, rfl⟩ : ∃ z, f = z + 1 := ⟨f - 1, by omega⟩
    rw [LO_X_countWays_20, if_neg (nI_nlt (by omega) (by omega))]
    by_cases c : blk p
    · rw [if_neg (fun q => (hl p (by omega)).mp q c), nI_1]
      refine ih (p + 1) f L (by omega) (by omega) (by omega) (fun t ht => ?_) (fun t h3 h4 => h2 t (by omega) h4)
      rw [Tw, if_neg (by omega), if_pos (Or.inr c)]
      by_cases e : t = p
      · subst e; rw [pk_uLs]; exact h2 t (by omega) (by omega)
      · rw [pk_uLn e]; exact h1 t (by omega)
    · rw [if_pos ((hl p (by omega)).mpr c), x_bel hfu (by omega)]
      simp only [Option.bind_some]
      rw [if_pos (show (0 : Int32) ≤ nI p ∧ nI p < 13 from ⟨nI_pos' (by omega), nI_lt (b := 13) (by omega) (by omega)⟩), nI_clamp (by omega), nI_1]
      refine ih (p + 1) f _ (by omega) (by omega) (by omega) (fun t ht => ?_) (fun t h3 h4 => by rw [sM_at, pk_uLn (by omega)]; exact h2 t (by omega) h4)
      rw [Tw, if_neg (by omega), if_neg (fun q => q.elim (by omega) c), sM_at]
      by_cases e : t = p
      · subst e; rw [pk_uLs, pk_uLs]; exact bel_cg h1
      · rw [pk_uLn e, pk_uLn e]; exact h1 t (by omega)
theorem x_ways {fu a b : Nat} {lo : Int32} {I : TI} {L : TL} {blk : Nat → Prop} [DecidablePred blk] (hfu : 2000 ≤ fu) (hab : a ≤ b) (hb : b < 13) (hl : ∀ p, p < 13 → (((lo >>> (nI p &&& 31)) &&& 1 = 0) ↔ ¬ blk p)) : ∃ L', FO_X_countWays fu (nI a) (nI b) lo I L = some (Tw a blk 13 b, I, L') := by
  have t0 : ∀ (p t : Nat), p ≤ a → t < p → Tw a blk p t = 0 := by
    intro p
    induction p with
    | zero => intro t _ ht; omega
    | succ p ih =>
      intro t hp ht
      rw [Tw, if_neg (by omega), if_pos (Or.inl (by omega))]
      by_cases e : t = p
      · subst e; rw [pk_uLs]
      · rw [pk_uLn e]; exact ih t (by omega) (by omega)
  have z : ∀ t, t < 13 → fillG (L 329) 0 13 t = 0 := fun t ht => by unfold fillG; rw [if_pos ht]
  obtain ⟨L', r⟩ := lx_ways (fu := fu) (a := a) (b := b) (lo := lo) (I := I) (blk := blk) hfu hab hb hl (b - a) (a + 1) fu (sL (va_up L 329 (fillG (L 329) 0 13)) 329 a 1) (by omega) (by omega) (by omega) (fun t ht => by
    rw [sM_at, Tw, if_pos rfl]
    by_cases e : t = a
    · subst e; rw [pk_uLs, pk_uLs]
    · rw [pk_uLn e, pk_uLn e, vu_at, z t (by omega), t0 a t (by omega) (by omega)]) (fun t h1 h2 => by rw [sM_at, pk_uLn (by omega), vu_at]; exact z t h2)
  refine ⟨L', ?_⟩
  unfold FO_X_countWays
  simp only [Option.bind_some]
  rw [if_pos (show (0 : Int32) ≤ nI a ∧ nI a < 13 from ⟨nI_pos' (by omega), nI_lt (b := 13) (by omega) (by omega)⟩), nI_clamp (by omega), nI_1]
  exact r
theorem m_in {fu p : Nat} {x1 x2 x3 : Int32} {J : TI} {kk : Int32 → Int32 → Int32 → Int32 → TI → TL → Option (Int64 × TI × TL)} (hfu : 2000 ≤ fu) (hp : p < 13) (K : TL) (h0 : K 342 p = 0) : ∃ K', LO_M_waysOf_56 fu kk fu x1 x2 x3 (nI p) 1 J K = kk x1 x2 x3 (nI (p + 1)) J K' ∧ K' 342 = vp_updL (K 342) p (bel (K 342) p) ∧ (∀ o, o ≠ 342 → K' o = K o) := by
  have up : ∀ (f : Nat → Int64) (j : Nat) (x y : Int64), vp_updL (vp_updL f j x) j y = vp_updL f j y := by
    intro f j x y
    funext t
    by_cases e : t = j
    · subst e; rw [pk_uLs, pk_uLs]
    · rw [pk_uLn e, pk_uLn e, pk_uLn e]
  have sf : vp_updL (K 342) p 0 = K 342 := by
    funext t
    by_cases e : t = p
    · subst e; rw [pk_uLs, h0]
    · rw [pk_uLn e]
  have st : ∀ (f q : Nat) (v : Int64) (K1 : TL), q < 4 → 1 ≤ q → K1 342 = vp_updL (K 342) p v → (∀ o, o ≠ 342 → K1 o = K o) → q ≤ p → ∃ K2, LO_M_waysOf_56 fu kk (f + 1) x1 x2 x3 (nI p) (nI q) J K1 = LO_M_waysOf_56 fu kk f x1 x2 x3 (nI p) (nI (q + 1)) J K2 ∧ K2 342 = vp_updL (K 342) p (v + K 342 (p - q)) ∧ (∀ o, o ≠ 342 → K2 o = K o) := by
    intro f q v K1 hq hq1 h1 h2 hqp
    refine ⟨sL K1 342 p (K1 342 p + K1 342 (p - q)), ?_, ?_, fun o ho => by rw [sM_ne ho, h2 o ho]⟩
    · rw [LO_M_waysOf_56]
      simp (disch := omega) only [l_0, show (17 : Int32) = nI 17 from rfl, show (18 : Int32) = nI 18 from rfl, l_1, l_2, l_3, l_4, l_5, l_6, l_7, l_8, l_9, l_10, l_11, l_12, l_13, l_15, l_24, l_30, l_36, l_42, l_51, l_60, l_66, l_71, l_77, l_90, l_99, l_100, l_101, l_300, l_557, l_431, l_1511, l_1541, l_9999, l_2724, l_681, l_255, nI_add, pk_mul, pk_sub, Nat.add_sub_cancel, nI_clamp, nI_leI, nI_ltI, nI_eq, if_pos, if_neg, if_true, if_false, Option.bind_some]
    · rw [sM_at, h1, up, pk_uLs, pk_uLn (by omega)]
  have ex : ∀ (f q : Nat) (K1 : TL), (4 ≤ q ∨ p < q) → q < 10 → LO_M_waysOf_56 fu kk (f + 1) x1 x2 x3 (nI p) (nI q) J K1 = kk x1 x2 x3 (nI (p + 1)) J K1 := by
    intro f q K1 h hq
    rw [LO_M_waysOf_56]
    by_cases h4 : 4 ≤ q
    · rw [if_pos (show (4 : Int32) ≤ nI q from nI_le (a := 4) h4 (by omega)), nI_1]
    · rw [if_neg (show ¬ (4 : Int32) ≤ nI q from nI_ge (b := 4) (by omega) (by omega)), if_pos (nI_lt (by omega) (by omega)), nI_1]
  obtain ⟨f, hf⟩ : ∃ z, fu = z + 4 := ⟨fu - 4, by omega⟩
  rw [show LO_M_waysOf_56 fu kk fu x1 x2 x3 (nI p) 1 J K = LO_M_waysOf_56 fu kk (f + 4) x1 x2 x3 (nI p) (nI 1) J K from by rw [← hf]; rfl]
  unfold bel
  by_cases h1 : 1 ≤ p
  · obtain ⟨K1, a1, a2, a3⟩ := st (f + 3) 1 0 K (by omega) (by omega) sf.symm (fun _ _ => rfl) h1
    by_cases h2 : 2 ≤ p
    · obtain ⟨K2, b1, b2, b3⟩ := st (f + 2) 2 _ K1 (by omega) (by omega) a2 a3 h2
      by_cases h3 : 3 ≤ p
      · obtain ⟨K3, c1, c2, c3⟩ := st (f + 1) 3 _ K2 (by omega) (by omega) b2 b3 h3
        refine ⟨K3, (a1.trans (b1.trans c1)).trans (ex _ 4 _ (by omega) (by omega)), ?_, c3⟩
        rw [c2, if_pos h1, if_pos h2, if_pos h3, Int64.zero_add]
      · refine ⟨K2, (a1.trans b1).trans (ex _ 3 _ (by omega) (by omega)), ?_, b3⟩
        rw [b2, if_pos h1, if_pos h2, if_neg h3, Int64.zero_add, Int64.add_zero]
    · refine ⟨K1, a1.trans (ex _ 2 _ (by omega) (by omega)), ?_, a3⟩
      rw [a2, if_pos h1, if_neg h2, if_neg (by omega), Int64.zero_add, Int64.add_zero, Int64.add_zero]
  · refine ⟨K, ex _ 1 _ (by omega) (by omega), ?_, fun _ _ => rfl⟩
    rw [if_neg h1, if_neg (by omega), if_neg (by omega)]
    exact sf.symm
theorem lm_ways {fu a b : Nat} {J : TI} (hfu : 2000 ≤ fu) (hb : b < 13) (ha : a < 13) : ∀ (j p f : Nat) (K : TL), p + j = 13 → j < f → (∀ t, t < p → K 342 t = Tw a (fun _ => False) p t) → ∃ K', LO_M_waysOf_3 fu f (nI a) (nI b) (-1) (nI p) J K = some (Tw a (fun _ => False) 13 b, J, K') := by
  intro j
  induction j with
  | zero =>
    intro p f K hp hf h1
    obtain ⟨f, rfl⟩ : ∃ z, f = z + 1 := ⟨f - 1, by omega⟩
    have hp : p = 13 := by omega
    subst hp
    refine ⟨K, ?_⟩
    rw [LO_M_waysOf_3, if_pos (by decide), if_pos (show (0 : Int32) ≤ nI b ∧ nI b < 13 from ⟨nI_pos' (by omega), nI_lt (b := 13) hb (by omega)⟩), nI_clamp (by omega), h1 b hb]
  | succ j ih =>
    intro p f K hp hf h1
    obtain ⟨f, rfl⟩ : ∃ z, f = z + 1 := ⟨f - 1, by omega⟩
    have bp : (0 : Int32) ≤ nI p ∧ nI p < 13 := ⟨nI_pos' (by omega), nI_lt (b := 13) (by omega) (by omega)⟩
    rw [LO_M_waysOf_3, if_neg (show ¬ (12 : Int32) < nI p from nI_nlt (a := 12) (by omega) (by omega)), if_pos bp, if_pos bp, nI_clamp (by omega), nI_1]
    by_cases c : p = a
    · subst c
      rw [if_pos rfl, if_pos (Int32.le_refl _)]
      refine ih (p + 1) f _ (by omega) (by omega) (fun t ht => ?_)
      rw [sM_at, Tw, if_pos rfl]
      by_cases e : t = p
      · subst e; rw [pk_uLs, pk_uLs]
      · rw [pk_uLn e, pk_uLn e]; exact h1 t (by omega)
    · rw [if_neg (fun q => c ((nI_eq (by omega) (by omega)).mp q))]
      by_cases c2 : p < a
      · rw [if_pos (nI_le (by omega) (by omega))]
        refine ih (p + 1) f _ (by omega) (by omega) (fun t ht => ?_)
        rw [sM_at, Tw, if_neg c, if_pos (Or.inl c2)]
        by_cases e : t = p
        · subst e; rw [pk_uLs, pk_uLs]
        · rw [pk_uLn e, pk_uLn e]; exact h1 t (by omega)
      · rw [if_neg (nI_ge (by omega) (by omega)), if_pos rfl]
        obtain ⟨K', a1, a2, a3⟩ := m_in (fu := fu) (p := p) (x1 := nI a) (x2 := nI b) (x3 := -1) (J := J) (kk := fun x1 x2 x3 x4 I L => LO_M_waysOf_3 fu f x1 x2 x3 x4 I L) hfu (by omega) (sL K 342 p 0) (by rw [sM_at, pk_uLs])
        rw [a1]
        refine ih (p + 1) f K' (by omega) (by omega) (fun t ht => ?_)
        rw [a2, sM_at, Tw, if_neg c, if_neg (fun q => q.elim c2 id)]
        by_cases e : t = p
        · subst e
          rw [pk_uLs, pk_uLs]
          exact bel_cg (fun s hs => by rw [pk_uLn (by omega)]; exact h1 s hs)
        · rw [pk_uLn e, pk_uLn e, pk_uLn e]; exact h1 t (by omega)
/-- the two questions are one -/
theorem way_up {fu : Nat} {p q : Int32} {I J : TI} {L K : TL} : (∃ a b : Nat, a ≤ b ∧ b < 13 ∧ p = nI a ∧ q = nI b ∧ FO_X_isWayUp fu p q I L = some (1, I, L) ∧ FO_M_isUp fu p q J K = some (1, J, K)) ∨ (FO_X_isWayUp fu p q I L = some (0, I, L) ∧ FO_M_isUp fu p q J K = some (0, J, K)) := by
  unfold FO_X_isWayUp FO_M_isUp
  by_cases c0 : 0 ≤ p ∧ p ≤ 12
  · by_cases c1 : 0 ≤ q ∧ q ≤ 12
    · obtain ⟨a, ha, rfl⟩ := rng (hi := 12) (by omega) c0.1 c0.2
      obtain ⟨b, hb, rfl⟩ := rng (hi := 12) (by omega) c1.1 c1.2
      rw [if_pos c0, if_pos c0, if_pos c1, if_pos c1]
      by_cases c2 : b < a
      · rw [if_pos (nI_lt c2 (by omega)), if_pos (nI_lt c2 (by omega))]
        exact Or.inr ⟨rfl, rfl⟩
      · rw [if_neg (nI_nlt (by omega) (by omega)), if_neg (nI_nlt (by omega) (by omega))]
        exact Or.inl ⟨a, b, by omega, by omega, rfl, rfl, rfl, rfl⟩
    · rw [if_pos c0, if_pos c0, if_neg c1, if_neg c1]; exact Or.inr ⟨rfl, rfl⟩
  · rw [if_neg c0, if_neg c0]; exact Or.inr ⟨rfl, rfl⟩
theorem no_bit : ∀ p, p < 13 → ((((0 : Int32) >>> (nI p &&& 31)) &&& 1 = 0) ↔ ¬ False) := by decide +kernel
theorem op_ways {T : TI → (Nat → Int32) → Prop} {fu : Nat} (hfu : 2000 ≤ fu) (p q : Int32) : OpR T (fun I L => FO_X_ways fu p q I L) (fun I L => FO_M_ways fu p q I L) := by
  refine OpR_s (fun I J L K hR => ?_)
  rcases way_up (fu := fu) (p := p) (q := q) (I := I) (J := J) (L := L) (K := K) with ⟨a, b, hab, hb, rfl, rfl, e1, e2⟩ | ⟨e1, e2⟩
  · obtain ⟨L', r1⟩ := x_ways (fu := fu) (I := I) (L := L) (lo := 0) (blk := fun _ => False) hfu hab hb no_bit
    obtain ⟨K', r2⟩ := lm_ways (fu := fu) (J := J) (a := a) (b := b) hfu hb (by omega) 13 0 fu K (by omega) (by omega) (fun t ht => by omega)
    refine ⟨Tw a (fun _ => False) 13 b, I, L', J, K', ?_, ?_, ScI.rf, ScJ.rf⟩
    · unfold FO_X_ways
      rw [e1]
      simp only [Option.bind_some]
      rw [if_neg i10, r1]
      rfl
    · unfold FO_M_ways
      rw [e2]
      simp only [Option.bind_some]
      rw [if_neg i10, show FO_M_waysOf fu (nI a) (nI b) (-1) J K = _ from r2]
      rfl
  · refine ⟨-1, I, L, J, K, ?_, ?_, ScI.rf, ScJ.rf⟩
    · unfold FO_X_ways; rw [e1]; rfl
    · unfold FO_M_ways; rw [e2]; rfl
