/-! in how many ways a message is read -/
theorem lg_p {q : Nat} (h1 : 1 ≤ q) (h2 : q < 512) : q % 2 ^ lg q + 2 ^ lg q = q ∧ (2 ≤ q → 1 ≤ lg q) := by
  unfold lg
  repeat' split
  all_goals constructor <;> omega
def PR (I J : TI) (to b : Nat) : Prop := (∀ t, t < to → J 347 t = I 327 t ∧ bd (I 327 t) (6 ^ t)) ∧ J 347 to = I 327 to ∧ bd (I 327 to) b
theorem lk_rd1 {fu n b to : Nat} {I0 J0 : TI} {L K : TL} {x2 x3 y1 y2 : Int32} (hfu : 2000 ≤ fu) (hn : n ≤ 5) (e1 : I0 1 13 = nI n) (e2 : J0 332 5 = nI n) (w : ∀ k, k < n → ∃ p q : Nat, 1 ≤ p ∧ p ≤ 22222 ∧ J0 332 (66 + k) = nI p ∧ I0 134 k = nI q ∧ Vd 8 p = some q ∧ 2 ≤ q ∧ q < 64) (hb : b < 512) (h1 : 1 ≤ to) (h8 : to ≤ 8) {kx km : Int32 → Int32 → Int32 → TI → TL → Option (Int32 × TI × TL)} : ∀ (j k f g : Nat) (I J : TI), k + j = n → j < f → j < g → (∀ o, o ≠ 327 → I o = I0 o) → (∀ o, o ≠ 347 → J o = J0 o) → PR I J to (k * 6 ^ (to - 1)) → ∃ I' J', LO_C_waysToRead_47 fu kx f x2 x3 (nI to) (nI b) (nI k) I L = kx x2 x3 (nI (to + 1)) I' L ∧ LO_M_readsOf_37 fu km g y1 y2 (nI to) (nI b) (nI k) J K = km y1 y2 (nI (to + 1)) J' K ∧ (∀ o, o ≠ 327 → I' o = I0 o) ∧ (∀ o, o ≠ 347 → J' o = J0 o) ∧ PR I' J' to (n * 6 ^ (to - 1)) ∧ (∀ t, to < t → I' 327 t = I 327 t) := by
  intro j
  induction j with
  | zero =>
    intro k f g I J hk hf hg fI fJ p
    obtain ⟨f, rfl⟩ : ∃ z, f = z + 1 := ⟨f - 1, by omega⟩
    obtain ⟨g, rfl⟩ : ∃ z, g = z + 1 := ⟨g - 1, by omega⟩
    have hk : k = n := by omega
    subst hk
    refine ⟨I, J, ?_, ?_, fI, fJ, p, fun _ _ => rfl⟩
    · rw [LO_C_waysToRead_47, fI 1 (by omega), e1, if_pos (Int32.le_refl _), nI_1]
    · rw [LO_M_readsOf_37, fJ 332 (by omega), e2, if_pos (Int32.le_refl _), nI_1]
  | succ j ih =>
    intro k f g I J hk hf hg fI fJ p
    obtain ⟨f, rfl⟩ : ∃ z, f = z + 1 := ⟨f - 1, by omega⟩
    obtain ⟨g, rfl⟩ : ∃ z, g = z + 1 := ⟨g - 1, by omega⟩
    obtain ⟨p', q', a1, a2, a3, a4, a5, a6, a7⟩ := w k (by omega)
    have a3 : J 332 (66 + k) = nI p' := by rw [fJ 332 (by omega)]; exact a3
    have a4 : I 134 k = nI q' := by rw [fI 134 (by omega)]; exact a4
    have e1 : I 1 13 = nI n := by rw [fI 1 (by omega)]; exact e1
    have e2 : J 332 5 = nI n := by rw [fJ 332 (by omega)]; exact e2
    have lq := lg_p (q := q') (by omega) (by omega)
    have l8 := lg_8 q'
    have lq1 := lq.2 a6
    have sb := sh_k (s := lg q') (k := b) (by omega) hb
    have sq := sh_k (s := lg q') (k := q') (by omega) (by omega)
    have hpw : k * 6 ^ (to - 1) ≤ (k + 1) * 6 ^ (to - 1) := Nat.mul_le_mul_right _ (by omega)
    have up : PR I J to ((k + 1) * 6 ^ (to - 1)) := ⟨p.1, p.2.1, by obtain ⟨v, hv, e⟩ := p.2.2; exact ⟨v, by omega, e⟩⟩
    rw [LO_C_waysToRead_47, LO_M_readsOf_37, e1, e2]
    simp (disch := omega) only [l_0, l_1, l_2, l_3, l_4, l_5, l_6, l_7, l_8, l_9, l_10, l_11, l_12, l_13, l_15, l_24, l_30, l_36, l_42, l_51, l_60, l_66, l_71, l_77, l_90, l_99, l_100, l_101, l_300, l_557, l_431, l_1511, l_1541, l_9999, l_2724, l_681, l_255, nI_add, pk_mul, pk_sub, Nat.add_sub_cancel, nI_clamp, nI_leI, nI_ltI, nI_eq, if_pos, if_neg, if_true, if_false, Option.bind_some, a4, m_word hfu (show k < 5 by omega) a1 a2 a3 a5, x_len (fu := fu) (show 10 ≤ fu by omega) (show q' < 512 by omega), m_len (fu := fu) (show 10 ≤ fu by omega) (show q' < 512 by omega)]
    by_cases c : to < lg q'
    · rw [if_pos (show nI to - nI (lg q') < nI 0 from pk_sneg (by omega) c), if_pos c]
      exact ih (k + 1) f g I J (by omega) (by omega) (by omega) fI fJ up
    · rw [pk_sub (show lg q' ≤ to by omega), if_neg (show ¬ nI (to - lg q') < nI 0 from nI_pos (by omega)), if_neg c, pk_sub (show to - lg q' ≤ to by omega), show to - (to - lg q') = lg q' by omega]
      simp only [l_1] at sb sq
      rw [sb.2.1, sb.2.2, sq.2.2]
      have m1 := Nat.mod_lt b (p2_8 l8).1
      have m2 := Nat.mod_lt q' (p2_8 l8).1
      have p8 := (p2_8 l8).2
      by_cases c2 : b % 2 ^ lg q' = q' % 2 ^ lg q'
      · rw [c2, lq.1, if_pos rfl, if_pos rfl]
        simp (disch := omega) only [l_0, l_1, l_2, l_3, l_4, l_5, l_6, l_7, l_8, l_9, l_10, l_11, l_12, l_13, l_15, l_24, l_30, l_36, l_42, l_51, l_60, l_66, l_71, l_77, l_90, l_99, l_100, l_101, l_300, l_557, l_431, l_1511, l_1541, l_9999, l_2724, l_681, l_255, nI_add, pk_mul, pk_sub, Nat.add_sub_cancel, nI_clamp, nI_leI, nI_ltI, nI_eq, if_pos, if_neg, if_true, if_false, Option.bind_some]
        obtain ⟨v, hv, ev⟩ := p.2.2
        obtain ⟨hj, u, hu, eu⟩ := p.1 (to - lg q') (by omega)
        have hu2 : u ≤ 6 ^ (to - 1) := Nat.le_trans hu (Nat.pow_le_pow_right (by omega) (by omega))
        have h6 : (6 : Nat) ^ (to - 1) ≤ 6 ^ 7 := Nat.pow_le_pow_right (by omega) (by omega)
        obtain ⟨I', J', r1, r2, r3, r4, r5, r6⟩ := ih (k + 1) f g (sI I 327 to (I 327 to + I 327 (to - lg q'))) (sI J 347 to (J 347 to + J 347 (to - lg q'))) (by omega) (by omega) (by omega) (fun o ho => by rw [sJ_ne ho, fI o ho]) (fun o ho => by rw [sJ_ne ho, fJ o ho]) ⟨fun t ht => by rw [sJ_at, sJ_at, pk_un (by omega), pk_un (by omega)]; exact p.1 t ht, by rw [sJ_at, sJ_at, pk_us, pk_us, p.2.1, hj], by rw [sJ_at, pk_us, ev, eu, nI_add]; exact ⟨v + u, by rw [Nat.add_mul]; omega, rfl⟩⟩
        exact ⟨I', J', r1, r2, r3, r4, r5, fun t ht => by rw [r6 t ht, sJ_at, pk_un (by omega)]⟩
      · rw [if_neg (fun z => c2 (by have := (nI_eq (by omega) (by omega)).mp z; omega)), if_neg (fun z => c2 ((nI_eq (by omega) (by omega)).mp z))]
        exact ih (k + 1) f g I J (by omega) (by omega) (by omega) fI fJ up
theorem lk_rd2 {fu n key len : Nat} {I0 J0 : TI} {L K : TL} (hfu : 2000 ≤ fu) (hn : n ≤ 5) (e1 : I0 1 13 = nI n) (e2 : J0 332 5 = nI n) (w : ∀ k, k < n → ∃ p q : Nat, 1 ≤ p ∧ p ≤ 22222 ∧ J0 332 (66 + k) = nI p ∧ I0 134 k = nI q ∧ Vd 8 p = some q ∧ 2 ≤ q ∧ q < 64) (hk : key < 512) (hl : len ≤ 8) : ∀ (j to f g : Nat) (I J : TI), to + j = len + 1 → 1 ≤ to → j < f → j < g → (∀ o, o ≠ 327 → I o = I0 o) → (∀ o, o ≠ 347 → J o = J0 o) → (∀ t, t < to → J 347 t = I 327 t ∧ bd (I 327 t) (6 ^ t)) → (∀ t, to ≤ t → t ≤ 8 → I 327 t = 0) → ∃ r I' J', LO_C_waysToRead_23 fu f (nI key) (nI len) (nI to) I L = some (nI r, I', L) ∧ LO_M_readsOf_7 fu g (nI key) (nI len) (nI to) J K = some (nI r, J', K) ∧ r < 2 ^ 30 ∧ (∀ o, o ≠ 327 → I' o = I0 o) ∧ (∀ o, o ≠ 347 → J' o = J0 o) := by
  intro j
  induction j with
  | zero =>
    intro to f g I J ht h1 hf hg fI fJ p z
    obtain ⟨f, rfl⟩ : ∃ z, f = z + 1 := ⟨f - 1, by omega⟩
    obtain ⟨g, rfl⟩ : ∃ z, g = z + 1 := ⟨g - 1, by omega⟩
    have ht : to = len + 1 := by omega
    subst ht
    obtain ⟨h, v, hv, ev⟩ := p len (by omega)
    have h6 : (6 : Nat) ^ len ≤ 6 ^ 8 := Nat.pow_le_pow_right (by omega) (by omega)
    refine ⟨v, I, J, ?_, ?_, by omega, fI, fJ⟩
    · rw [LO_C_waysToRead_23, if_pos (nI_lt (by omega) (by omega)), if_pos (show (0 : Int32) ≤ nI len ∧ nI len < 9 from ⟨nI_pos' (by omega), nI_lt (b := 9) (by omega) (by omega)⟩), nI_clamp (by omega), ev]
    · rw [LO_M_readsOf_7, if_pos (nI_lt (by omega) (by omega)), if_pos (show (0 : Int32) ≤ nI len ∧ nI len < 9 from ⟨nI_pos' (by omega), nI_lt (b := 9) (by omega) (by omega)⟩), nI_clamp (by omega), h, ev]
  | succ j ih =>
    intro to f g I J ht h1 hf hg fI fJ p z
    obtain ⟨f, rfl⟩ : ∃ z, f = z + 1 := ⟨f - 1, by omega⟩
    obtain ⟨g, rfl⟩ : ∃ z, g = z + 1 := ⟨g - 1, by omega⟩
    have sb := (sh_k (s := len - to) (k := key) (by omega) hk).1
    have hb : key / 2 ^ (len - to) < 512 := Nat.lt_of_le_of_lt (Nat.div_le_self _ _) hk
    have h6 : (6 : Nat) ^ to = 6 * 6 ^ (to - 1) := by
      obtain ⟨m, rfl⟩ : ∃ m, to = m + 1 := ⟨to - 1, by omega⟩
      rw [Nat.pow_succ, Nat.mul_comm]; rfl
    have h60 : 0 < (6 : Nat) ^ (to - 1) := Nat.pow_pos (by omega)
    obtain ⟨I', J', r1, r2, r3, r4, r5, r6⟩ := lk_rd1 (fu := fu) (n := n) (b := key / 2 ^ (len - to)) (to := to) (I0 := I0) (J0 := J0) (L := L) (K := K) (x2 := nI key) (x3 := nI len) (y1 := nI key) (y2 := nI len) hfu hn e1 e2 w hb h1 (by omega) (kx := fun x2 x3 x4 I L => LO_C_waysToRead_23 fu f x2 x3 x4 I L) (km := fun x1 x2 x3 I L => LO_M_readsOf_7 fu g x1 x2 x3 I L) n 0 fu fu I (sI J 347 to 0) (by omega) (by omega) (by omega) fI (fun o ho => by rw [sJ_ne ho, fJ o ho]) ⟨fun t ht2 => by rw [sJ_at, pk_un (by omega)]; exact p t ht2, by rw [sJ_at, pk_us, z to (by omega) (by omega)], ⟨0, by omega, z to (by omega) (by omega)⟩⟩
    obtain ⟨v, hv, ev⟩ := r5.2.2
    obtain ⟨r, I2, J2, s1, s2, s3, s4, s5⟩ := ih (to + 1) f g I' J' (by omega) (by omega) (by omega) (by omega) r3 r4 (fun t ht2 => by
      by_cases e : t = to
      · subst e
        have : n * 6 ^ (t - 1) ≤ 5 * 6 ^ (t - 1) := Nat.mul_le_mul_right _ hn
        exact ⟨r5.2.1, v, by omega, ev⟩
      · exact r5.1 t (by omega)) (fun t h1 h2 => by rw [r6 t (by omega)]; exact z t (by omega) h2)
    refine ⟨r, I2, J2, ?_, ?_, s3, s4, s5⟩
    · rw [LO_C_waysToRead_23, if_neg (nI_nlt (by omega) (by omega)), if_neg (show ¬ (8 : Int32) < nI to from nI_nlt (a := 8) (by omega) (by omega)), pk_sub (by omega), sb]
      exact r1.trans s1
    · rw [LO_M_readsOf_7, if_neg (nI_nlt (by omega) (by omega)), if_neg (nI_ne0 (by omega) (by omega)), if_pos (show (0 : Int32) ≤ nI to ∧ nI to < 9 from ⟨nI_pos' (by omega), nI_lt (b := 9) (by omega) (by omega)⟩), pk_sub (by omega), sb, nI_clamp (by omega)]
      exact r2.trans s2
theorem reads2 {fu key : Nat} {I J : TI} {L K : TL} (hfu : 2000 ≤ fu) (s : SR (aN I) (J 332)) (hk2 : 2 ≤ key) (hk : key < 512) : ∃ r I' J', FO_C_waysToRead fu (nI key) I L = some (nI r, I', L) ∧ FO_M_readsOf fu (nI key) J K = some (nI r, J', K) ∧ r < 2 ^ 30 ∧ (∀ o, o ≠ 327 → I' o = I o) ∧ (∀ o, o ≠ 347 → J' o = J o) := by
  obtain ⟨n, hn, e1, e2, w⟩ := s.f_wo
  have l8 := lg_8 key
  -- the model's first round adds nothing
  have m0 : ∀ (j k g : Nat) (J1 : TI) (b : Int32) (km : Int32 → Int32 → Int32 → TI → TL → Option (Int32 × TI × TL)) (y1 y2 : Int32), k + j = n → j < g → (∀ o, o ≠ 347 → J1 o = J o) → LO_M_readsOf_37 fu km g y1 y2 (nI 0) b (nI k) J1 K = km y1 y2 (nI 1) J1 K := by
    intro j
    induction j with
    | zero =>
      intro k g J1 b km y1 y2 hk hg fJ
      obtain ⟨g, rfl⟩ : ∃ z, g = z + 1 := ⟨g - 1, by omega⟩
      have hk : k = n := by omega
      subst hk
      rw [LO_M_readsOf_37, fJ 332 (by omega), e2, if_pos (Int32.le_refl _)]
      rfl
    | succ j ih =>
      intro k g J1 b km y1 y2 hk hg fJ
      obtain ⟨g, rfl⟩ : ∃ z, g = z + 1 := ⟨g - 1, by omega⟩
      obtain ⟨p', q', a1, a2, a3, a4, a5, a6, a7⟩ := w k (by omega)
      have a3 : J1 332 (66 + k) = nI p' := by rw [fJ 332 (by omega)]; exact a3
      have lq1 := (lg_p (q := q') (by omega) (by omega)).2 a6
      have l82 := lg_8 q'
      rw [LO_M_readsOf_37, fJ 332 (by omega), e2, if_neg (nI_ge (by omega) (by omega)), m_word hfu (show k < 5 by omega) a1 a2 a3 a5]
      simp only [Option.bind_some]
      rw [m_len (by omega) (by omega)]
      simp only [Option.bind_some]
      rw [if_pos (nI_lt (by omega) (by omega)), nI_1]
      exact ih (k + 1) g J1 b km y1 y2 (by omega) (by omega) fJ
  obtain ⟨f, hf⟩ : ∃ z, fu = z + 1 := ⟨fu - 1, by omega⟩
  obtain ⟨r, I2, J2, s1, s2, s3, s4, s5⟩ := lk_rd2 (fu := fu) (n := n) (key := key) (len := lg key) (I0 := I) (J0 := J) (L := L) (K := K) hfu hn e1 e2 w hk l8 (lg key) 1 fu f (sI (va_up I 327 (fillF (I 327) 0 9)) 327 0 1) (sI J 347 0 1) (by omega) (by omega) (by omega) (by omega) (fun o ho => by rw [sJ_ne ho, vu_ne ho]) (fun o ho => sJ_ne ho) (fun t ht => by
    have : t = 0 := by omega
    subst this
    rw [sJ_at, sJ_at, pk_us, pk_us]
    exact ⟨rfl, 1, by omega, rfl⟩) (fun t h1 h2 => by
    rw [sJ_at, pk_un (by omega), vu_at]
    unfold fillF
    rw [if_pos (by omega)])
  refine ⟨r, I2, J2, ?_, ?_, s3, s4, s5⟩
  · unfold FO_C_waysToRead
    rw [x_len (by omega) hk]
    exact s1
  · unfold FO_M_readsOf
    rw [m_len (by omega) hk]
    simp only [Option.bind_some]
    rw [hf, LO_M_readsOf_7, ← hf, if_neg (show ¬ nI (lg key) < 0 from nI_pos (by omega)), if_pos rfl, if_pos (by decide)]
    refine (m0 n 0 fu (sI J 347 0 1) _ _ (nI key) (nI (lg key)) (by omega) (by omega) (fun o ho => sJ_ne ho)).trans ?_
    exact s2
theorem op_reads {T : TI → (Nat → Int32) → Prop} {fu : Nat} (hfu : 2000 ≤ fu) (p : Int32) : OpR T (fun I L => FO_X_reads fu p I L) (fun I L => FO_M_reads fu p I L) := by
  refine OpR_s (fun I J L K hR => ?_)
  have s := hR.s
  by_cases c : 1 ≤ p ∧ p ≤ 99999999
  · obtain ⟨a, ha1, ha, rfl⟩ := rng1 (hi := 99999999) (by omega) c.1 c.2
    have x0 := x_key (fu := fu) (I := I) (L := L) (p := a) hfu (by omega)
    have m0 := m_twos (fu := fu) (J := J) (K := K) (p := a) hfu (by omega) ha1
    cases hv : Vd 8 a with
    | none =>
      rw [hv] at x0 m0
      refine ⟨0, I, L, J, K, ?_, ?_, ScI.rf, ScJ.rf⟩
      · unfold FO_X_reads; rw [if_pos c, x0]; rfl
      · unfold FO_M_reads; rw [if_pos c, m0]; rfl
    | some q =>
      rw [hv] at x0 m0
      have hq2 := Vd_2 (by omega) (by omega) hv
      have hq := (Vd_b 8 _ _ hv).2
      obtain ⟨r, I', J', r1, r2, r3, r4, r5⟩ := reads2 (fu := fu) (key := q) (L := L) (K := K) hfu s hq2 (by omega)
      refine ⟨nI r, I', L, J', K, ?_, ?_, ScI.one (c := 327) (by omega) r4, ScJ.one (c := 347) (by omega) r5⟩
      · unfold FO_X_reads; rw [if_pos c, x0]
        simp only [Option.bind_some]
        rw [if_neg (nI_ne0 (by omega) (by omega)), r1]
        rfl
      · unfold FO_M_reads; rw [if_pos c, m0]
        simp only [Option.bind_some]
        rw [if_neg (nI_nm (by omega)), m0]
        simp only [Option.bind_some]
        rw [r2]
        rfl
  · refine ⟨-1, I, L, J, K, ?_, ?_, ScI.rf, ScJ.rf⟩
    · unfold FO_X_reads; rw [if_neg c]
    · unfold FO_M_reads; rw [if_neg c]
theorem lk_msg {fu : Nat} {I J : TI} {L K : TL} {x0 : Int32} {km : Int32 → TI → TL → Option (Int32 × TI × TL)} : ∀ (j f g : Nat) (a : Int32), j < 9 → j < f → j < g → ∃ r, LO_C_messageOf_9 fu f x0 a (nI j - 1) I L = some (r, I, L) ∧ LO_M_unread_29 fu km g x0 a (nI j - 1) J K = some (r, J, K) := by
  intro j
  induction j with
  | zero =>
    intro f g a hj hf hg
    obtain ⟨f, rfl⟩ : ∃ z, f = z + 1 := ⟨f - 1, by omega⟩
    obtain ⟨g, rfl⟩ : ∃ z, g = z + 1 := ⟨g - 1, by omega⟩
    refine ⟨a, ?_, ?_⟩
    · rw [LO_C_messageOf_9, if_pos (by decide)]
    · rw [LO_M_unread_29, if_pos (by decide)]
  | succ j ih =>
    intro f g a hj hf hg
    obtain ⟨f, rfl⟩ : ∃ z, f = z + 1 := ⟨f - 1, by omega⟩
    obtain ⟨g, rfl⟩ : ∃ z, g = z + 1 := ⟨g - 1, by omega⟩
    rw [LO_C_messageOf_9, LO_M_unread_29, nI_pred, if_neg (nI_pos (by omega)), if_neg (nI_pos (by omega)), show nI j + (-1) = nI j - 1 from by rw [Int32.sub_eq_add_neg], Int32.mul_comm 10 a]
    exact ih f g _ (by omega) (by omega) (by omega)
theorem lk_unread {fu : Nat} {I0 J0 : TI} {L K : TL} (hfu : 2000 ≤ fu) (s : SR (aN I0) (J0 332)) : ∀ (j k f g : Nat) (I J : TI), k + j = 512 → 2 ≤ k → j < f → j < g → (∀ o, o ≠ 327 → I o = I0 o) → (∀ o, o ≠ 347 → J o = J0 o) → ∃ r I' J', LO_X_unread_2 fu f (nI k) I L = some (r, I', L) ∧ LO_M_unread_2 fu g (nI k) J K = some (r, J', K) ∧ (∀ o, o ≠ 327 → I' o = I0 o) ∧ (∀ o, o ≠ 347 → J' o = J0 o) := by
  intro j
  induction j with
  | zero =>
    intro k f g I J hk h2 hf hg fI fJ
    obtain ⟨f, rfl⟩ : ∃ z, f = z + 1 := ⟨f - 1, by omega⟩
    obtain ⟨g, rfl⟩ : ∃ z, g = z + 1 := ⟨g - 1, by omega⟩
    have hk : k = 512 := by omega
    subst hk
    refine ⟨-1, I, J, ?_, ?_, fI, fJ⟩
    · rw [LO_X_unread_2, if_pos (by decide)]
    · rw [LO_M_unread_2, if_pos (by decide)]
  | succ j ih =>
    intro k f g I J hk h2 hf hg fI fJ
    obtain ⟨f, rfl⟩ : ∃ z, f = z + 1 := ⟨f - 1, by omega⟩
    obtain ⟨g, rfl⟩ : ∃ z, g = z + 1 := ⟨g - 1, by omega⟩
    have s1 : SR (aN I) (J 332) := by rw [fJ 332 (by omega)]; exact SR.cg s (fun j hj => fI _ (by omega))
    obtain ⟨r, I', J', r1, r2, r3, r4, r5⟩ := reads2 (fu := fu) (key := k) (L := L) (K := K) hfu s1 h2 (by omega)
    have fI' : ∀ o, o ≠ 327 → I' o = I0 o := fun o ho => (r4 o ho).trans (fI o ho)
    have fJ' : ∀ o, o ≠ 347 → J' o = J0 o := fun o ho => (r5 o ho).trans (fJ o ho)
    rw [LO_X_unread_2, LO_M_unread_2, if_neg (show ¬ (512 : Int32) ≤ nI k from nI_ge (b := 512) (by omega) (by omega)), if_neg (show ¬ (512 : Int32) ≤ nI k from nI_ge (b := 512) (by omega) (by omega)), r1, r2]
    simp only [Option.bind_some]
    have l8 := lg_8 k
    by_cases c : r = 0
    · subst c
      rw [if_pos (show nI 0 = 0 from rfl), if_pos (show nI 0 ≤ 0 by decide)]
      unfold FO_C_messageOf
      rw [x_len (by omega) (by omega), m_len (by omega) (by omega)]
      simp only [Option.bind_some]
      obtain ⟨v, v1, v2⟩ := lk_msg (fu := fu) (I := I') (J := J') (L := L) (K := K) (x0 := nI k) (km := fun x1 I L => LO_M_unread_2 fu g x1 I L) (lg k) fu fu 0 (by omega) (by omega) (by omega)
      exact ⟨v, I', J', by rw [v1]; rfl, v2, fI', fJ'⟩
    · rw [if_neg (nI_ne0 (by omega) (by omega)), if_neg (nI_nle (by omega) (by omega)), nI_1]
      exact ih (k + 1) f g I' J' (by omega) (by omega) (by omega) (by omega) fI' fJ'
theorem op_unread {T : TI → (Nat → Int32) → Prop} {fu : Nat} (hfu : 2000 ≤ fu) : OpR T (fun I L => FO_X_unread fu  I L) (fun I L => FO_M_unread fu  I L) := by
  refine OpR_s (fun I J L K hR => ?_)
  obtain ⟨r, I', J', r1, r2, r3, r4⟩ := lk_unread (fu := fu) (L := L) (K := K) hfu hR.s 510 2 fu fu I J (by omega) (by omega) (by omega) (by omega) (fun _ _ => rfl) (fun _ _ => rfl)
  exact ⟨r, I', L, J', K, r1, r2, ScI.one (c := 327) (by omega) r3, ScJ.one (c := 347) (by omega) r4⟩
