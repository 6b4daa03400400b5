/-! steps, kept and taken back -/
theorem vu_ne {α : Type} {I : Nat → α} {o a : Nat} {f : α} (h : a ≠ o) : va_up I o f a = I a := if_neg h
theorem vu_at {α : Type} {I : Nat → α} {o : Nat} {f : α} : va_up I o f o = f := if_pos rfl
theorem cp0 {α : Type} {f g : Nat → α} {n k : Nat} (h : k < n) : va_cpy f g 0 0 n k = f k := by
  rw [pk_cpy_in (by omega) (by omega)]
  congr 1
  omega
set_option maxHeartbeats 4000000 in
theorem copyH {fu o p : Nat} {I : TI} {L : TL} (h : o + 4 ≤ p ∨ p + 4 ≤ o) : ∃ I', FO_H_copyHouse fu o p I L = some ((), I', L) ∧ (∀ k, k < 5 → I' o k = I p k) ∧ (∀ k, k < 6 → I' (o + 1) k = I (p + 1) k) ∧ (∀ k, k < 6 → I' (o + 2) k = I (p + 2) k) ∧ (∀ k, k < 90 → I' (o + 3) k = I (p + 3) k) ∧ (∀ c, c ≠ o → c ≠ o + 1 → c ≠ o + 2 → c ≠ o + 3 → I' c = I c) := by
  unfold FO_H_copyHouse
  have hpo : p ≠ o := by omega
  simp only [sJ_ne hpo, Option.bind_some]
  refine ⟨_, rfl, ?_, ?_, ?_, ?_, ?_⟩
  · intro k hk
    have : k = 0 ∨ k = 1 ∨ k = 2 ∨ k = 3 ∨ k = 4 := by omega
    rw [vu_ne (by omega), vu_ne (by omega), vu_ne (by omega)]
    rcases this with rfl | rfl | rfl | rfl | rfl <;> simp (disch := omega) only [sJ_at, pk_us, pk_un]
  · intro k hk
    simp (disch := omega) only [vu_ne, vu_at, cp0, sJ_ne]
  · intro k hk
    simp (disch := omega) only [vu_ne, vu_at, cp0, sJ_ne]
  · intro k hk
    simp (disch := omega) only [vu_ne, vu_at, cp0, sJ_ne]
  · intro c h0 h1 h2 h3
    simp (disch := omega) only [vu_ne, sJ_ne]
theorem fm30 : ∀ a, a < 61 → 0 ≤ nI a ^^^ 30 ∧ iR (nI a) 30 = nI (a % 30) := by decide +kernel
theorem j_fm {fu a : Nat} {I : TI} {L : TL} (h : a < 61) : FO_J_floorMod fu (nI a) 30 I L = some (nI (a % 30), I, L) := by
  unfold FO_J_floorMod
  rw [if_pos (by decide), if_pos (fm30 a h).1, (fm30 a h).2]
/-- the model's row, replaced -/
def wJ (J : TI) (c : Nat → Int32) : TI := va_up J 332 c
theorem wJ_at {J : TI} {c : Nat → Int32} : wJ J c 332 = c := vu_at
theorem wJ_ne {J : TI} {c : Nat → Int32} {o : Nat} (h : o ≠ 332) : wJ J c o = J o := vu_ne h
theorem wJ_self {J : TI} : wJ J (J 332) = J := by
  funext o
  by_cases h : o = 332
  · subst h; exact wJ_at
  · exact wJ_ne h
theorem wJ_sI {J : TI} {c : Nat → Int32} {k : Nat} {v : Int32} : sI (wJ J c) 332 k v = wJ J (upd c k v) := by
  funext o
  by_cases h : o = 332
  · subst h; rw [sJ_at, wJ_at, wJ_at]
  · rw [sJ_ne h, wJ_ne h, wJ_ne h]
/-- a row's places copied one by one -/
def rc (c : Nat → Int32) (d s x : Nat) : Nat → (Nat → Int32)
  | 0 => c
  | m + 1 => rc (upd c (d + x) (c (s + x))) d s (x + 1) m
theorem rc_out {d s : Nat} : ∀ (m x : Nat) (c : Nat → Int32) (i : Nat), (i < d + x ∨ d + x + m ≤ i) → rc c d s x m i = c i := by
  intro m
  induction m with
  | zero => intro x c i _; rfl
  | succ m ih => intro x c i h; rw [rc, ih _ _ _ (by omega), pk_un (by omega)]
theorem rc_in {d s : Nat} : ∀ (m x : Nat) (c : Nat → Int32) (i : Nat), (d ≤ s ∨ s + x + m ≤ d + x) → x ≤ i → i < x + m → rc c d s x m (d + i) = c (s + i) := by
  intro m
  induction m with
  | zero => intro x c i _ h1 h2; omega
  | succ m ih =>
    intro x c i h h1 h2
    rw [rc]
    by_cases e : i = x
    · subst e
      rw [rc_out _ _ _ _ (by omega), pk_us]
    · rw [ih _ _ _ (by omega) (by omega) (by omega), pk_un (by omega)]
theorem mk101 {fu : Nat} {J : TI} {K : TL} {x : Nat} (hx : x + 47 ≤ 1541) : ∀ (j k f : Nat) (c : Nat → Int32), k + j = 30 → j < f → LO_M_keep_101 fu f (nI x) (nI k) (wJ J c) K = some ((), wJ J (upd (rc c (x + 17) (1511) k j) 3 ((rc c (x + 17) (1511) k j) 3 + 1)), K) := by
  intro j
  induction j with
  | zero =>
    intro k f c hk hf
    obtain ⟨f, rfl⟩ : ∃ z, f = z + 1 := ⟨f - 1, by omega⟩
    have hk : k = 30 := by omega
    subst hk
    rw [LO_M_keep_101, if_pos (by decide)]
    first | rfl | (simp only [wJ_at, wJ_sI, rc])
  | succ j ih =>
    intro k f c hk hf
    obtain ⟨f, rfl⟩ : ∃ z, f = z + 1 := ⟨f - 1, by omega⟩
    rw [LO_M_keep_101]
    simp (disch := omega) only [l_0, show (17 : Int32) = nI 17 from rfl, show (47 : Int32) = nI 47 from rfl, show (148 : Int32) = nI 148 from rfl, show (1363 : Int32) = nI 1363 from rfl, l_1, l_2, l_3, l_4, l_5, l_6, l_7, l_8, l_9, l_10, l_11, l_12, l_13, l_15, l_24, l_30, l_36, l_42, l_51, l_60, l_66, l_71, l_77, l_90, l_99, l_100, l_101, l_300, l_557, l_431, l_1511, l_1541, l_9999, l_2724, l_681, l_255, nI_add, pk_mul, pk_sub, Nat.add_sub_cancel, nI_clamp, nI_leI, nI_ltI, nI_eq, if_neg, if_pos, wJ_at, wJ_sI]
    rw [ih (k + 1) f _ (by omega) (by omega)]
    rfl
theorem mk70 {fu : Nat} {J : TI} {K : TL} {x : Nat} (hx : x + 47 ≤ 1541) : ∀ (j k f : Nat) (c : Nat → Int32), k + j = 17 → j < f → LO_M_keep_70 fu f (nI x) (nI k) (wJ J c) K = LO_M_keep_101 fu fu (nI x) (nI 0) (wJ J (rc c (x) (7) k j)) K := by
  intro j
  induction j with
  | zero =>
    intro k f c hk hf
    obtain ⟨f, rfl⟩ : ∃ z, f = z + 1 := ⟨f - 1, by omega⟩
    have hk : k = 17 := by omega
    subst hk
    rw [LO_M_keep_70, if_pos (by decide)]
    first | rfl | (simp only [wJ_at, wJ_sI, rc])
  | succ j ih =>
    intro k f c hk hf
    obtain ⟨f, rfl⟩ : ∃ z, f = z + 1 := ⟨f - 1, by omega⟩
    rw [LO_M_keep_70]
    simp (disch := omega) only [l_0, show (17 : Int32) = nI 17 from rfl, show (47 : Int32) = nI 47 from rfl, show (148 : Int32) = nI 148 from rfl, show (1363 : Int32) = nI 1363 from rfl, l_1, l_2, l_3, l_4, l_5, l_6, l_7, l_8, l_9, l_10, l_11, l_12, l_13, l_15, l_24, l_30, l_36, l_42, l_51, l_60, l_66, l_71, l_77, l_90, l_99, l_100, l_101, l_300, l_557, l_431, l_1511, l_1541, l_9999, l_2724, l_681, l_255, nI_add, pk_mul, pk_sub, Nat.add_sub_cancel, nI_clamp, nI_leI, nI_ltI, nI_eq, if_neg, if_pos, wJ_at, wJ_sI]
    rw [ih (k + 1) f _ (by omega) (by omega)]
    rfl
theorem mk13 {fu : Nat} {J : TI} {K : TL} : ∀ (j k f : Nat) (c : Nat → Int32), k + j = 1363 → j < f → LO_M_keep_13 fu f (nI k) (wJ J c) K = LO_M_keep_70 fu fu ((101 : Int32) + ((47 : Int32) * ((rc c (101) (148) k j) 3 - 1))) 0 (wJ J (upd (rc c (101) (148) k j) 3 ((rc c (101) (148) k j) 3 - 1))) K := by
  intro j
  induction j with
  | zero =>
    intro k f c hk hf
    obtain ⟨f, rfl⟩ : ∃ z, f = z + 1 := ⟨f - 1, by omega⟩
    have hk : k = 1363 := by omega
    subst hk
    rw [LO_M_keep_13, if_pos (by decide)]
    first | rfl | (simp only [wJ_at, wJ_sI, rc])
  | succ j ih =>
    intro k f c hk hf
    obtain ⟨f, rfl⟩ : ∃ z, f = z + 1 := ⟨f - 1, by omega⟩
    rw [LO_M_keep_13]
    simp (disch := omega) only [l_0, show (17 : Int32) = nI 17 from rfl, show (47 : Int32) = nI 47 from rfl, show (148 : Int32) = nI 148 from rfl, show (1363 : Int32) = nI 1363 from rfl, l_1, l_2, l_3, l_4, l_5, l_6, l_7, l_8, l_9, l_10, l_11, l_12, l_13, l_15, l_24, l_30, l_36, l_42, l_51, l_60, l_66, l_71, l_77, l_90, l_99, l_100, l_101, l_300, l_557, l_431, l_1511, l_1541, l_9999, l_2724, l_681, l_255, nI_add, pk_mul, pk_sub, Nat.add_sub_cancel, nI_clamp, nI_leI, nI_ltI, nI_eq, if_neg, if_pos, wJ_at, wJ_sI]
    rw [ih (k + 1) f _ (by omega) (by omega)]
    rfl
theorem mu67 {fu : Nat} {J : TI} {K : TL} {x : Nat} (hx : x + 47 ≤ 1541) : ∀ (j k f : Nat) (c : Nat → Int32), k + j = 30 → j < f → LO_M_undo_67 fu f (nI x) (nI k) (wJ J c) K = some ((rc c (1511) (x + 17) k j) 3, wJ J (rc c (1511) (x + 17) k j), K) := by
  intro j
  induction j with
  | zero =>
    intro k f c hk hf
    obtain ⟨f, rfl⟩ : ∃ z, f = z + 1 := ⟨f - 1, by omega⟩
    have hk : k = 30 := by omega
    subst hk
    rw [LO_M_undo_67, if_pos (by decide)]
    first | rfl | (simp only [wJ_at, wJ_sI, rc])
  | succ j ih =>
    intro k f c hk hf
    obtain ⟨f, rfl⟩ : ∃ z, f = z + 1 := ⟨f - 1, by omega⟩
    rw [LO_M_undo_67]
    simp (disch := omega) only [l_0, show (17 : Int32) = nI 17 from rfl, show (47 : Int32) = nI 47 from rfl, show (148 : Int32) = nI 148 from rfl, show (1363 : Int32) = nI 1363 from rfl, l_1, l_2, l_3, l_4, l_5, l_6, l_7, l_8, l_9, l_10, l_11, l_12, l_13, l_15, l_24, l_30, l_36, l_42, l_51, l_60, l_66, l_71, l_77, l_90, l_99, l_100, l_101, l_300, l_557, l_431, l_1511, l_1541, l_9999, l_2724, l_681, l_255, nI_add, pk_mul, pk_sub, Nat.add_sub_cancel, nI_clamp, nI_leI, nI_ltI, nI_eq, if_neg, if_pos, wJ_at, wJ_sI]
    rw [ih (k + 1) f _ (by omega) (by omega)]
    rfl
theorem mu36 {fu : Nat} {J : TI} {K : TL} {x : Nat} (hx : x + 47 ≤ 1541) : ∀ (j k f : Nat) (c : Nat → Int32), k + j = 17 → j < f → LO_M_undo_36 fu f (nI x) (nI k) (wJ J c) K = LO_M_undo_67 fu fu (nI x) (nI 0) (wJ J (rc c (7) (x) k j)) K := by
  intro j
  induction j with
  | zero =>
    intro k f c hk hf
    obtain ⟨f, rfl⟩ : ∃ z, f = z + 1 := ⟨f - 1, by omega⟩
    have hk : k = 17 := by omega
    subst hk
    rw [LO_M_undo_36, if_pos (by decide)]
    first | rfl | (simp only [wJ_at, wJ_sI, rc])
  | succ j ih =>
    intro k f c hk hf
    obtain ⟨f, rfl⟩ : ∃ z, f = z + 1 := ⟨f - 1, by omega⟩
    rw [LO_M_undo_36]
    simp (disch := omega) only [l_0, show (17 : Int32) = nI 17 from rfl, show (47 : Int32) = nI 47 from rfl, show (148 : Int32) = nI 148 from rfl, show (1363 : Int32) = nI 1363 from rfl, l_1, l_2, l_3, l_4, l_5, l_6, l_7, l_8, l_9, l_10, l_11, l_12, l_13, l_15, l_24, l_30, l_36, l_42, l_51, l_60, l_66, l_71, l_77, l_90, l_99, l_100, l_101, l_300, l_557, l_431, l_1511, l_1541, l_9999, l_2724, l_681, l_255, nI_add, pk_mul, pk_sub, Nat.add_sub_cancel, nI_clamp, nI_leI, nI_ltI, nI_eq, if_neg, if_pos, wJ_at, wJ_sI]
    rw [ih (k + 1) f _ (by omega) (by omega)]
    rfl
/-- what a keep leaves of the row -/
def KR1 (c d : Nat → Int32) (n : Nat) : Prop := (∀ i, i < 17 → d (101 + 47 * n + i) = c (7 + i)) ∧ (∀ i, i < 30 → d (118 + 47 * n + i) = c (1511 + i)) ∧ d 3 = nI (n + 1)
theorem m_keep {fu n : Nat} {J : TI} {K : TL} (hfu : 2000 ≤ fu) (hn : n < 30) (e : J 332 3 = nI n) : ∃ d, FO_M_keep fu J K = some ((), wJ J d, K) ∧ KR1 (J 332) d n ∧ (∀ i, i ≠ 3 → (i < 101 + 47 * n ∨ 148 + 47 * n ≤ i) → d i = J 332 i) := by
  unfold FO_M_keep
  rw [e, if_neg (fun z => by have := (nI_eq (a := n) (b := 30) (by omega) (by omega)).mp z; omega)]
  rw [show (101 : Int32) + (47 : Int32) * nI n = nI (101 + 47 * n) from by rw [show (101 : Int32) = nI 101 from rfl, show (47 : Int32) = nI 47 from rfl, pk_mul, nI_add]]
  have h1 := mk70 (fu := fu) (J := J) (K := K) (x := 101 + 47 * n) (by omega) 17 0 fu (J 332) (by omega) (by omega)
  rw [wJ_self] at h1
  have h2 := mk101 (fu := fu) (J := J) (K := K) (x := 101 + 47 * n) (by omega) 30 0 fu (rc (J 332) (101 + 47 * n) 7 0 17) (by omega) (by omega)
  refine ⟨_, (h1.trans h2), ⟨fun i hi => ?_, fun i hi => ?_, ?_⟩, fun i h3 hi => ?_⟩
  · rw [pk_un (by omega), rc_out _ _ _ _ (by omega), rc_in _ _ _ _ (by omega) (by omega) (by omega)]
  · rw [pk_un (by omega), show 118 + 47 * n + i = (101 + 47 * n + 17) + i by omega, rc_in _ _ _ _ (by omega) (by omega) (by omega), rc_out _ _ _ _ (by omega)]
  · rw [pk_us, rc_out _ _ _ _ (by omega), rc_out _ _ _ _ (by omega), e, nI_1]
  · rw [pk_un h3, rc_out _ _ _ _ (by omega), rc_out _ _ _ _ (by omega)]
theorem m_keep30 {fu : Nat} {J : TI} {K : TL} (hfu : 2000 ≤ fu) (e : J 332 3 = nI 30) : ∃ d, FO_M_keep fu J K = some ((), wJ J d, K) ∧ KR1 (J 332) d 29 ∧ (∀ i, 101 ≤ i → i < 1464 → d i = J 332 (i + 47)) ∧ (∀ i, i ≠ 3 → (i < 101 ∨ 1511 ≤ i) → d i = J 332 i) := by
  unfold FO_M_keep
  rw [if_pos (by rw [e]; rfl)]
  have h0 := mk13 (fu := fu) (J := J) (K := K) 1363 0 fu (J 332) (by omega) (by omega)
  rw [wJ_self, rc_out _ _ _ _ (by omega), e, show (101 : Int32) + (47 : Int32) * (nI 30 - 1) = nI (101 + 47 * 29) from by decide, show nI 30 - 1 = nI 29 from by decide] at h0
  have h1 := mk70 (fu := fu) (J := J) (K := K) (x := 101 + 47 * 29) (by omega) 17 0 fu (upd (rc (J 332) 101 148 0 1363) 3 (nI 29)) (by omega) (by omega)
  have h2 := mk101 (fu := fu) (J := J) (K := K) (x := 101 + 47 * 29) (by omega) 30 0 fu (rc (upd (rc (J 332) 101 148 0 1363) 3 (nI 29)) (101 + 47 * 29) 7 0 17) (by omega) (by omega)
  refine ⟨_, (h0.trans (h1.trans h2)), ⟨fun i hi => ?_, fun i hi => ?_, ?_⟩, fun i h3 hi => ?_, fun i h3 hi => ?_⟩
  · rw [pk_un (by omega), rc_out _ _ _ _ (by omega), rc_in _ _ _ _ (by omega) (by omega) (by omega), pk_un (by omega), rc_out _ _ _ _ (by omega)]
  · rw [pk_un (by omega), show 118 + 47 * 29 + i = (101 + 47 * 29 + 17) + i by omega, rc_in _ _ _ _ (by omega) (by omega) (by omega), rc_out _ _ _ _ (by omega), pk_un (by omega), rc_out _ _ _ _ (by omega)]
  · rw [pk_us, rc_out _ _ _ _ (by omega), rc_out _ _ _ _ (by omega), pk_us, nI_1]
  · rw [pk_un (by omega), rc_out _ _ _ _ (by omega), rc_out _ _ _ _ (by omega), pk_un (by omega)]
    have := rc_in (d := 101) (s := 148) 1363 0 (J 332) (i - 101) (by omega) (by omega) (by omega)
    rw [show 101 + (i - 101) = i by omega, show 148 + (i - 101) = i + 47 by omega] at this
    exact this
  · rw [pk_un h3, rc_out _ _ _ _ (by omega), rc_out _ _ _ _ (by omega), pk_un h3, rc_out _ _ _ _ (by omega)]
/-- the cells of a state behind a keep: the house at slot q is the house now -/
def KA (A B : TI) (q : Nat) : Prop := (∀ k, k < 5 → B (7 + 4 * q) k = A 1 k) ∧ (∀ k, k < 6 → B (7 + 4 * q + 1) k = A 2 k) ∧ (∀ k, k < 6 → B (7 + 4 * q + 2) k = A 3 k) ∧ (∀ k, k < 90 → B (7 + 4 * q + 3) k = A 4 k) ∧ (∀ j, j ≠ 5 → (j < 7 + 4 * q ∨ 10 + 4 * q < j) → ∀ k, B j k = A j k)
theorem SR.keep {A B : TI} {c d : Nat → Int32} {n f : Nat} (h : SR A c) (hn : n < 30) (hf : f < 30) (e1 : A 5 1 = nI f) (e2 : A 5 2 = nI n) (k : KA A B ((f + n) % 30)) (b1 : B 5 1 = nI f) (b2 : B 5 2 = nI (n + 1)) (r : KR1 c d n) (r2 : ∀ i, i ≠ 3 → (i < 101 + 47 * n ∨ 148 + 47 * n ≤ i) → d i = c i) : SR B d := by
  obtain ⟨k0, k1, k2, k3, k4⟩ := k
  have hq := Nat.mod_lt (f + n) (show 0 < 30 by omega)
  refine ⟨SR.n0_cg (A := A) (c := c) (k4 _ (by omega) (by omega) _) (fun i h1 h2 => r2 i (by omega) (by omega)) h.n0, SR.tx_cg (A := A) (c := c) (k4 _ (by omega) (by omega) _) (fun i h1 h2 => r2 i (by omega) (by omega)) h.tx, SR.ru_cg (A := A) (c := c) (k4 _ (by omega) (by omega) _) (k4 _ (by omega) (by omega) _) (fun i h1 h2 => r2 i (by omega) (by omega)) h.ru, ?_, SR.so_cg (A := A) (c := c) (k4 _ (by omega) (by omega) _) (fun i h1 h2 => r2 i (by omega) (by omega)) h.so, SR.wo_cg (A := A) (c := c) (k4 _ (by omega) (by omega) _) (fun i h1 h2 => r2 i (by omega) (by omega)) h.wo, SR.sa_cg (A := A) (c := c) (k4 _ (by omega) (by omega) _) (fun i h1 h2 => r2 i (by omega) (by omega)) h.sa, SR.ho_cg (A := A) (c := c) (fun _ _ => k4 _ (by omega) (by omega) _) (fun _ _ => k4 _ (by omega) (by omega) _) (fun _ _ => k4 _ (by omega) (by omega) _) (fun _ _ => k4 _ (by omega) (by omega) _) (fun i h1 h2 => r2 i (by omega) (by omega)) (fun i h1 h2 => r2 i (by omega) (by omega)) h.ho, SR.we_cg (A := A) (c := c) (fun _ _ => k4 _ (by omega) (by omega) _) (fun i h1 h2 => r2 i (by omega) (by omega)) h.we, SR.fl_cg (A := A) (c := c) (fun _ _ => k4 _ (by omega) (by omega) _) (fun i h1 h2 => r2 i (by omega) (by omega)) h.fl, SR.pr_cg (A := A) (c := c) (fun _ _ => k4 _ (by omega) (by omega) _) (fun i h1 h2 => r2 i (by omega) (by omega)) h.pr, SR.ch_cg (A := A) (c := c) (fun _ _ => k4 _ (by omega) (by omega) _) (fun i h1 h2 => r2 i (by omega) (by omega)) h.ch, SR.sn_cg (A := A) (c := c) (fun _ _ => k4 _ (by omega) (by omega) _) (fun i h1 h2 => r2 i (by omega) (by omega)) h.sn, SR.li_cg (A := A) (c := c) (fun _ _ => k4 _ (by omega) (by omega) _) (fun i h1 h2 => r2 i (by omega) (by omega)) h.li, SR.wd_cg (A := A) (c := c) (k4 _ (by omega) (by omega) _) (fun _ _ => k4 _ (by omega) (by omega) _) (fun i h1 h2 => r2 i (by omega) (by omega)) h.wd, SR.he_cg (A := A) (c := c) (fun _ _ => k4 _ (by omega) (by omega) _) (fun i h1 h2 => r2 i (by omega) (by omega)) h.he, SR.sd_cg (A := A) (c := c) (k4 _ (by omega) (by omega) _) (k4 _ (by omega) (by omega) _) (fun _ _ => k4 _ (by omega) (by omega) _) (fun i h1 h2 => r2 i (by omega) (by omega)) h.sd, ?_⟩
  · exact ⟨r.2.2.trans b2.symm, ⟨n + 1, by omega, b2⟩, ⟨f, by omega, b1⟩⟩
  · intro j hj hl
    rw [b2] at hl
    have hl := (nI_ltI (a := j) (b := n + 1) (by omega) (by omega)).mp hl
    rw [b1, nI_clamp (by omega)]
    by_cases e : j = n
    · subst e
      exact HX.mv k0 k1 k2 k3 r.1 r.2.1 h.ho
    · have q := h.ke j hj (by rw [e2]; exact (nI_ltI (by omega) (by omega)).mpr (by omega))
      rw [e1, nI_clamp (by omega)] at q
      have hs : (f + j) % 30 ≠ (f + n) % 30 := by omega
      exact HX.mv (fun _ _ => k4 _ (by omega) (by omega) _) (fun _ _ => k4 _ (by omega) (by omega) _) (fun _ _ => k4 _ (by omega) (by omega) _) (fun _ _ => k4 _ (by omega) (by omega) _) (fun _ _ => r2 _ (by omega) (by omega)) (fun _ _ => r2 _ (by omega) (by omega)) q
theorem SR.keep30 {A B : TI} {c d : Nat → Int32} {f : Nat} (h : SR A c) (hf : f < 30) (e1 : A 5 1 = nI f) (e2 : A 5 2 = nI 30) (k : KA A B ((f + 30) % 30)) (b1 : B 5 1 = nI ((f + 1) % 30)) (b2 : B 5 2 = nI 30) (r : KR1 c d 29) (r1 : ∀ i, 101 ≤ i → i < 1464 → d i = c (i + 47)) (r2 : ∀ i, i ≠ 3 → (i < 101 ∨ 1511 ≤ i) → d i = c i) : SR B d := by
  obtain ⟨k0, k1, k2, k3, k4⟩ := k
  have hq := Nat.mod_lt (f + 30) (show 0 < 30 by omega)
  refine ⟨SR.n0_cg (A := A) (c := c) (k4 _ (by omega) (by omega) _) (fun i h1 h2 => r2 i (by omega) (by omega)) h.n0, SR.tx_cg (A := A) (c := c) (k4 _ (by omega) (by omega) _) (fun i h1 h2 => r2 i (by omega) (by omega)) h.tx, SR.ru_cg (A := A) (c := c) (k4 _ (by omega) (by omega) _) (k4 _ (by omega) (by omega) _) (fun i h1 h2 => r2 i (by omega) (by omega)) h.ru, ?_, SR.so_cg (A := A) (c := c) (k4 _ (by omega) (by omega) _) (fun i h1 h2 => r2 i (by omega) (by omega)) h.so, SR.wo_cg (A := A) (c := c) (k4 _ (by omega) (by omega) _) (fun i h1 h2 => r2 i (by omega) (by omega)) h.wo, SR.sa_cg (A := A) (c := c) (k4 _ (by omega) (by omega) _) (fun i h1 h2 => r2 i (by omega) (by omega)) h.sa, SR.ho_cg (A := A) (c := c) (fun _ _ => k4 _ (by omega) (by omega) _) (fun _ _ => k4 _ (by omega) (by omega) _) (fun _ _ => k4 _ (by omega) (by omega) _) (fun _ _ => k4 _ (by omega) (by omega) _) (fun i h1 h2 => r2 i (by omega) (by omega)) (fun i h1 h2 => r2 i (by omega) (by omega)) h.ho, SR.we_cg (A := A) (c := c) (fun _ _ => k4 _ (by omega) (by omega) _) (fun i h1 h2 => r2 i (by omega) (by omega)) h.we, SR.fl_cg (A := A) (c := c) (fun _ _ => k4 _ (by omega) (by omega) _) (fun i h1 h2 => r2 i (by omega) (by omega)) h.fl, SR.pr_cg (A := A) (c := c) (fun _ _ => k4 _ (by omega) (by omega) _) (fun i h1 h2 => r2 i (by omega) (by omega)) h.pr, SR.ch_cg (A := A) (c := c) (fun _ _ => k4 _ (by omega) (by omega) _) (fun i h1 h2 => r2 i (by omega) (by omega)) h.ch, SR.sn_cg (A := A) (c := c) (fun _ _ => k4 _ (by omega) (by omega) _) (fun i h1 h2 => r2 i (by omega) (by omega)) h.sn, SR.li_cg (A := A) (c := c) (fun _ _ => k4 _ (by omega) (by omega) _) (fun i h1 h2 => r2 i (by omega) (by omega)) h.li, SR.wd_cg (A := A) (c := c) (k4 _ (by omega) (by omega) _) (fun _ _ => k4 _ (by omega) (by omega) _) (fun i h1 h2 => r2 i (by omega) (by omega)) h.wd, SR.he_cg (A := A) (c := c) (fun _ _ => k4 _ (by omega) (by omega) _) (fun i h1 h2 => r2 i (by omega) (by omega)) h.he, SR.sd_cg (A := A) (c := c) (k4 _ (by omega) (by omega) _) (k4 _ (by omega) (by omega) _) (fun _ _ => k4 _ (by omega) (by omega) _) (fun i h1 h2 => r2 i (by omega) (by omega)) h.sd, ?_⟩
  · exact ⟨r.2.2.trans b2.symm, ⟨30, by omega, b2⟩, ⟨(f + 1) % 30, by omega, b1⟩⟩
  · intro j hj hl
    rw [b1, nI_clamp (by omega)]
    by_cases e : j = 29
    · subst e
      rw [show ((f + 1) % 30 + 29) % 30 = (f + 30) % 30 by omega]
      exact HX.mv k0 k1 k2 k3 r.1 r.2.1 h.ho
    · have q := h.ke (j + 1) (by omega) (by rw [e2]; exact (nI_ltI (by omega) (by omega)).mpr (by omega))
      rw [e1, nI_clamp (by omega)] at q
      rw [show ((f + 1) % 30 + j) % 30 = (f + (j + 1)) % 30 by omega]
      have hs : (f + (j + 1)) % 30 ≠ (f + 30) % 30 := by omega
      refine HX.mv (fun _ _ => k4 _ (by omega) (by omega) _) (fun _ _ => k4 _ (by omega) (by omega) _) (fun _ _ => k4 _ (by omega) (by omega) _) (fun _ _ => k4 _ (by omega) (by omega) _) (fun i _ => ?_) (fun i _ => ?_) q
      · rw [r1 _ (by omega) (by omega)]; congr 1; omega
      · rw [r1 _ (by omega) (by omega)]; congr 1; omega
set_option maxHeartbeats 4000000 in
/-- both keep a step -/
theorem keep2 {fu : Nat} {I J : TI} {L K : TL} (hfu : 2000 ≤ fu) (s : SR (aN I) (J 332)) : ∃ I' d, FO_S_keep fu I L = some ((), I', L) ∧ FO_M_keep fu J K = some ((), wJ J d, K) ∧ SR (aN I') d ∧ (∀ o, ¬ (6 ≤ o ∧ o ≤ 127) → I' o = I o) ∧ (∀ i, 4 ≤ i → (i < 101 ∨ 1511 ≤ i) → d i = J 332 i) ∧ (∀ i, i < 3 → d i = J 332 i) := by
  obtain ⟨c1, ⟨n, hn, e2⟩, ⟨f, hf, e1⟩⟩ := s.st
  have e2 : I 6 2 = nI n := e2
  have e1 : I 6 1 = nI f := e1
  have c1 : J 332 3 = nI n := c1.trans e2
  have hq := Nat.mod_lt (f + n) (show 0 < 30 by omega)
  obtain ⟨I1, g0, g1, g2, g3, g4, g5⟩ := copyH (fu := fu) (o := 8 + 4 * ((f + n) % 30)) (p := 2) (I := I) (L := L) (by omega)
  have ka : ∀ I', (∀ o, o ≠ 6 → I' o = I1 o) → KA (aN I) (aN I') ((f + n) % 30) := by
    intro I' hI
    refine ⟨fun k hk => ?_, fun k hk => ?_, fun k hk => ?_, fun k hk => ?_, fun j h5 hj k => ?_⟩
    · show I' (1 + (7 + 4 * ((f + n) % 30))) k = I 2 k
      rw [hI _ (by omega), ← g1 k hk]
      congr 1; omega
    · show I' (1 + (7 + 4 * ((f + n) % 30) + 1)) k = I 3 k
      rw [hI _ (by omega), ← g2 k hk]
      congr 1; omega
    · show I' (1 + (7 + 4 * ((f + n) % 30) + 2)) k = I 4 k
      rw [hI _ (by omega), ← g3 k hk]
      congr 1; omega
    · show I' (1 + (7 + 4 * ((f + n) % 30) + 3)) k = I 5 k
      rw [hI _ (by omega), ← g4 k hk]
      congr 1; omega
    · show I' (1 + j) k = I (1 + j) k
      rw [hI _ (by omega), g5 _ (by omega) (by omega) (by omega) (by omega)]
  have i6 : I1 6 = I 6 := g5 6 (by omega) (by omega) (by omega) (by omega)
  have start : FO_S_keep fu I L = (if 30 ≤ nI n then some ((), sI I1 6 1 (nI ((f + 1) % 30)), L) else some ((), sI I1 6 2 (nI (n + 1)), L)) := by
    unfold FO_S_keep
    rw [e1, e2, nI_add, j_fm (by omega)]
    simp only [Option.bind_some]
    rw [if_pos (show 0 ≤ nI ((f + n) % 30) ∧ nI ((f + n) % 30) < 30 from ⟨nI_pos' (by omega), nI_lt (b := 30) hq (by omega)⟩), nI_clamp (by omega), g0]
    simp only [Option.bind_some]
    rw [i6, e1, e2, nI_1, j_fm (by omega), nI_1]
    rfl
  by_cases h30 : n = 30
  · subst h30
    obtain ⟨d, m0, m1, m2, m3⟩ := m_keep30 (fu := fu) (J := J) (K := K) hfu c1
    refine ⟨_, d, by rw [start, if_pos (by decide)], m0, ?_, ?_, fun i h4 h5 => m3 i (by omega) h5, fun i hi => m3 i (by omega) (by omega)⟩
    · refine SR.keep30 s (by omega) e1 e2 (ka _ (fun o ho => sJ_ne ho)) ?_ ?_ m1 m2 m3
      · show sI I1 6 1 _ 6 1 = _
        rw [sJ_at, pk_us]
      · show sI I1 6 1 _ 6 2 = _
        rw [sJ_at, pk_un (by omega), i6, e2]
    · intro o ho
      rw [sJ_ne (by omega), g5 _ (by omega) (by omega) (by omega) (by omega)]
  · obtain ⟨d, m0, m1, m3⟩ := m_keep (fu := fu) (J := J) (K := K) hfu (show n < 30 by omega) c1
    refine ⟨_, d, by rw [start, if_neg (show ¬ (30 : Int32) ≤ nI n from nI_ge (b := 30) (by omega) (by omega))], m0, ?_, ?_, fun i h4 h5 => m3 i (by omega) (by omega), fun i hi => m3 i (by omega) (by omega)⟩
    · refine SR.keep s (by omega) (by omega) e1 e2 (ka _ (fun o ho => sJ_ne ho)) ?_ ?_ m1 m3
      · show sI I1 6 2 _ 6 1 = _
        rw [sJ_at, pk_un (by omega), i6, e1]
      · show sI I1 6 2 _ 6 2 = _
        rw [sJ_at, pk_us]
    · intro o ho
      rw [sJ_ne (by omega), g5 _ (by omega) (by omega) (by omega) (by omega)]
