/-! the model's pile -/
theorem sI_ap {I : TI} {o k p j : Nat} {v : Int32} : sI I o k v p j = if p = o then (if j = k then v else I o j) else I p j := by
  by_cases h : p = o
  · subst h
    rw [sJ_at, if_pos rfl]; rfl
  · rw [sJ_ne h, if_neg h]
/-- how closely what waits binds -/
def rk (x : Int32) : Nat := if x < 40 then (if x = 22 then 1 else if x = 21 then 2 else if x = 20 then 3 else if x < 10 then (if x = 5 then 7 else if x = 2 then 7 else if x = 4 then 7 else if x < 8 then 5 else 6) else 4) else 0
theorem m_rank {fu : Nat} {x : Int32} {J : TI} {K : TL} : FO_M_rank fu x J K = some (nI (rk x), J, K) := by
  unfold FO_M_rank rk
  repeat' split
  all_goals rfl
theorem rk_7 (x : Int32) : rk x ≤ 7 := by
  unfold rk
  repeat' split
  all_goals omega
theorem rk_pos {x : Int32} (h : 1 ≤ rk x) : x < 40 := by
  by_cases c : x < 40
  · exact c
  · unfold rk at h; rw [if_neg c] at h; omega
theorem m_emit {fu t0 w : Nat} {a b : Int32} {J : TI} {K : TL} (h12 : J 331 12 = nI t0) (h13 : J 331 13 = nI w) (hb : t0 + 73 + 2 * w + 1 < 2724) : FO_M_emit fu a b J K = some ((), sI (sI (sI J 334 (t0 + 73 + 2 * w) a) 334 (t0 + 73 + 2 * w + 1) b) 331 13 (nI (w + 1)), K) := by
  unfold FO_M_emit
  rw [h12, h13, show nI t0 + 73 + 2 * nI w = nI (t0 + 73 + 2 * w) from by rw [show (73 : Int32) = nI 73 from rfl, show (2 : Int32) = nI 2 from rfl, nI_add, pk_mul, nI_add], nI_1, nI_1, if_pos (show (0 : Int32) ≤ nI (t0 + 73 + 2 * w) ∧ nI (t0 + 73 + 2 * w) < 2724 from ib (n := 2724) rfl (by omega) (by omega)), if_pos (show (0 : Int32) ≤ nI (t0 + 73 + 2 * w + 1) ∧ nI (t0 + 73 + 2 * w + 1) < 2724 from ib (n := 2724) rfl (by omega) (by omega)), nI_clamp (by omega), nI_clamp (by omega)]
/-- the uppermost is written -/
def pop (J : TI) : TI :=
  if rk (J 336 ((J 331 16).toNatClampNeg - 1)) = 7 ∨ J 336 ((J 331 16).toNatClampNeg - 1) = 20 then
    sI (sI (sI (sI (sI J 331 16 (nI ((J 331 16).toNatClampNeg - 1))) 334 ((J 331 12).toNatClampNeg + 73 + 2 * (J 331 13).toNatClampNeg) (J 336 ((J 331 16).toNatClampNeg - 1))) 334 ((J 331 12).toNatClampNeg + 73 + 2 * (J 331 13).toNatClampNeg + 1) 0) 331 13 (nI ((J 331 13).toNatClampNeg + 1))) 331 17 (J 331 17 - 1)
  else sI (sI (sI (sI J 331 16 (nI ((J 331 16).toNatClampNeg - 1))) 334 ((J 331 12).toNatClampNeg + 73 + 2 * (J 331 13).toNatClampNeg) (J 336 ((J 331 16).toNatClampNeg - 1))) 334 ((J 331 12).toNatClampNeg + 73 + 2 * (J 331 13).toNatClampNeg + 1) 0) 331 13 (nI ((J 331 13).toNatClampNeg + 1))
def stl : Nat → TI → TI
  | 0, J => J
  | n + 1, J => stl n (pop J)
def is7 (x : Int32) : Nat := if rk x = 7 ∨ x = 20 then 1 else 0
def nc (J : TI) (m : Nat) : Nat → Nat
  | 0 => 0
  | n + 1 => nc J m n + is7 (J 336 (m + n))
theorem nc_cg {J J' : TI} {m : Nat} : ∀ n, (∀ i, m ≤ i → i < m + n → J' 336 i = J 336 i) → nc J' m n = nc J m n := by
  intro n
  induction n with
  | zero => intro _; rfl
  | succ n ih => intro h; rw [nc, nc, ih (fun i a b => h i a (by omega)), h (m + n) (by omega) (by omega)]
/-- n are written -/
def StR (J J' : TI) (t0 w m n op' : Nat) : Prop :=
  (∀ o, o ≠ 331 → o ≠ 334 → J' o = J o) ∧ (∀ i, i ≠ 13 → i ≠ 16 → i ≠ 17 → J' 331 i = J 331 i) ∧ J' 331 13 = nI (w + n) ∧ J' 331 16 = nI m ∧ J' 331 17 = nI op' ∧ (∀ x, x < t0 + 73 + 2 * w → J' 334 x = J 334 x) ∧ (∀ i, i < n → J' 334 (t0 + 73 + 2 * (w + i)) = J 336 (m + n - 1 - i))
theorem pop_eq {t0 w m : Nat} {J : TI} (h12 : J 331 12 = nI t0) (h13 : J 331 13 = nI w) (h16 : J 331 16 = nI (m + 1)) (ht : t0 < 2724) (hw : w < 2724) (hm : m < 2724) : pop J = if rk (J 336 m) = 7 ∨ J 336 m = 20 then sI (sI (sI (sI (sI J 331 16 (nI m)) 334 (t0 + 73 + 2 * w) (J 336 m)) 334 (t0 + 73 + 2 * w + 1) 0) 331 13 (nI (w + 1))) 331 17 (J 331 17 - 1) else sI (sI (sI (sI J 331 16 (nI m)) 334 (t0 + 73 + 2 * w) (J 336 m)) 334 (t0 + 73 + 2 * w + 1) 0) 331 13 (nI (w + 1)) := by
  unfold pop
  rw [h12, h13, h16, nI_clamp (show t0 < 2 ^ 31 by omega), nI_clamp (show w < 2 ^ 31 by omega), nI_clamp (show m + 1 < 2 ^ 31 by omega), Nat.add_sub_cancel]
theorem pop_R {t0 w m op' : Nat} {J : TI} (h12 : J 331 12 = nI t0) (h13 : J 331 13 = nI w) (h16 : J 331 16 = nI (m + 1)) (h17 : J 331 17 = nI (op' + is7 (J 336 m))) (ht : t0 < 2724) (hw : w < 2724) (hm : m < 2724) : StR J (pop J) t0 w m 1 op' := by
  rw [pop_eq h12 h13 h16 ht hw hm]
  unfold is7 at h17
  by_cases c : rk (J 336 m) = 7 ∨ J 336 m = 20
  · rw [if_pos c] at h17 ⊢
    refine ⟨fun o h1 h2 => ?_, fun i h1 h2 h3 => ?_, ?_, ?_, ?_, fun x hx => ?_, fun i hi => ?_⟩
    · rw [sJ_ne h1, sJ_ne h1, sJ_ne h2, sJ_ne h2, sJ_ne h1]
    · simp [sI_ap, h1, h2, h3]
    · simp [sI_ap]
    · simp [sI_ap]
    · simp [sI_ap, h17, nI_pred]
    · simp [sI_ap, show ¬ x = t0 + 73 + 2 * w by omega, show ¬ x = t0 + 73 + 2 * w + 1 by omega]
    · have : i = 0 := by omega
      subst this
      simp [sI_ap]
  · rw [if_neg c] at h17 ⊢
    refine ⟨fun o h1 h2 => ?_, fun i h1 h2 h3 => ?_, ?_, ?_, ?_, fun x hx => ?_, fun i hi => ?_⟩
    · rw [sJ_ne h1, sJ_ne h2, sJ_ne h2, sJ_ne h1]
    · simp [sI_ap, h1, h2]
    · simp [sI_ap]
    · simp [sI_ap]
    · simp [sI_ap, h17]
    · simp [sI_ap, show ¬ x = t0 + 73 + 2 * w by omega, show ¬ x = t0 + 73 + 2 * w + 1 by omega]
    · have : i = 0 := by omega
      subst this
      simp [sI_ap]
theorem pop_R0 {t0 w m : Nat} {J : TI} (h12 : J 331 12 = nI t0) (h13 : J 331 13 = nI w) (h16 : J 331 16 = nI (m + 1)) (ht : t0 < 2724) (hw : w < 2724) (hm : m < 2724) : (∀ o, o ≠ 331 → o ≠ 334 → pop J o = J o) ∧ (∀ i, i ≠ 13 → i ≠ 16 → i ≠ 17 → pop J 331 i = J 331 i) ∧ pop J 331 13 = nI (w + 1) ∧ pop J 331 16 = nI m := by
  rw [pop_eq h12 h13 h16 ht hw hm]
  by_cases c : rk (J 336 m) = 7 ∨ J 336 m = 20
  · rw [if_pos c]
    refine ⟨fun o h1 h2 => by rw [sJ_ne h1, sJ_ne h1, sJ_ne h2, sJ_ne h2, sJ_ne h1], fun i h1 h2 h3 => by simp [sI_ap, h1, h2, h3], by simp [sI_ap], by simp [sI_ap]⟩
  · rw [if_neg c]
    refine ⟨fun o h1 h2 => by rw [sJ_ne h1, sJ_ne h2, sJ_ne h2, sJ_ne h1], fun i h1 h2 h3 => by simp [sI_ap, h1, h2], by simp [sI_ap], by simp [sI_ap]⟩
theorem stl_R {t0 m op' : Nat} (ht : t0 < 2724) : ∀ (n w : Nat) (J : TI), J 331 12 = nI t0 → J 331 13 = nI w → J 331 16 = nI (m + n) → J 331 17 = nI (op' + nc J m n) → w + n < 2724 → m + n < 2724 → StR J (stl n J) t0 w m n op' := by
  intro n
  induction n with
  | zero =>
    intro w J h12 h13 h16 h17 hw hm
    exact ⟨fun _ _ _ => rfl, fun _ _ _ _ => rfl, h13, h16, h17, fun _ _ => rfl, fun i hi => by omega⟩
  | succ n ih =>
    intro w J h12 h13 h16 h17 hw hm
    have p := pop_R (op' := op' + nc J m n) (m := m + n) h12 h13 h16 (by rw [h17, nc, Nat.add_assoc]) ht (by omega) (by omega)
    obtain ⟨p1, p2, p3, p4, p5, p6, p7⟩ := p
    have e336 : pop J 336 = J 336 := p1 336 (by omega) (by omega)
    have q := ih (w + 1) (pop J) ((p2 12 (by omega) (by omega) (by omega)).trans h12) p3 p4 (by rw [p5, nc_cg (J := J) (J' := pop J) n (fun i _ _ => by rw [e336])]) (by omega) (by omega)
    obtain ⟨q1, q2, q3, q4, q5, q6, q7⟩ := q
    refine ⟨fun o a b => by rw [stl, q1 o a b, p1 o a b], fun i a b c => by rw [stl, q2 i a b c, p2 i a b c], by rw [stl, q3]; congr 1; omega, q4, q5, fun x hx => by rw [stl, q6 x (by omega), p6 x hx], fun i hi => ?_⟩
    rw [stl]
    by_cases c : i = 0
    · subst c
      rw [q6 _ (by omega), p7 0 (by omega)]
      congr 1
    · rw [show w + i = w + 1 + (i - 1) by omega, q7 (i - 1) (by omega), e336]
      congr 1
      omega
theorem set_step {t0 w m least fu f : Nat} {J : TI} {K : TL} (h12 : J 331 12 = nI t0) (h13 : J 331 13 = nI w) (h16 : J 331 16 = nI (m + 1)) (ht : t0 + 73 + 2 * w + 1 < 2724) (hm : m < 160) (hl : least ≤ rk (J 336 m)) : LO_M_settle_0 fu (f + 1) (nI least) J K = LO_M_settle_0 fu f (nI least) (pop J) K ∧ FO_M_settle fu (nI least) J K = LO_M_settle_0 fu fu (nI least) (pop J) K := by
  have r7 := rk_7 (J 336 m)
  have hb : (0 : Int32) ≤ nI m ∧ nI m < 160 := ib (n := 160) rfl hm (by omega)
  have hk : ¬ nI (m + 1) ≤ 0 := nI_ge (a := 0) (by omega) (by omega)
  have hr : ¬ nI (rk (J 336 m)) < nI least := nI_nlt hl (by omega)
  have em := m_emit (fu := fu) (a := J 336 m) (b := 0) (J := sI J 331 16 (nI m)) (K := K) (t0 := t0) (w := w) (by simp [sI_ap, h12]) (by simp [sI_ap, h13]) ht
  rw [pop_eq h12 h13 h16 (by omega) (by omega) (by omega)]
  constructor
  · rw [LO_M_settle_0, h16, if_neg hk, nI_pred, if_pos hb, nI_clamp (show m < 2 ^ 31 by omega), m_rank]
    simp only [Option.bind_some]
    rw [if_neg hr, h16, nI_pred, if_pos hb, nI_clamp (show m < 2 ^ 31 by omega), em]
    simp only [Option.bind_some]
    rw [show (sI (sI (sI (sI J 331 16 (nI m)) 334 (t0 + 73 + 2 * w) (J 336 m)) 334 (t0 + 73 + 2 * w + 1) 0) 331 13 (nI (w + 1))) 331 16 = nI m from by simp [sI_ap], if_pos hb, nI_clamp (show m < 2 ^ 31 by omega), show (sI (sI (sI (sI J 331 16 (nI m)) 334 (t0 + 73 + 2 * w) (J 336 m)) 334 (t0 + 73 + 2 * w + 1) 0) 331 13 (nI (w + 1))) 336 = J 336 from by rw [sJ_ne (by omega), sJ_ne (by omega), sJ_ne (by omega), sJ_ne (by omega)], m_rank]
    simp only [Option.bind_some]
    rw [show (sI (sI (sI (sI J 331 16 (nI m)) 334 (t0 + 73 + 2 * w) (J 336 m)) 334 (t0 + 73 + 2 * w + 1) 0) 331 13 (nI (w + 1))) 331 16 = nI m from by simp [sI_ap], if_pos hb, nI_clamp (show m < 2 ^ 31 by omega), show (sI (sI (sI (sI J 331 16 (nI m)) 334 (t0 + 73 + 2 * w) (J 336 m)) 334 (t0 + 73 + 2 * w + 1) 0) 331 13 (nI (w + 1))) 336 = J 336 from by rw [sJ_ne (by omega), sJ_ne (by omega), sJ_ne (by omega), sJ_ne (by omega)], show (sI (sI (sI (sI J 331 16 (nI m)) 334 (t0 + 73 + 2 * w) (J 336 m)) 334 (t0 + 73 + 2 * w + 1) 0) 331 13 (nI (w + 1))) 331 17 = J 331 17 from by simp [sI_ap]]
    by_cases c : rk (J 336 m) = 7
    · rw [if_pos (show nI (rk (J 336 m)) = 7 by rw [c]; rfl), if_pos (Or.inl c)]
    · rw [if_neg (show ¬ nI (rk (J 336 m)) = 7 from fun z => c ((nI_eq (b := 7) (by omega) (by omega)).mp z))]
      by_cases c2 : J 336 m = 20
      · rw [if_pos c2, if_pos (Or.inr c2)]
      · rw [if_neg c2, if_neg (fun z => z.elim c c2)]
  · unfold FO_M_settle
    rw [h16, if_neg hk, nI_pred, if_pos hb, nI_clamp (show m < 2 ^ 31 by omega), m_rank]
    simp only [Option.bind_some]
    rw [if_neg hr, h16, nI_pred, if_pos hb, nI_clamp (show m < 2 ^ 31 by omega), em]
    simp only [Option.bind_some]
    rw [show (sI (sI (sI (sI J 331 16 (nI m)) 334 (t0 + 73 + 2 * w) (J 336 m)) 334 (t0 + 73 + 2 * w + 1) 0) 331 13 (nI (w + 1))) 331 16 = nI m from by simp [sI_ap], if_pos hb, nI_clamp (show m < 2 ^ 31 by omega), show (sI (sI (sI (sI J 331 16 (nI m)) 334 (t0 + 73 + 2 * w) (J 336 m)) 334 (t0 + 73 + 2 * w + 1) 0) 331 13 (nI (w + 1))) 336 = J 336 from by rw [sJ_ne (by omega), sJ_ne (by omega), sJ_ne (by omega), sJ_ne (by omega)], m_rank]
    simp only [Option.bind_some]
    rw [show (sI (sI (sI (sI J 331 16 (nI m)) 334 (t0 + 73 + 2 * w) (J 336 m)) 334 (t0 + 73 + 2 * w + 1) 0) 331 13 (nI (w + 1))) 331 16 = nI m from by simp [sI_ap], if_pos hb, nI_clamp (show m < 2 ^ 31 by omega), show (sI (sI (sI (sI J 331 16 (nI m)) 334 (t0 + 73 + 2 * w) (J 336 m)) 334 (t0 + 73 + 2 * w + 1) 0) 331 13 (nI (w + 1))) 336 = J 336 from by rw [sJ_ne (by omega), sJ_ne (by omega), sJ_ne (by omega), sJ_ne (by omega)], show (sI (sI (sI (sI J 331 16 (nI m)) 334 (t0 + 73 + 2 * w) (J 336 m)) 334 (t0 + 73 + 2 * w + 1) 0) 331 13 (nI (w + 1))) 331 17 = J 331 17 from by simp [sI_ap]]
    by_cases c : rk (J 336 m) = 7
    · rw [if_pos (show nI (rk (J 336 m)) = 7 by rw [c]; rfl), if_pos (Or.inl c)]
    · rw [if_neg (show ¬ nI (rk (J 336 m)) = 7 from fun z => c ((nI_eq (b := 7) (by omega) (by omega)).mp z))]
      by_cases c2 : J 336 m = 20
      · rw [if_pos c2, if_pos (Or.inr c2)]
      · rw [if_neg c2, if_neg (fun z => z.elim c c2)]
theorem set_stop {m least fu f : Nat} {J : TI} {K : TL} (h16 : J 331 16 = nI m) (hm : m ≤ 160) (h : m = 0 ∨ rk (J 336 (m - 1)) < least) (hl : least < 10) : LO_M_settle_0 fu (f + 1) (nI least) J K = some ((), J, K) ∧ FO_M_settle fu (nI least) J K = some ((), J, K) := by
  unfold FO_M_settle
  rw [LO_M_settle_0, h16]
  by_cases c : m = 0
  · subst c
    rw [if_pos (by decide), if_pos (by decide)]
    exact ⟨rfl, rfl⟩
  · obtain ⟨m, rfl⟩ : ∃ z, m = z + 1 := ⟨m - 1, by omega⟩
    have hr : rk (J 336 m) < least := h.resolve_left c
    have hk : ¬ nI (m + 1) ≤ 0 := nI_ge (a := 0) (by omega) (by omega)
    rw [if_neg hk, if_neg hk, nI_pred, if_pos (show (0 : Int32) ≤ nI m ∧ nI m < 160 from ib (n := 160) rfl (by omega) (by omega)), if_pos (show (0 : Int32) ≤ nI m ∧ nI m < 160 from ib (n := 160) rfl (by omega) (by omega)), nI_clamp (show m < 2 ^ 31 by omega), m_rank]
    simp only [Option.bind_some]
    rw [if_pos (nI_lt hr (by omega)), if_pos (nI_lt hr (by omega))]
    exact ⟨rfl, rfl⟩
theorem set_LO {t0 m least fu : Nat} {K : TL} (ht : t0 < 2724) (hl : least < 10) : ∀ (n w f : Nat) (J : TI), J 331 12 = nI t0 → J 331 13 = nI w → J 331 16 = nI (m + n) → t0 + 73 + 2 * (w + n) < 2724 → m + n ≤ 160 → (∀ i, i < n → least ≤ rk (J 336 (m + i))) → (m = 0 ∨ rk (J 336 (m - 1)) < least) → n < f → LO_M_settle_0 fu f (nI least) J K = some ((), stl n J, K) := by
  intro n
  induction n with
  | zero =>
    intro w f J h12 h13 h16 hw hm hr h0 hf
    obtain ⟨f, rfl⟩ : ∃ z, f = z + 1 := ⟨f - 1, by omega⟩
    exact (set_stop h16 hm h0 hl).1
  | succ n ih =>
    intro w f J h12 h13 h16 hw hm hr h0 hf
    obtain ⟨f, rfl⟩ : ∃ z, f = z + 1 := ⟨f - 1, by omega⟩
    obtain ⟨p1, p2, p3, p4⟩ := pop_R0 (m := m + n) h12 h13 h16 ht (by omega) (by omega)
    have e336 : pop J 336 = J 336 := p1 336 (by omega) (by omega)
    rw [(set_step (m := m + n) (f := f) (K := K) (fu := fu) h12 h13 h16 (by omega) (by omega) (hr n (by omega))).1]
    exact ih (w + 1) f (pop J) ((p2 12 (by omega) (by omega) (by omega)).trans h12) p3 p4 (by omega) (by omega) (fun i hi => by rw [e336]; exact hr i (by omega)) (by rw [e336]; exact h0) (by omega)
/-- what waits as closely as that is written -/
theorem m_set {t0 m n w least fu : Nat} {J : TI} {K : TL} (hfu : 2000 ≤ fu) (ht : t0 < 2724) (hl : least < 10) (h12 : J 331 12 = nI t0) (h13 : J 331 13 = nI w) (h16 : J 331 16 = nI (m + n)) (hw : t0 + 73 + 2 * (w + n) < 2724) (hm : m + n ≤ 160) (hr : ∀ i, i < n → least ≤ rk (J 336 (m + i))) (h0 : m = 0 ∨ rk (J 336 (m - 1)) < least) : FO_M_settle fu (nI least) J K = some ((), stl n J, K) := by
  cases n with
  | zero => exact (set_stop (f := 0) h16 hm h0 hl).2
  | succ n =>
    obtain ⟨p1, p2, p3, p4⟩ := pop_R0 (m := m + n) h12 h13 h16 ht (by omega) (by omega)
    have e336 : pop J 336 = J 336 := p1 336 (by omega) (by omega)
    rw [(set_step (m := m + n) (f := 0) (K := K) (fu := fu) h12 h13 h16 (by omega) (by omega) (hr n (by omega))).2]
    exact set_LO ht hl n (w + 1) fu (pop J) ((p2 12 (by omega) (by omega) (by omega)).trans h12) p3 p4 (by omega) (by omega) (fun i hi => by rw [e336]; exact hr i (by omega)) (by rw [e336]; exact h0) (by omega)
/-- what is open -/
def OpN (J : TI) (m : Nat) (v : Int32) : Prop := (v = -1 ∧ ∀ i, i < m → J 336 i < 40) ∨ ∃ a, a < m ∧ J 336 a = v ∧ 40 ≤ v ∧ ∀ i, a < i → i < m → J 336 i < 40
theorem lo_open {fu : Nat} {J : TI} {K : TL} : ∀ (m f : Nat), m ≤ 160 → m < f → ((∀ i, i < m → J 336 i < 40) → LO_M_openAt_7 fu f (nI m - 1) J K = some (-1, J, K)) ∧ (∀ a, a < m → 40 ≤ J 336 a → (∀ i, a < i → i < m → J 336 i < 40) → LO_M_openAt_7 fu f (nI m - 1) J K = some (nI a, J, K)) := by
  intro m
  induction m with
  | zero =>
    intro f hm hf
    obtain ⟨f, rfl⟩ : ∃ z, f = z + 1 := ⟨f - 1, by omega⟩
    refine ⟨fun _ => ?_, fun a ha => by omega⟩
    rw [LO_M_openAt_7, if_pos (by decide)]
    rfl
  | succ m ih =>
    intro f hm hf
    obtain ⟨f, rfl⟩ : ∃ z, f = z + 1 := ⟨f - 1, by omega⟩
    have st : LO_M_openAt_7 fu (f + 1) (nI (m + 1) - 1) J K = if 40 ≤ J 336 m then some (nI m, J, K) else LO_M_openAt_7 fu f (nI m - 1) J K := by
      rw [LO_M_openAt_7, nI_pred, if_neg (show ¬ nI m < 0 from nI_pos (by omega)), if_pos (show (0 : Int32) ≤ nI m ∧ nI m < 160 from ib (n := 160) rfl (by omega) (by omega)), nI_clamp (show m < 2 ^ 31 by omega), Int32.sub_eq_add_neg]
    rw [st]
    refine ⟨fun h => ?_, fun a ha h1 h2 => ?_⟩
    · rw [if_neg (Int32.not_le.mpr (h m (by omega)))]
      exact (ih f (by omega) (by omega)).1 (fun i hi => h i (by omega))
    · by_cases c : a = m
      · subst c
        rw [if_pos h1]
      · rw [if_neg (Int32.not_le.mpr (h2 m (by omega) (by omega)))]
        exact (ih f (by omega) (by omega)).2 a (by omega) h1 (fun i h3 h4 => h2 i h3 (by omega))
theorem m_openAt {fu m a : Nat} {J : TI} {K : TL} (hfu : 2000 ≤ fu) (h16 : J 331 16 = nI m) (hm : m ≤ 160) (ha : a < m) (h1 : 40 ≤ J 336 a) (h2 : ∀ i, a < i → i < m → J 336 i < 40) : FO_M_openAt fu J K = some (nI a, J, K) := by
  unfold FO_M_openAt
  rw [h16]
  exact (lo_open m fu hm (by omega)).2 a ha h1 h2
theorem m_open {fu m : Nat} {v : Int32} {J : TI} {K : TL} (hfu : 2000 ≤ fu) (h16 : J 331 16 = nI m) (hm : m ≤ 160) (h : OpN J m v) : FO_M_openNow fu J K = some (v, J, K) := by
  unfold FO_M_openNow
  rcases h with ⟨rfl, h⟩ | ⟨a, ha, hv, h40, h2⟩
  · have e : FO_M_openAt fu J K = some (-1, J, K) := by
      unfold FO_M_openAt
      rw [h16]
      exact (lo_open m fu hm (by omega)).1 h
    rw [e]
    rfl
  · have e := m_openAt (K := K) hfu h16 hm ha (by rw [hv]; exact h40) h2
    rw [e]
    simp only [Option.bind_some]
    rw [if_pos (show (0 : Int32) ≤ nI a from nI_pos' (by omega)), e]
    simp only [Option.bind_some]
    rw [if_pos (show (0 : Int32) ≤ nI a ∧ nI a < 160 from ib (n := 160) rfl (by omega) (by omega)), nI_clamp (show a < 2 ^ 31 by omega), hv]
theorem OpN.up {J J' : TI} {m m' : Nat} {v : Int32} (h : OpN J m v) (hm : m ≤ m') (e : ∀ i, i < m → J' 336 i = J 336 i) (hr : ∀ i, m ≤ i → i < m' → J' 336 i < 40) : OpN J' m' v := by
  rcases h with ⟨hv, h⟩ | ⟨a, ha, hv, h40, h2⟩
  · refine Or.inl ⟨hv, fun i hi => ?_⟩
    by_cases c : i < m
    · rw [e i c]; exact h i c
    · exact hr i (by omega) hi
  · refine Or.inr ⟨a, by omega, by rw [e a ha]; exact hv, h40, fun i h3 h4 => ?_⟩
    by_cases c : i < m
    · rw [e i c]; exact h2 i h3 c
    · exact hr i (by omega) h4
/-- whether it is compared -/
theorem lo_cmp {fu b : Nat} {J : TI} {K : TL} {v : Int32} (hv : (b = 0 ∧ v = 0) ∨ (0 < b ∧ rk (J 336 (b - 1)) = 4 ∧ v = 1) ∨ (0 < b ∧ rk (J 336 (b - 1)) < 4 ∧ v = 0)) : ∀ (n f : Nat), b + n ≤ 160 → n < f → (∀ i, i < n → 4 < rk (J 336 (b + i))) → LO_M_isCompared_7 fu f (nI (b + n) - 1) J K = some (v, J, K) := by
  intro n
  induction n with
  | zero =>
    intro f hb hf _
    obtain ⟨f, rfl⟩ : ∃ z, f = z + 1 := ⟨f - 1, by omega⟩
    rcases hv with ⟨rfl, rfl⟩ | ⟨h0, hr, rfl⟩ | ⟨h0, hr, rfl⟩
    · rw [LO_M_isCompared_7, if_pos (by decide), if_pos (by decide)]
    · obtain ⟨b, rfl⟩ : ∃ z, b = z + 1 := ⟨b - 1, by omega⟩
      have hr : rk (J 336 b) = 4 := hr
      rw [Nat.add_zero, LO_M_isCompared_7, nI_pred, if_neg (show ¬ nI b < 0 from nI_pos (by omega)), if_pos (show (0 : Int32) ≤ nI b ∧ nI b < 160 from ib (n := 160) rfl (by omega) (by omega)), nI_clamp (show b < 2 ^ 31 by omega), m_rank]
      simp only [Option.bind_some]
      rw [hr, if_pos (by decide), if_neg (show ¬ nI b < 0 from nI_pos (by omega)), if_pos (show (0 : Int32) ≤ nI b ∧ nI b < 160 from ib (n := 160) rfl (by omega) (by omega)), m_rank]
      simp only [Option.bind_some]
      rw [hr]
      rfl
    · obtain ⟨b, rfl⟩ : ∃ z, b = z + 1 := ⟨b - 1, by omega⟩
      have hr : rk (J 336 b) < 4 := hr
      rw [Nat.add_zero, LO_M_isCompared_7, nI_pred, if_neg (show ¬ nI b < 0 from nI_pos (by omega)), if_pos (show (0 : Int32) ≤ nI b ∧ nI b < 160 from ib (n := 160) rfl (by omega) (by omega)), nI_clamp (show b < 2 ^ 31 by omega), m_rank]
      simp only [Option.bind_some]
      rw [if_pos (show nI (rk (J 336 b)) ≤ 4 from nI_le (b := 4) (by omega) (by omega)), if_neg (show ¬ nI b < 0 from nI_pos (by omega)), if_pos (show (0 : Int32) ≤ nI b ∧ nI b < 160 from ib (n := 160) rfl (by omega) (by omega)), m_rank]
      simp only [Option.bind_some]
      rw [if_neg (show ¬ nI (rk (J 336 b)) = 4 from fun z => by have := (nI_eq (b := 4) (by omega) (by omega)).mp z; omega)]
  | succ n ih =>
    intro f hb hf hr
    obtain ⟨f, rfl⟩ : ∃ z, f = z + 1 := ⟨f - 1, by omega⟩
    have h5 := hr n (by omega)
    have r7 := rk_7 (J 336 (b + n))
    rw [← Nat.add_assoc, LO_M_isCompared_7, nI_pred, if_neg (show ¬ nI (b + n) < 0 from nI_pos (by omega)), if_pos (show (0 : Int32) ≤ nI (b + n) ∧ nI (b + n) < 160 from ib (n := 160) rfl (by omega) (by omega)), nI_clamp (show b + n < 2 ^ 31 by omega), m_rank]
    simp only [Option.bind_some]
    rw [if_neg (show ¬ nI (rk (J 336 (b + n))) ≤ 4 from nI_ge (a := 4) (by omega) (by omega)), ← Int32.sub_eq_add_neg]
    exact ih f (by omega) (by omega) (fun i hi => hr i (by omega))
theorem m_cmp {fu b n : Nat} {J : TI} {K : TL} {v : Int32} (hfu : 2000 ≤ fu) (h16 : J 331 16 = nI (b + n)) (hm : b + n ≤ 160) (hr : ∀ i, i < n → 4 < rk (J 336 (b + i))) (hv : (b = 0 ∧ v = 0) ∨ (0 < b ∧ rk (J 336 (b - 1)) = 4 ∧ v = 1) ∨ (0 < b ∧ rk (J 336 (b - 1)) < 4 ∧ v = 0)) : FO_M_isCompared fu J K = some (v, J, K) := by
  unfold FO_M_isCompared
  rw [h16]
  exact lo_cmp hv n fu hm (by omega) hr
