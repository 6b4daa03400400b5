/-! clauses -/
theorem ww8 {fu : Nat} {J : TI} {K : TL} : FO_M_w5 fu 116 105 99 107 115 J K = some (wd 8, J, K) := by rw [w5e, show pkn (pkn (pkn (pk2 116 105) 99) 107) 115 = wd 8 by decide +kernel]
theorem ww9 {fu : Nat} {J : TI} {K : TL} : FO_M_w5 fu 104 101 97 114 115 J K = some (wd 9, J, K) := by rw [w5e, show pkn (pkn (pkn (pk2 104 101) 97) 114) 115 = wd 9 by decide +kernel]
theorem ww10 {fu : Nat} {J : TI} {K : TL} : FO_M_w6 fu 108 111 100 103 101 114 J K = some (wd 10, J, K) := by rw [w6e, show pkn (pkn (pkn (pkn (pk2 108 111) 100) 103) 101) 114 = wd 10 by decide +kernel]
theorem ww11 {fu : Nat} {J : TI} {K : TL} : FO_M_w2 fu 117 112 J K = some (wd 11, J, K) := by rw [w2e, show pk2 117 112 = wd 11 by decide +kernel]
theorem ww12 {fu : Nat} {J : TI} {K : TL} : FO_M_w4 fu 100 111 119 110 J K = some (wd 12, J, K) := by rw [w4e, show pkn (pkn (pk2 100 111) 119) 110 = wd 12 by decide +kernel]
theorem ww13 {fu : Nat} {J : TI} {K : TL} : FO_M_w4 fu 104 97 110 103 J K = some (wd 13, J, K) := by rw [w4e, show pkn (pkn (pk2 104 97) 110) 103 = wd 13 by decide +kernel]
theorem ww14 {fu : Nat} {J : TI} {K : TL} : FO_M_w6 fu 117 110 104 97 110 103 J K = some (wd 14, J, K) := by rw [w6e, show pkn (pkn (pkn (pkn (pk2 117 110) 104) 97) 110) 103 = wd 14 by decide +kernel]
theorem ww25 {fu : Nat} {J : TI} {K : TL} : FO_M_w2 fu 98 121 J K = some (wd 25, J, K) := by rw [w2e, show pk2 98 121 = wd 25 by decide +kernel]
def srt (x : Int32) : Int32 := if x = nI 38 then 0 else if x = nI 39 then 1 else if x = nI 40 then 2 else if x = nI 41 then 3 else if x = nI 42 then 4 else if x = nI 43 then 5 else if x = nI 44 then 6 else if x = nI 30 then 7 else -1
def FrD (I I' : TI) : Prop := (∀ o, ¬ (307 ≤ o ∧ o ≤ 315) → I' o = I o) ∧ I' 307 0 = I 307 0
def FrC (t0 : Nat) (J J' : TI) : Prop := (∀ o, o ≠ 331 → o ≠ 334 → o ≠ 336 → J' o = J o) ∧ (∀ i, (i = 4 ∨ i = 5 ∨ i = 6 ∨ i = 12 ∨ i = 23) → J' 331 i = J 331 i) ∧ (∀ x, x < t0 → J' 334 x = J 334 x)
theorem FrD.rf {I : TI} : FrD I I := ⟨fun _ _ => rfl, rfl⟩
theorem FrD.tr {I I' I'' : TI} (a : FrD I I') (b : FrD I' I'') : FrD I I'' := ⟨fun o h => (b.1 o h).trans (a.1 o h), b.2.trans a.2⟩
theorem FrX.d {I I' : TI} (h : FrX I I') : FrD I I' := ⟨fun o ho => h.1 o (by omega) (by omega) (by omega) (by omega), h.2.1 0 (by omega) (by omega) (by omega) (by omega) (by omega)⟩
theorem FrC.rf {t0 : Nat} {J : TI} : FrC t0 J J := ⟨fun _ _ _ _ => rfl, fun _ _ => rfl, fun _ _ => rfl⟩
theorem FrC.tr {t0 : Nat} {J J' J'' : TI} (a : FrC t0 J J') (b : FrC t0 J' J'') : FrC t0 J J'' := ⟨fun o h1 h2 h3 => (b.1 o h1 h2 h3).trans (a.1 o h1 h2 h3), fun i h => (b.2.1 i h).trans (a.2.1 i h), fun x h => (b.2.2 x h).trans (a.2.2 x h)⟩
theorem FrM.c {t0 : Nat} {J J' : TI} (h : FrM J J') (g : CdM t0 J J' 0) : FrC t0 J J' := ⟨h.1, fun i hi => h.2 i (by omega) (by omega) (by omega) (by omega) (by omega) (by omega) (by omega) (by omega), fun x hx => g x (by omega)⟩
theorem NXf.c {t0 : Nat} {J J' : TI} (h : NXf J J') : FrC t0 J J' := ⟨fun o a _ _ => h.1 o a, fun i hi => h.2 i (by omega) (by omega) (by omega) (by omega), fun x _ => by rw [h.1 334 (by omega)]⟩
section
variable {kd vl sp tp : Nat → Int32} {en : Nat → Nat} {len N fu t0 : Nat}
theorem m_sort {k : Nat} {J : TI} {K : TL} (h : MK kd vl sp tp en len J K k) : FO_M_sortOf fu J K = some (srt (kd k), J, K) := by
  have w8 := m_isW (fu := fu) (i := 8) h (by omega) rfl
  have w9 := m_isW (fu := fu) (i := 9) h (by omega) rfl
  have w10 := m_isW (fu := fu) (i := 10) h (by omega) rfl
  have w11 := m_isW (fu := fu) (i := 11) h (by omega) rfl
  have w12 := m_isW (fu := fu) (i := 12) h (by omega) rfl
  have w13 := m_isW (fu := fu) (i := 13) h (by omega) rfl
  have w14 := m_isW (fu := fu) (i := 14) h (by omega) rfl
  have w0 := m_isW (fu := fu) (i := 0) h (by omega) rfl
  unfold FO_M_sortOf srt
  rw [ww8]
  simp only [Option.bind_some]
  by_cases c8 : kd k = nI 38
  · rw [w8.1 c8, if_pos c8]; rfl
  rw [w8.2 c8, if_neg c8]
  simp only [Option.bind_some]
  rw [if_pos trivial, ww9]
  simp only [Option.bind_some]
  by_cases c9 : kd k = nI 39
  · rw [w9.1 c9, if_pos c9]; rfl
  rw [w9.2 c9, if_neg c9]
  simp only [Option.bind_some]
  rw [if_pos trivial, ww10]
  simp only [Option.bind_some]
  by_cases c10 : kd k = nI 40
  · rw [w10.1 c10, if_pos c10]; rfl
  rw [w10.2 c10, if_neg c10]
  simp only [Option.bind_some]
  rw [if_pos trivial, ww11]
  simp only [Option.bind_some]
  by_cases c11 : kd k = nI 41
  · rw [w11.1 c11, if_pos c11]; rfl
  rw [w11.2 c11, if_neg c11]
  simp only [Option.bind_some]
  rw [if_pos trivial, ww12]
  simp only [Option.bind_some]
  by_cases c12 : kd k = nI 42
  · rw [w12.1 c12, if_pos c12]; rfl
  rw [w12.2 c12, if_neg c12]
  simp only [Option.bind_some]
  rw [if_pos trivial, ww13]
  simp only [Option.bind_some]
  by_cases c13 : kd k = nI 43
  · rw [w13.1 c13, if_pos c13]; rfl
  rw [w13.2 c13, if_neg c13]
  simp only [Option.bind_some]
  rw [if_pos trivial, ww14]
  simp only [Option.bind_some]
  by_cases c14 : kd k = nI 44
  · rw [w14.1 c14, if_pos c14]; rfl
  rw [w14.2 c14, if_neg c14]
  simp only [Option.bind_some]
  rw [if_pos trivial, ww0]
  simp only [Option.bind_some]
  by_cases c0 : kd k = nI 30
  · rw [w0.1 c0, if_pos c0]; rfl
  rw [w0.2 c0, if_neg c0]; rfl
/-- a number of a clause, for the model -/
theorem m_fig (nx : NX kd vl sp tp en len N fu) {J : TI} {K : TL} {k x lo hi : Nat} (h : MK kd vl sp tp en len J K k) (hx : x < 2724) (hx0 : x < 2724) (hlo : lo ≤ hi) (hhi : hi ≤ 9999) : (∀ v, kd k = 2 → k < N → vl k = nI v → lo ≤ v → v ≤ hi → ∃ J' K', FO_M_figure fu (nI x) (nI lo) (nI hi) J K = some (0, J', K') ∧ MK kd vl sp tp en len J' K' (k + 1) ∧ NXf (sI J 334 x (nI v)) J') ∧ (kd k = 2 → ¬ (nI lo ≤ vl k ∧ vl k ≤ nI hi) → FO_M_figure fu (nI x) (nI lo) (nI hi) J K = some (nI 2, J, K)) ∧ (¬ kd k = 2 → FO_M_figure fu (nI x) (nI lo) (nI hi) J K = some (nI 1, J, K)) := by
  have t1 := h.t1
  unfold FO_M_figure
  refine ⟨fun v e hk ev h1 h2 => ?_, fun e h1 => ?_, fun e => ?_⟩
  · obtain ⟨a, b, ha, e1, e2, e3⟩ := h.2.2.2.2.2.2.1 e
    have : v = b := (nI_eq (by omega) (by omega)).mp (ev.symm.trans e2)
    have hva : v = a := by omega
    have hs : MK kd vl sp tp en len (sI J 334 x (nI v)) K k := h.cg (fun i _ _ _ _ _ _ => by simp [sI_ap]) (sJ_ne (by omega))
    obtain ⟨J', K', r1, r2, r3⟩ := nx _ K k hk hs
    rw [if_pos (t1.mpr e), e1, ← hva, if_pos ⟨nI_le h1 (by omega), nI_le h2 (by omega)⟩, if_pos (show (0 : Int32) ≤ nI x ∧ nI x < 2724 from ib (n := 2724) rfl hx (by omega)), nI_clamp (show x < 2 ^ 31 by omega), r1]
    exact ⟨J', K', rfl, r2, r3⟩
  · obtain ⟨a, b, ha, e1, e2, e3⟩ := h.2.2.2.2.2.2.1 e
    rw [if_pos (t1.mpr e), e1, if_neg]
    · rfl
    · intro z
      apply h1
      rw [e2]
      have z1 : lo ≤ a := (nI_leI (by omega) (by omega)).mp z.1
      have z2 : a ≤ hi := (nI_leI (by omega) (by omega)).mp z.2
      exact ⟨nI_le (by omega) (by omega), nI_le (by omega) (by omega)⟩
  · rw [if_neg (fun z => e (t1.mp z))]
    rfl
theorem x_clause {k q n : Nat} {a b c : Int32} {I : TI} {L : TL} (h : XS kd vl sp N I k q) (hn : I 308 0 = nI n) (hn4 : n < 24) : ∃ I', FO_T_addClause fu a b c I L = some ((), I', L) ∧ XS kd vl sp N I' k q ∧ FrD I I' ∧ I' 308 0 = nI (n + 1) ∧ (∀ i, i ≠ n → I' 309 i = I 309 i ∧ I' 310 i = I 310 i ∧ I' 311 i = I 311 i) ∧ (I' 309 n = a ∧ I' 310 n = b ∧ I' 311 n = c) ∧ (∀ o, 312 ≤ o → o ≤ 315 → I' o = I o) ∧ I' 307 = I 307 := by
  obtain ⟨h7, h8, h9, h10, h4, e1, e2, e3, h5, h6⟩ := h
  refine ⟨sI (sI (sI (sI I 309 n a) 310 n b) 311 n c) 308 0 (nI (n + 1)), ?_, ⟨?_, ?_, ?_, ?_, ?_, ?_, ?_, ?_, h5, h6⟩, ⟨fun o ho => by rw [sJ_ne (by omega), sJ_ne (by omega), sJ_ne (by omega), sJ_ne (by omega)], by simp [sI_ap]⟩, by simp [sI_ap], fun i hi => by simp [sI_ap, hi], by simp [sI_ap], fun o h1 h2 => by rw [sJ_ne (by omega), sJ_ne (by omega), sJ_ne (by omega), sJ_ne (by omega)], by rw [sJ_ne (by omega), sJ_ne (by omega), sJ_ne (by omega), sJ_ne (by omega)]⟩
  · unfold FO_T_addClause
    have hb : (0 : Int32) ≤ nI n ∧ nI n < 24 := ib (n := 24) rfl hn4 (by omega)
    rw [hn, if_pos (show (0 : Int32) ≤ nI n ∧ nI n ≤ 23 from ⟨nI_pos' (by omega), nI_le (b := 23) (by omega) (by omega)⟩), if_pos hb, if_pos hb, if_pos hb, nI_clamp (show n < 2 ^ 31 by omega), nI_1]
  · simp [sI_ap, h7]
  · simp [sI_ap, h8]
  · simp [sI_ap, h9]
  · simp [sI_ap, h10]
  · simp [sI_ap, h4]
  · rw [sJ_ne (by omega), sJ_ne (by omega), sJ_ne (by omega), sJ_ne (by omega), e1]
  · rw [sJ_ne (by omega), sJ_ne (by omega), sJ_ne (by omega), sJ_ne (by omega), e2]
  · rw [sJ_ne (by omega), sJ_ne (by omega), sJ_ne (by omega), sJ_ne (by omega), e3]
end
