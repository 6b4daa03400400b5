/-! the shortest doubt; doubt and clear -/
theorem m_fill {fu : Nat} {K : TL} : ∀ (j x f : Nat) (J : TI), x + j = 64 → j < f → (∀ t, t < x → J 346 t = 1000000) → ∃ J', LO_M_doubt_2 fu f (nI x) J K = LO_M_doubt_27 fu fu 0 0 J' K ∧ (∀ t, t < 64 → J' 346 t = 1000000) ∧ (∀ o, o ≠ 346 → J' o = J o) := by
  intro j
  induction j with
  | zero =>
    intro x f J hx hf h
    obtain ⟨f, rfl⟩ : ∃ z, f = z + 1 := ⟨f - 1, by omega⟩
    have : x = 64 := by omega
    subst this
    refine ⟨J, ?_, h, fun _ _ => rfl⟩
    rw [LO_M_doubt_2, if_pos (by decide)]
  | succ j ih =>
    intro x f J hx hf h
    obtain ⟨f, rfl⟩ : ∃ z, f = z + 1 := ⟨f - 1, by omega⟩
    obtain ⟨J', a, b, c⟩ := ih (x + 1) f (sI J 346 x 1000000) (by omega) (by omega) (fun t ht => by
      rw [sJ_at]
      by_cases e : t = x
      · rw [e, pk_us]
      · rw [pk_un e]; exact h t (by omega))
    refine ⟨J', ?_, b, fun o ho => (c o ho).trans (sJ_ne ho)⟩
    rw [LO_M_doubt_2, if_neg (show ¬ (64 : Int32) ≤ nI x from nI_ge (b := 64) (by omega) (by omega)), if_pos (show (0 : Int32) ≤ nI x ∧ nI x < 64 from ib (n := 64) rfl (by omega) (by omega)), nI_clamp (show x < 2 ^ 31 by omega), show nI x + 1 = nI (x + 1) from nI_1 ..]
    exact a
theorem dbt2 {fu : Nat} {I J : TI} {L K : TL} (hfu : 2000 ≤ fu) (s : SR (aN I) (J 332)) : ∃ r I' J', FO_C_shortestDoubt fu I L = some (r, I', L) ∧ FO_M_doubt fu J K = some (r, J', K) ∧ (∀ o, o ≠ 326 → I' o = I o) ∧ (∀ o, o ≠ 346 → J' o = J o) := by
  obtain ⟨n, hn, e13, e5, w⟩ := s.f_wo
  have w' : ∀ k, ∃ z : Nat × Nat, k < n → 1 ≤ z.1 ∧ z.1 ≤ 22222 ∧ J 332 (66 + k) = nI z.1 ∧ I 134 k = nI z.2 ∧ Vd 8 z.1 = some z.2 ∧ 2 ≤ z.2 ∧ z.2 < 64 := fun k => by
    by_cases c : k < n
    · obtain ⟨p, q, h⟩ := w k c
      exact ⟨(p, q), fun _ => h⟩
    · exact ⟨(0, 0), fun h => absurd h c⟩
  obtain ⟨z, hz⟩ := Classical.axiomOfChoice w'
  have hw : ∀ k, k < n → 1 ≤ (z k).1 ∧ (z k).1 ≤ 22222 ∧ Vd 8 ((z k).1) = some ((z k).2) ∧ 2 ≤ (z k).2 ∧ (z k).2 < 64 := fun k hk => by
    obtain ⟨a1, a2, a3, a4, a5, a6, a7⟩ := hz k hk
    exact ⟨a1, a2, a5, a6, a7⟩
  have hW : ∀ k, k < n → I 134 k = nI ((z k).2) ∧ J 332 (66 + k) = nI ((z k).1) := fun k hk => ⟨(hz k hk).2.2.2.1, (hz k hk).2.2.1⟩
  obtain ⟨J1, m1, m2, m3⟩ := m_fill (fu := fu) (K := K) 64 0 fu J (by omega) (by omega) (fun t ht => absurd ht (by omega))
  have f1 : ∀ o, o ≠ 326 → va_up I 326 (fillF (I 326) 1000000 64) o = I o := fun o ho => vu_ne ho
  have d1 : DI (fun _ => 1000000) (va_up I 326 (fillF (I 326) 1000000 64) 326) := fun t ht => by
    rw [vu_at]
    unfold fillF
    rw [if_pos ht]
    exact ⟨rfl, Nat.le_refl _⟩
  have d2 : DI (fun _ => 1000000) (J1 346) := fun t ht => ⟨m2 t ht, Nat.le_refl _⟩
  obtain ⟨y, D, I2, J2, r0, r1, r2, r3, r4, r5, r6, r7⟩ := lk_w2 (fu := fu) (n := n) (L := L) (K := K) (qs := fun k => (z k).2) (ps := fun k => (z k).1) hfu hn hw n 0 fu fu 0 (fun _ => 1000000) (va_up I 326 (fillF (I 326) 1000000 64)) J1 (by omega) (by omega) (by omega) (Or.inl rfl) (by rw [f1 1 (by omega)]; exact e13) (by rw [m3 332 (by omega)]; exact e5) (fun k hk => by rw [f1 134 (by omega), m3 332 (by omega)]; exact hW k hk) d1 d2 (fun _ _ _ => rfl)
  have x0 : FO_C_shortestDoubt fu I L = LO_C_shortestDoubt_89 fu fu 1 (nI 0) I2 L := by
    unfold FO_C_shortestDoubt
    exact r1
  have y0 : FO_M_doubt fu J K = LO_M_doubt_116 fu fu y (nI n) J2 K := by
    unfold FO_M_doubt
    exact m1.trans r2
  have g1 : ∀ o, o ≠ 326 → I2 o = I o := fun o ho => (r5 o ho).trans (f1 o ho)
  have g2 : ∀ o, o ≠ 346 → J2 o = J o := fun o ho => (r6 o ho).trans (m3 o ho)
  have hD : ∀ t, t < 64 → D t ≤ 1000000 := fun t ht => (r3 t ht).2
  rw [x0, y0]
  rcases r0 with rfl | rfl
  · have a1 := r7 rfl
    obtain ⟨f, hf⟩ : ∃ z, fu = z + 1 := ⟨fu - 1, by omega⟩
    obtain ⟨f', hf'⟩ : ∃ z, f = z + 1 := ⟨f - 1, by omega⟩
    obtain ⟨v, I3, J3, s0, s1, s2, s3, s4, s5, s6, s7, s8, s9⟩ := lk_r (fu := fu) (n := n) (x3 := nI 0) (L := L) (K := K) (kk := fun x2 x3 I L => LO_C_shortestDoubt_89 fu f x2 x3 I L) (k116 := fun x1 x2 I L => LO_M_doubt_116 fu f x1 x2 I L) (qs := fun k => (z k).2) (ps := fun k => (z k).1) hfu hn hw 62 2 fu fu 0 D I2 J2 (by omega) (by omega) (by omega) (by omega) (Or.inl rfl) (by rw [g1 1 (by omega)]; exact e13) (by rw [g2 332 (by omega)]; exact e5) (fun k hk => by rw [g1 134 (by omega), g2 332 (by omega)]; exact hW k hk) r3 r4
    have un : ∀ (j x : Nat), 2 ≤ x → x + j = 64 → rndD (fun k => (z k).2) n j x D = D := by
      intro j
      induction j with
      | zero => intro x _ _; rfl
      | succ j ih =>
        intro x h1 h2
        show rndD (fun k => (z k).2) n j (x + 1) (if D x < 1000000 then wfo (fun k => (z k).2) x n 0 D else D) = D
        rw [if_neg (by have := a1 x (by omega); omega)]
        exact ih (x + 1) (by omega) (by omega)
    have v0 : v = 0 := by
      rcases s0 with h | h
      · exact h
      · rcases s9 h with h | ⟨t, t1, t2⟩
        · exact absurd h (by decide)
        · rw [un 62 2 (by omega) (by omega)] at t2; omega
    subst v0
    obtain ⟨p1, _⟩ := s3 1 (by omega)
    obtain ⟨q1, _⟩ := r4 1 (by omega)
    rw [un 62 2 (by omega) (by omega), a1 1 (by omega)] at p1
    rw [a1 1 (by omega)] at q1
    refine ⟨-1, I3, J2, ?_, ?_, fun o ho => (s5 o ho).trans (g1 o ho), g2⟩
    · have : LO_C_shortestDoubt_89 fu (f + 1) 1 (nI 0) I2 L = LO_C_shortestDoubt_89 fu f 0 (nI 0 + 1) I3 L := by
        rw [LO_C_shortestDoubt_89, if_neg (show ¬ (64 : Int32) ≤ nI 0 by decide), if_neg i10]
        exact s1
      rw [← hf] at this
      rw [this, hf', LO_C_shortestDoubt_89, p1, if_pos (show (1000000 : Int32) ≤ nI 1000000 by decide)]
      split <;> rfl
    · have : LO_M_doubt_116 fu (f + 1) 0 (nI n) J2 K = some (-1, J2, K) := by
        rw [LO_M_doubt_116, if_pos rfl, q1, if_pos (by decide)]
      rw [← hf] at this
      exact this
  · obtain ⟨r, I3, J3, s1, s2, s3, s4⟩ := lk_o (fu := fu) (n := n) (L := L) (K := K) (qs := fun k => (z k).2) (ps := fun k => (z k).1) (D := D) hfu hn hw hD 63 0 fu fu (nI n) I2 J2 (by omega) (by omega) (by omega) (by rw [g1 1 (by omega)]; exact e13) (by rw [g2 332 (by omega)]; exact e5) (fun k hk => by rw [g1 134 (by omega), g2 332 (by omega)]; exact hW k hk) r3 r4
    exact ⟨r, I3, J3, s1, s2, fun o ho => (s3 o ho).trans (g1 o ho), fun o ho => (s4 o ho).trans (g2 o ho)⟩
theorem op_doubt {T : TI → (Nat → Int32) → Prop} {fu : Nat} (hfu : 2000 ≤ fu) : OpR T (fun I L => FO_X_doubt fu I L) (fun I L => FO_M_doubt fu I L) := by
  refine OpR_s (fun I J L K hR => ?_)
  obtain ⟨r, I', J', a, b, c, d⟩ := dbt2 (fu := fu) (L := L) (K := K) hfu hR.s
  refine ⟨r, I', L, J', K, ?_, b, ScI.one (c := 326) (by omega) c, ScJ.one (c := 346) (by omega) d⟩
  show FO_X_doubt fu I L = _
  unfold FO_X_doubt
  rw [a]
  rfl
theorem op_clear {T : TI → (Nat → Int32) → Prop} {fu : Nat} (hfu : 2000 ≤ fu) : OpR T (fun I L => FO_X_clear fu I L) (fun I L => FO_M_clear fu I L) := by
  refine OpR_s (fun I J L K hR => ?_)
  obtain ⟨r, I', J', a, b, c, d⟩ := dbt2 (fu := fu) (L := L) (K := K) hfu hR.s
  by_cases e : r = -1
  · refine ⟨1, I', L, J', K, ?_, ?_, ScI.one (c := 326) (by omega) c, ScJ.one (c := 346) (by omega) d⟩
    · show FO_X_clear fu I L = _
      unfold FO_X_clear
      rw [a]
      simp only [Option.bind_some]
      rw [if_pos e]
    · show FO_M_clear fu J K = _
      unfold FO_M_clear
      rw [b]
      simp only [Option.bind_some]
      rw [if_pos e]
  · refine ⟨0, I', L, J', K, ?_, ?_, ScI.one (c := 326) (by omega) c, ScJ.one (c := 346) (by omega) d⟩
    · show FO_X_clear fu I L = _
      unfold FO_X_clear
      rw [a]
      simp only [Option.bind_some]
      rw [if_neg e]
    · show FO_M_clear fu J K = _
      unfold FO_M_clear
      rw [b]
      simp only [Option.bind_some]
      rw [if_neg e]
