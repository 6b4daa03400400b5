/-! a text of the class beside the model's, and what its laws say -/
def CLR (kd f s so a b : Int32) : Prop :=
  (kd = 38 ∧ so = 0) ∨ (kd = 39 ∧ so = 1) ∨
  (kd = 40 ∧ so = 2 ∧ ∃ m n : Nat, (1 ≤ m ∧ m ≤ 9 ∧ 1 ≤ n ∧ n ≤ 12) ∧ f = nI m ∧ s = nI n ∧ a = nI m ∧ b = nI n) ∨
  (kd = 41 ∧ so = 3 ∧ ∃ m n : Nat, (1 ≤ m ∧ m ≤ 3 ∧ n ≤ 5) ∧ f = nI m ∧ s = nI n ∧ a = nI m ∧ b = nI n) ∨
  (kd = 42 ∧ so = 4 ∧ ∃ m n : Nat, (1 ≤ m ∧ m ≤ 3 ∧ n ≤ 5) ∧ f = nI m ∧ s = nI n ∧ a = nI m ∧ b = nI n) ∨
  (kd = 43 ∧ so = 5 ∧ ∃ m : Nat, (1 ≤ m ∧ m ≤ 12) ∧ f = nI m ∧ a = nI m) ∨
  (kd = 44 ∧ so = 6 ∧ ∃ m : Nat, (1 ≤ m ∧ m ≤ 12) ∧ f = nI m ∧ a = nI m) ∨
  (kd = 30 ∧ so = 7 ∧ ∃ m : Nat, (1 ≤ m ∧ m ≤ 60) ∧ f = nI m ∧ a = nI m)
def LWR (nn row : Nat) (A : TI) (c : Nat → Int32) (n : Nat) : Prop :=
  (A 6 row = -1 ∧ ∀ k, k < n → ¬ c (1 + 3 * k) = nI row) ∨
  ∃ p q i j k : Nat, q ≤ 300 ∧ A 6 row = nI p ∧ A 7 row = nI q ∧ k < n ∧ c (1 + 3 * k) = nI row ∧ (∀ k', k' < k → ¬ c (1 + 3 * k') = nI row) ∧ c (2 + 3 * k) = nI i ∧ c (3 + 3 * k) = nI j ∧ j ≤ 304 ∧ Seg nn (A 4) (A 5) (fun x => c (73 + x)) p q i j 79
def TX (A : TI) (c : Nat → Int32) : Prop :=
  ∃ n : Nat, n ≤ 24 ∧ A 0 0 = nI n ∧ c 0 = nI n ∧ (∀ k, k < n → CLR (A 1 k) (A 2 k) (A 3 k) (c (1 + 3 * k)) (c (2 + 3 * k)) (c (3 + 3 * k))) ∧ LWR 8 0 A c n ∧ LWR 3 1 A c n
/-- what is said of a number -/
def sv (v : Int) : Nat := (max 0 (min v 99)).toNat
theorem sv_le (v : Int) : sv v ≤ 99 := by unfold sv; omega
theorem ws_end {fu o f q c : Nat} {x2 x3 : Int32} {v : Int} {I : TI} {L : TL} (hb : bz v) (h : I 320 0 = iZ v) (hq : q ≤ 300) : LO_W_says_40 fu o (f + 1) x2 x3 (nI q) (nI q) (nI 1) (nI c) I L = some (nI (sv v), I, L) := by
  have e : F_J_max I 0 (F_J_min I (iZ v) 99) = nI (sv v) := by
    rw [show (99 : Int32) = iZ 99 from by decide, jminZ hb.q (by unfold bq; omega), zi0, jmaxZ (by unfold bq; omega) (by unfold bz at hb; unfold bq; omega), nI_Z]
    congr 1
    unfold sv
    omega
  rw [LO_W_says_40, h, e]
  by_cases c1 : (300 : Int32) ≤ nI c
  · rw [if_pos c1, if_neg (by decide)]
  · rw [if_neg c1, if_neg (show ¬ nI q < 0 from nI_pos (by omega)), if_pos (Int32.le_refl _), if_neg (by decide)]
theorem x_says {fu o p q row nn : Nat} {w : Int32} {z : Nat → Nat} {cu : Int32} {v : Int} {I : TI} {L : TL} (hfu : 2000 ≤ fu) (ho : o + 5 < 319) (hw : (w = 38 ∧ row = 0) ∨ (w = 39 ∧ row = 1)) (hp : I (o + 6) row = nI p) (hq : I (o + 7) row = nI q) (hq3 : q ≤ 300) (hpq : p < q) (hb : bz v) (X : XRun (I (o + 4)) (I (o + 5)) nn z cu p q 79 (iZ v)) (hz : ∀ k, k < nn → I 321 k = nI (z k)) (hu : I 319 2 = cu) : ∃ I', FO_W_says fu o w I L = some (nI (sv v), I', L) ∧ (∀ o', o' ≠ 320 → I' o' = I o') := by
  have e1 : F_J_min I (nI q) 300 = nI q := by
    unfold F_J_min
    rw [if_neg (show ¬ (300 : Int32) < nI q from nI_nlt (a := 300) hq3 (by omega))]
  have core : ∀ x2 x3 : Int32, ∃ I', LO_W_says_40 fu o fu x2 x3 (nI p) (nI q) 0 0 I L = some (nI (sv v), I', L) ∧ (∀ o', o' ≠ 320 → I' o' = I o') := by
    intro x2 x3
    obtain ⟨c, I', c1, c2, c3, c4, c5⟩ := X fu o x2 x3 q 0 0 I L ho (fun _ _ _ => ⟨rfl, rfl⟩) hz hu (Nat.le_refl _) hq3 (by omega) (by omega)
    obtain ⟨f, hf⟩ : ∃ f, fu = f + 1 + c := ⟨fu - 1 - c, by omega⟩
    refine ⟨I', ?_, c2⟩
    rw [show LO_W_says_40 fu o fu x2 x3 (nI p) (nI q) 0 0 I L = LO_W_says_40 fu o (f + 1 + c) x2 x3 (nI p) (nI q) (nI 0) (nI 0) I L from by rw [← hf]; rfl, c5]
    exact ws_end hb c4 hq3
  rcases hw with ⟨rfl, rfl⟩ | ⟨rfl, rfl⟩
  · unfold FO_W_says
    rw [if_pos rfl, hp, hq, e1]
    exact core _ _
  · unfold FO_W_says
    rw [if_neg (by decide), hp, hq, e1]
    exact core _ _
theorem mcut {fu : Nat} {v : Int} {I : TI} {L : TL} (hb : bz v) : FO_M_cut fu (lZ v) 0 99 I L = some (nI (sv v), I, L) := by
  unfold FO_M_cut
  have b0 : bl 0 := by unfold bl; omega
  have b9 : bl 99 := by unfold bl; omega
  rw [show ((0 : Int32).toInt64) = lZ 0 from by decide, show ((99 : Int32).toInt64) = lZ 99 from by decide]
  by_cases h : 0 ≤ v
  · rw [if_pos ((lc_ge _ _).mpr ((lZ_le b0 hb.q.l).mpr h))]
    by_cases h2 : v ≤ 99
    · rw [if_pos ((lc_le _ _).mpr ((lZ_le hb.q.l b9).mpr h2)), lZ_32, nI_Z, show ((sv v : Nat) : Int) = v from by unfold sv; omega]
    · rw [if_neg (fun q => h2 ((lZ_le hb.q.l b9).mp ((lc_le _ _).mp q))), show sv v = 99 from by unfold sv; omega]; rfl
  · rw [if_neg (fun q => h ((lZ_le b0 hb.q.l).mp ((lc_ge _ _).mp q))), show sv v = 0 from by unfold sv; omega]; rfl
theorem l681 (t k : Nat) : (681 : Int32) * nI t + 1 + 3 * nI k = nI (681 * t + 1 + 3 * k) := by
  rw [show (681 : Int32) = nI 681 from rfl, show (3 : Int32) = nI 3 from rfl, pk_mul, pk_mul, nI_1, nI_add]
theorem l681' (t : Nat) : (681 : Int32) * nI t = nI (681 * t) := pk_mul 681 t
theorem lm_step {fu f t k n : Nat} {so wo : Int32} {J : TI} {K : TL} (ht : t < 4) (hn : n ≤ 24) (hk : k < n) (h0 : J 334 (681 * t) = nI n) (h : ¬ J 334 (681 * t + 1 + 3 * k) = so) : LO_M_says_3 fu (f + 1) (nI t) so wo (nI k) J K = LO_M_says_3 fu f (nI t) so wo (nI (k + 1)) J K := by
  rw [LO_M_says_3, if_neg (show ¬ nI t < 0 from nI_pos (by omega)), l681, l681', if_pos (show (0 : Int32) ≤ nI (681 * t) ∧ nI (681 * t) < 2724 from ib (n := 2724) rfl (by omega) (by omega)), nI_clamp (show 681 * t < 2 ^ 31 by omega), h0, if_neg (show ¬ nI n ≤ nI k from nI_ge hk (by omega)), if_pos (show (0 : Int32) ≤ nI (681 * t + 1 + 3 * k) ∧ nI (681 * t + 1 + 3 * k) < 2724 from ib (n := 2724) rfl (by omega) (by omega)), nI_clamp (show 681 * t + 1 + 3 * k < 2 ^ 31 by omega), if_neg h, nI_1]
theorem lm_find {fu t n : Nat} {so wo : Int32} {J : TI} {K : TL} (ht : t < 4) (hn : n ≤ 24) (h0 : J 334 (681 * t) = nI n) : ∀ (j k f : Nat), k + j ≤ n → (∀ k', k ≤ k' → k' < k + j → ¬ J 334 (681 * t + 1 + 3 * k') = so) → LO_M_says_3 fu (f + j) (nI t) so wo (nI k) J K = LO_M_says_3 fu f (nI t) so wo (nI (k + j)) J K := by
  intro j
  induction j with
  | zero => intro k f _ _; rfl
  | succ j ih =>
    intro k f hk h
    rw [show f + (j + 1) = (f + j) + 1 by omega, lm_step ht hn (by omega) h0 (h k (by omega) (by omega)), ih (k + 1) f (by omega) (fun k' a b => h k' (by omega) (by omega)), show k + 1 + j = k + (j + 1) by omega]
theorem m_none {fu t n : Nat} {so wo : Int32} {J : TI} {K : TL} (hfu : 2000 ≤ fu) (ht : t < 4) (hn : n ≤ 24) (h0 : J 334 (681 * t) = nI n) (h : ∀ k, k < n → ¬ J 334 (681 * t + 1 + 3 * k) = so) : FO_M_says fu (nI t) so wo J K = some (wo, J, K) := by
  obtain ⟨f, hf⟩ : ∃ f, fu = f + 1 + n := ⟨fu - 1 - n, by omega⟩
  have e := lm_find (fu := fu) (so := so) (wo := wo) (K := K) ht hn h0 n 0 (f + 1) (by omega) (fun k' _ b => h k' (by omega))
  rw [← hf] at e
  unfold FO_M_says
  rw [show LO_M_says_3 fu fu (nI t) so wo 0 J K = LO_M_says_3 fu fu (nI t) so wo (nI 0) J K from rfl, e, Nat.zero_add, LO_M_says_3, if_neg (show ¬ nI t < 0 from nI_pos (by omega)), l681, l681', if_pos (show (0 : Int32) ≤ nI (681 * t) ∧ nI (681 * t) < 2724 from ib (n := 2724) rfl (by omega) (by omega)), nI_clamp (show 681 * t < 2 ^ 31 by omega), h0, if_pos (Int32.le_refl _)]
theorem m_says {fu t n k i j nn : Nat} {so wo : Int32} {z : Nat → Nat} {cu : Int32} {v : Int} {J : TI} {K : TL} (hfu : 2000 ≤ fu) (ht : t < 4) (hn : n ≤ 24) (h0 : J 334 (681 * t) = nI n) (hk : k < n) (h1 : J 334 (681 * t + 1 + 3 * k) = so) (h : ∀ k', k' < k → ¬ J 334 (681 * t + 1 + 3 * k') = so) (hi : J 334 (681 * t + 1 + 3 * k + 1) = nI i) (hj : J 334 (681 * t + 1 + 3 * k + 2) = nI j) (hj3 : j ≤ 304) (hij : i < j) (hb : bz v) (M : MRun (fun x => J 334 (681 * t + 73 + x)) nn z cu i j (lZ v)) (hz : ∀ k, k < nn → J 337 k = nI (z k)) (hu : J 332 10 = cu) : ∃ J' K', FO_M_says fu (nI t) so wo J K = some (nI (sv v), J', K') ∧ (∀ o, o ≠ 339 → J' o = J o) ∧ (∀ o, o ≠ 338 → K' o = K o) := by
  obtain ⟨J', K', c1, c2, c3, c4, c5, c6⟩ := M fu (nI t) (nI k) (681 * t + 1 + 3 * k) (681 * t + 73) j 0 0 J K ⟨by omega, by omega, hj3, hj⟩ (fun x _ _ => ⟨rfl, rfl⟩) hz hu (Nat.le_refl _) (by omega) (by omega)
  refine ⟨J', K', ?_, c1, c3⟩
  obtain ⟨f, hf⟩ : ∃ f, fu = f + 1 + k := ⟨fu - 1 - k, by omega⟩
  obtain ⟨g, hg⟩ : ∃ g, fu = g + 1 + (j - i) := ⟨fu - 1 - (j - i), by omega⟩
  have e := lm_find (fu := fu) (so := so) (wo := wo) (K := K) ht hn h0 k 0 (f + 1) (by omega) (fun k' _ b => h k' (by omega))
  rw [← hf] at e
  have es : FO_M_summedUp fu (nI t) (nI k) J K = some (lZ v, J', K') := by
    unfold FO_M_summedUp
    rw [l681, l681', nI_1, if_pos (show (0 : Int32) ≤ nI (681 * t + 1 + 3 * k + 1) ∧ nI (681 * t + 1 + 3 * k + 1) < 2724 from ib (n := 2724) rfl (by omega) (by omega)), nI_clamp (show 681 * t + 1 + 3 * k + 1 < 2 ^ 31 by omega), hi, show nI (681 * t) + 73 = nI (681 * t + 73) from nI_add _ 73]
    rw [show LO_M_summedUp_38 fu fu (nI t) (nI k) (nI (681 * t + 1 + 3 * k)) (nI (681 * t + 73)) 0 0 (nI i) J K = LO_M_summedUp_38 fu (g + 1 + (j - i)) (nI t) (nI k) (nI (681 * t + 1 + 3 * k)) (nI (681 * t + 73)) (nI 0) (nI 0) (nI i) J K from by rw [← hg]; rfl, c6, ms_end (e := j) ⟨by omega, by omega, hj3, by rw [c1 334 (by omega)]; exact hj⟩ (Nat.le_refl _) (by omega), c5]
  unfold FO_M_says
  rw [show LO_M_says_3 fu fu (nI t) so wo 0 J K = LO_M_says_3 fu fu (nI t) so wo (nI 0) J K from rfl, e, Nat.zero_add, LO_M_says_3, if_neg (show ¬ nI t < 0 from nI_pos (by omega)), l681, l681', if_pos (show (0 : Int32) ≤ nI (681 * t) ∧ nI (681 * t) < 2724 from ib (n := 2724) rfl (by omega) (by omega)), nI_clamp (show 681 * t < 2 ^ 31 by omega), h0, if_neg (show ¬ nI n ≤ nI k from nI_ge hk (by omega)), if_pos (show (0 : Int32) ≤ nI (681 * t + 1 + 3 * k) ∧ nI (681 * t + 1 + 3 * k) < 2724 from ib (n := 2724) rfl (by omega) (by omega)), nI_clamp (show 681 * t + 1 + 3 * k < 2 ^ 31 by omega), if_pos h1, es]
  simp only [Option.bind_some]
  rw [mcut hb]
  rfl
/-- the two say alike, by a law or without one -/
theorem law_says {fu t row nn : Nat} {w wo : Int32} {z : Nat → Nat} {I J : TI} {L K : TL} (hfu : 2000 ≤ fu) (ht : t < 4) (hT : TX (fun i => I (274 + 8 * t + i % 8)) (fun i => J 334 (681 * t + i % 681))) (hw : (w = 38 ∧ row = 0 ∧ nn = 8) ∨ (w = 39 ∧ row = 1 ∧ nn = 3)) (hz9 : ∀ k, k < nn → z k ≤ 9999) (hz : ∀ k, k < nn → I 321 k = nI (z k)) (hzJ : ∀ k, k < nn → J 337 k = nI (z k)) (hu : I 319 2 = J 332 10) :
    (I (274 + 8 * t + 6) row = -1 ∧ FO_M_says fu (nI t) (nI row) wo J K = some (wo, J, K)) ∨
    (¬ I (274 + 8 * t + 6) row = -1 ∧ ∃ r I' J' K', r ≤ 99 ∧ FO_W_says fu (274 + 8 * t) w I L = some (nI r, I', L) ∧ (∀ o, o ≠ 320 → I' o = I o) ∧ FO_M_says fu (nI t) (nI row) wo J K = some (nI r, J', K') ∧ (∀ o, o ≠ 339 → J' o = J o) ∧ (∀ o, o ≠ 338 → K' o = K o)) := by
  obtain ⟨n, hn, a0, c0, _, l0, l1⟩ := hT
  have hl : LWR nn row (fun i => I (274 + 8 * t + i % 8)) (fun i => J 334 (681 * t + i % 681)) n := by
    rcases hw with ⟨_, rfl, rfl⟩ | ⟨_, rfl, rfl⟩
    · exact l0
    · exact l1
  have c0' : J 334 (681 * t) = nI n := c0
  have ix : ∀ k, k < n → (1 + 3 * k) % 681 = 1 + 3 * k := fun k hk => Nat.mod_eq_of_lt (by omega)
  rcases hl with ⟨h1, h2⟩ | ⟨p, q, i, j, k, hq, e1, e2, hk, e3, e4, e5, e6, hj, sg⟩
  · refine Or.inl ⟨h1, m_none hfu ht hn c0' (fun k hk => ?_)⟩
    have := h2 k hk
    dsimp only at this
    rw [ix k hk, ← Nat.add_assoc] at this
    exact this
  · have e1' : I (274 + 8 * t + 6) row = nI p := e1
    have e2' : I (274 + 8 * t + 7) row = nI q := e2
    obtain ⟨pq, ij, sg⟩ := sg
    obtain ⟨v, bv, X, M⟩ := sg z (J 332 10) hz9
    have X' : XRun (I (274 + 8 * t + 4)) (I (274 + 8 * t + 5)) nn z (J 332 10) p q 79 (iZ v) := X
    have M' : MRun (fun x => J 334 (681 * t + 73 + x)) nn z (J 332 10) i j (lZ v) := M.cg (fun x hx1 hx2 => by
      show J 334 (681 * t + 73 + x) = J 334 (681 * t + (73 + x) % 681)
      rw [Nat.mod_eq_of_lt (by omega), Nat.add_assoc])
    have e3' : J 334 (681 * t + 1 + 3 * k) = nI row := by
      dsimp only at e3
      rw [ix k hk, ← Nat.add_assoc] at e3; exact e3
    have e5' : J 334 (681 * t + 1 + 3 * k + 1) = nI i := by
      have := e5
      dsimp only at this
      rw [show (2 + 3 * k) % 681 = 2 + 3 * k from Nat.mod_eq_of_lt (by omega)] at this
      rw [show 681 * t + 1 + 3 * k + 1 = 681 * t + (2 + 3 * k) by omega]; exact this
    have e6' : J 334 (681 * t + 1 + 3 * k + 2) = nI j := by
      have := e6
      dsimp only at this
      rw [show (3 + 3 * k) % 681 = 3 + 3 * k from Nat.mod_eq_of_lt (by omega)] at this
      rw [show 681 * t + 1 + 3 * k + 2 = 681 * t + (3 + 3 * k) by omega]; exact this
    obtain ⟨I', r1, r2⟩ := x_says (L := L) hfu (show 274 + 8 * t + 5 < 319 by omega) (w := w) (row := row) (by rcases hw with ⟨a, b, _⟩ | ⟨a, b, _⟩ <;> simp [a, b]) e1' e2' hq pq bv X' hz hu
    obtain ⟨J', K', s1, s2⟩ := m_says (K := K) (so := nI row) (wo := wo) hfu ht hn c0' hk e3' (fun k' hk' => by
      have := e4 k' hk'
      dsimp only at this
      rw [ix k' (by omega), ← Nat.add_assoc] at this
      exact this) e5' e6' hj ij bv M' hzJ rfl
    refine Or.inr ⟨by rw [e1']; exact nI_nm (by omega), sv v, I', J', K', sv_le v, r1, r2, s1, s2⟩
/-- what laws need of the two -/
def LR (I J : TI) : Prop := SR (aN I) (J 332) ∧ ∀ t, t < 4 → nI t < I 1 6 → TX (fun i => I (274 + 8 * t + i % 8)) (fun i => J 334 (681 * t + i % 681))
theorem LR.s {I J : TI} (h : LR I J) : SR (aN I) (J 332) := h.1
theorem RL.lr {I J : TI} (h : RL TX I J) : LR I J := ⟨h.1, h.2.2.2.2.2.2⟩
theorem LR.sc {I J I' J' : TI} (h : LR I J) (a : ScI I I') (b : ScJ J J') : LR I' J' := by
  refine ⟨by rw [b.1 332 (by omega) (by omega)]; exact SR.cg h.1 (fun j hj => a _ (by omega)), fun t ht hl => ?_⟩
  rw [a 1 (by omega)] at hl
  rw [b.1 334 (by omega) (by omega), show (fun i => I' (274 + 8 * t + i % 8)) = (fun i => I (274 + 8 * t + i % 8)) from by funext i; exact a _ (by omega)]
  exact h.2 t ht hl
/-- the text that rules -/
theorem rul {I J : TI} (h : LR I J) : (∃ t : Nat, t < 4 ∧ I 1 7 = nI t ∧ J 332 2 = nI t ∧ isLib I (I 1 7) ∧ TX (fun i => I (274 + 8 * t + i % 8)) (fun i => J 334 (681 * t + i % 681))) ∨ (¬ isLib I (I 1 7) ∧ J 332 2 = -1) := by
  obtain ⟨e, h1, h2⟩ := h.s.ru
  have e : J 332 2 = I 1 7 := e
  have h1 : -1 ≤ I 1 7 := h1
  have h2 : I 1 7 < I 1 6 := h2
  obtain ⟨m, hm, e2⟩ := h.s.tx.2
  have e2 : I 1 6 = nI m := e2
  by_cases c : 0 ≤ I 1 7
  · left
    have h3 := h2
    rw [e2] at h3
    obtain ⟨t, ht, et⟩ := rng (hi := 3) (by omega) c (by
      have : nI m ≤ nI 4 := nI_le hm (by omega)
      have : I 1 7 < nI 4 := Int32.lt_of_lt_of_le h3 this
      have e4 : nI 4 = 4 := rfl
      have e3 : nI 3 = 3 := rfl
      rw [e4] at this
      rw [e3]
      grind)
    have htm : nI t < I 1 6 := by rw [← et]; exact h2
    exact ⟨t, by omega, et, e.trans et, ⟨c, by rw [et]; exact nI_lt (b := 4) (by omega) (by omega), h2⟩, h.2 t (by omega) htm⟩
  · right
    refine ⟨fun z => c z.1, ?_⟩
    rw [e]
    grind
