/-! whose text is it -/
theorem wh0 {fu m t : Nat} {x1 : Int32} {J : TI} {K : TL} {kk : Int32 → Int32 → TI → TL → Option (Int32 × TI × TL)} (hm : m ≤ 8) (e6 : J 332 6 = nI m) : ∀ (j k g : Nat), k + j = m → j < g → LO_M_whose_20 fu kk g x1 (nI t) 0 (nI (77 + 3 * k)) J K = kk (x1 ||| 0) (nI (t + 1)) J K := by
  have g1 : (77 : Int32) + 3 * nI m = nI (77 + 3 * m) := by rw [show (3 : Int32) = nI 3 from rfl, pk_mul]; exact nI_add 77 _
  intro j
  induction j with
  | zero =>
    intro k g hk hg
    obtain ⟨g, rfl⟩ : ∃ z, g = z + 1 := ⟨g - 1, by omega⟩
    rw [LO_M_whose_20, e6, g1, if_pos (nI_le (by omega) (by omega)), if_pos rfl, nI_1]
  | succ j ih =>
    intro k g hk hg
    obtain ⟨g, rfl⟩ : ∃ z, g = z + 1 := ⟨g - 1, by omega⟩
    rw [LO_M_whose_20, e6, g1, if_neg (show ¬ nI (77 + 3 * m) ≤ nI (77 + 3 * k) from nI_ge (by omega) (by omega)), if_pos rfl, show nI (77 + 3 * k) + 3 = nI (77 + 3 * (k + 1)) from (nI_add _ 3).trans (by congr 1)]
    exact ih (k + 1) g (by omega) (by omega)
theorem x_lod {n l : Nat} {I : TI} (hn : n ≤ 6) (e : F_X_tenants I = nI n) (h : l < n) : F_X_isLodger I (nI l) = 1 := by
  unfold F_X_isLodger
  rw [e, if_neg (nI_pos (by omega)), if_neg (nI_ge (by omega) (by omega))]
theorem lk_said {fu t m : Nat} {x1 : Int32} {I J : TI} {L : TL} {kk : Int32 → Int32 → TI → TL → Option (Int32 × TI × TL)} (hfu : 2000 ≤ fu) (hR : LR I J) (ht : t < 4) (hT : nI t < I 1 6) (hm : m ≤ 8) (e16 : I 1 16 = nI m) (e6 : J 332 6 = nI m) : ∀ (j k f g : Nat) (I' J' : TI) (K : TL), k + j = m → j < f → j < g → ScI I I' → ScJ J J' → ∃ z I'' J'' K', (z = 0 ∨ z = 1) ∧ LO_X_agreesWithSaid_o_2 fu (274 + 8 * t) f (nI k) I' L = some (z, I'', L) ∧ LO_M_whose_20 fu kk g x1 (nI t) 1 (nI (77 + 3 * k)) J' K = kk (if z = 0 then x1 else x1 ||| ((1 : Int32) <<< (nI t &&& 31))) (nI (t + 1)) J'' K' ∧ ScI I I'' ∧ ScJ J J'' := by
  have g1 : (77 : Int32) + 3 * nI m = nI (77 + 3 * m) := by rw [show (3 : Int32) = nI 3 from rfl, pk_mul]; exact nI_add 77 _
  obtain ⟨n, hn, t1, t2, t3⟩ := ten hR.s
  intro j
  induction j with
  | zero =>
    intro k f g I' J' K hk hf hg sa sb
    obtain ⟨f, rfl⟩ : ∃ z, f = z + 1 := ⟨f - 1, by omega⟩
    obtain ⟨g, rfl⟩ : ∃ z, g = z + 1 := ⟨g - 1, by omega⟩
    have : k = m := by omega
    subst this
    refine ⟨1, I', J', K, Or.inr rfl, ?_, ?_, sa, sb⟩
    · rw [LO_X_agreesWithSaid_o_2, sa 1 (by omega), e16, if_pos (Int32.le_refl _)]
    · rw [LO_M_whose_20, sb.1 332 (by omega) (by omega), e6, g1, if_pos (Int32.le_refl _), if_neg i10, if_neg i10, nI_1]
  | succ j ih =>
    intro k f g I' J' K hk hf hg sa sb
    obtain ⟨f, rfl⟩ : ∃ z, f = z + 1 := ⟨f - 1, by omega⟩
    obtain ⟨g, rfl⟩ : ∃ z, g = z + 1 := ⟨g - 1, by omega⟩
    have hd := hR.s.sd k (by omega) (show nI k < I 1 16 by rw [e16]; exact nI_lt (by omega) (by omega))
    obtain ⟨⟨c0, c1, c2⟩, p0, p1, q1, ⟨st, hst, est⟩, ⟨v, hv, ev⟩⟩ := hd
    have c0 : J 332 (77 + 3 * k) = I 136 (3 * k) := c0
    have c1 : J 332 (78 + 3 * k) = I 136 (3 * k + 1) := c1
    have c2 : J 332 (79 + 3 * k) = I 136 (3 * k + 2) := c2
    have p0 : 0 ≤ I 136 (3 * k) := p0
    have p1 : I 136 (3 * k) < I 1 2 := p1
    have est : I 136 (3 * k + 1) = nI st := est
    obtain ⟨l, hl, el⟩ : ∃ l : Nat, l < n ∧ I 136 (3 * k) = nI l := by
      rw [t1] at p1
      rcases pk_ix (I 136 (3 * k)) (n := n) (by omega) with h | h | ⟨l, h1, h2⟩
      · exact absurd h (Int32.not_lt.mpr p0)
      · exact absurd p1 (Int32.not_lt.mpr h)
      · exact ⟨l, h1, h2⟩
    have R' : LR I' J' := hR.sc sa sb
    obtain ⟨n', hn', u1, u2, u3⟩ := ten R'.s
    have en : n' = n := by
      have : nI n' = nI n := by rw [← u1, sa 1 (by omega), t1]
      exact (nI_eq (by omega) (by omega)).mp this
    obtain ⟨r, I2, J2, K2, hr, a1, a2, a3, a4⟩ := law_ticks (fu := fu) (t := t) (l := l) (st := st) (up := 1) (L := L) (K := K) hfu R' ht (R'.2 t ht (by rw [sa 1 (by omega)]; exact hT)) (by omega) hst
    have sI2 := sa.tr a3
    have sJ2 := sb.tr a4.1.j
    have m3 : nI k * 3 = nI (3 * k) := by rw [show (3 : Int32) = nI 3 from rfl, pk_mul, Nat.mul_comm]
    have X : LO_X_agreesWithSaid_o_2 fu (274 + 8 * t) (f + 1) (nI k) I' L = (if nI r = I 136 (3 * k + 2) then LO_X_agreesWithSaid_o_2 fu (274 + 8 * t) f (nI (k + 1)) I2 L else some (0, I2, L)) := by
      rw [LO_X_agreesWithSaid_o_2, sa 1 (by omega), e16, if_neg (show ¬ nI m ≤ nI k from nI_ge (by omega) (by omega)), if_neg (show ¬ (8 : Int32) ≤ nI k from nI_ge (b := 8) (by omega) (by omega)), m3, if_pos (show (0 : Int32) ≤ nI (3 * k) ∧ nI (3 * k) < 24 from ib (n := 24) rfl (by omega) (by omega)), nI_clamp (show 3 * k < 2 ^ 31 by omega), sa 136 (by omega), el, x_lod hn' u3 (by omega), if_neg i10, show nI (3 * k) + 1 = nI (3 * k + 1) from nI_1 .., if_pos (show (0 : Int32) ≤ nI (3 * k + 1) ∧ nI (3 * k + 1) < 24 from ib (n := 24) rfl (by omega) (by omega)), nI_clamp (show 3 * k + 1 < 2 ^ 31 by omega), est, a1]
      simp only [Option.bind_some]
      rw [show nI (3 * k) + 2 = nI (3 * k + 2) from nI_add _ 2, if_pos (show (0 : Int32) ≤ nI (3 * k + 2) ∧ nI (3 * k + 2) < 24 from ib (n := 24) rfl (by omega) (by omega)), nI_clamp (show 3 * k + 2 < 2 ^ 31 by omega), sI2 136 (by omega), nI_1]
    have M : LO_M_whose_20 fu kk (g + 1) x1 (nI t) 1 (nI (77 + 3 * k)) J' K = (if nI r = I 136 (3 * k + 2) then LO_M_whose_20 fu kk g x1 (nI t) 1 (nI (77 + 3 * (k + 1))) J2 K2 else LO_M_whose_20 fu kk g x1 (nI t) 0 (nI (77 + 3 * (k + 1))) J2 K2) := by
      rw [LO_M_whose_20, sb.1 332 (by omega) (by omega), e6, g1, if_neg (show ¬ nI (77 + 3 * m) ≤ nI (77 + 3 * k) from nI_ge (by omega) (by omega)), if_neg i10, if_pos (show (0 : Int32) ≤ nI (77 + 3 * k) ∧ nI (77 + 3 * k) < 1541 from ib (n := 1541) rfl (by omega) (by omega)), show nI (77 + 3 * k) + 1 = nI (78 + 3 * k) from (nI_1 ..).trans (by congr 1; omega), if_pos (show (0 : Int32) ≤ nI (78 + 3 * k) ∧ nI (78 + 3 * k) < 1541 from ib (n := 1541) rfl (by omega) (by omega)), nI_clamp (show 77 + 3 * k < 2 ^ 31 by omega), nI_clamp (show 78 + 3 * k < 2 ^ 31 by omega), c0, c1, el, est, a2]
      simp only [Option.bind_some]
      rw [show nI (77 + 3 * k) + 2 = nI (79 + 3 * k) from (nI_add _ 2).trans (by congr 1; omega), if_pos (show (0 : Int32) ≤ nI (79 + 3 * k) ∧ nI (79 + 3 * k) < 1541 from ib (n := 1541) rfl (by omega) (by omega)), nI_clamp (show 79 + 3 * k < 2 ^ 31 by omega), sJ2.1 332 (by omega) (by omega), c2, show nI (77 + 3 * k) + 3 = nI (77 + 3 * (k + 1)) from (nI_add _ 3).trans (by congr 1)]
    by_cases c : nI r = I 136 (3 * k + 2)
    · obtain ⟨z, I3, J3, K3, hz, b1, b2, b3, b4⟩ := ih (k + 1) f g I2 J2 K2 (by omega) (by omega) (by omega) sI2 sJ2
      refine ⟨z, I3, J3, K3, hz, ?_, ?_, b3, b4⟩
      · rw [X, if_pos c]; exact b1
      · rw [M, if_pos c]; exact b2
    · refine ⟨0, I2, J2, K2, Or.inl rfl, ?_, ?_, sI2, sJ2⟩
      · rw [X, if_neg c]
      · rw [M, if_neg c, if_pos rfl, wh0 (m := m) hm (by rw [sJ2.1 332 (by omega) (by omega)]; exact e6) j (k + 1) g (by omega) (by omega), or0]
theorem lk_whose {fu n m : Nat} {I J : TI} (hfu : 2000 ≤ fu) (hR : LR I J) (hn : n ≤ 4) (en : I 1 6 = nI n) (en' : J 332 1 = nI n) (hm : m ≤ 8) (e16 : I 1 16 = nI m) (e6 : J 332 6 = nI m) : ∀ (j t f g : Nat) (x1 : Int32) (I' J' : TI) (L K : TL), t + j = n → j < f → j < g → ScI I I' → ScJ J J' → ∃ r I'' J'' K', LO_X_whose_4 fu f x1 (nI t) I' L = some (r, I'', L) ∧ LO_M_whose_4 fu g x1 (nI t) J' K = some (r, J'', K') ∧ ScI I I'' ∧ ScJ J J'' := by
  intro j
  induction j with
  | zero =>
    intro t f g x1 I' J' L K hk hf hg sa sb
    obtain ⟨f, rfl⟩ : ∃ z, f = z + 1 := ⟨f - 1, by omega⟩
    obtain ⟨g, rfl⟩ : ∃ z, g = z + 1 := ⟨g - 1, by omega⟩
    have : t = n := by omega
    subst this
    refine ⟨x1, I', J', K, ?_, ?_, sa, sb⟩
    · rw [LO_X_whose_4, if_pos (show I' 1 6 ≤ nI t by rw [sa 1 (by omega), en]; exact Int32.le_refl _)]
    · rw [LO_M_whose_4, sb.1 332 (by omega) (by omega), en', if_pos (Int32.le_refl _)]
  | succ j ih =>
    intro t f g x1 I' J' L K hk hf hg sa sb
    obtain ⟨f, rfl⟩ : ∃ z, f = z + 1 := ⟨f - 1, by omega⟩
    obtain ⟨g, rfl⟩ : ∃ z, g = z + 1 := ⟨g - 1, by omega⟩
    have nt : ¬ nI n ≤ nI t := nI_ge (by omega) (by omega)
    have hlib : isLib I' (nI t) := by
      unfold isLib
      rw [sa 1 (by omega), en]
      exact ⟨nI_pos' (by omega), nI_lt (b := 4) (by omega) (by omega), nI_lt (by omega) (by omega)⟩
    obtain ⟨z, I1, J1, K1, hz, b1, b2, b3, b4⟩ := lk_said (fu := fu) (t := t) (m := m) (x1 := x1) (L := L) (kk := fun x1 x2 I L => LO_M_whose_4 fu g x1 x2 I L) hfu hR (by omega) (by rw [en]; exact nI_lt (by omega) (by omega)) hm e16 e6 m 0 fu fu I' J' K (by omega) (by omega) (by omega) sa sb
    obtain ⟨r, I2, J2, K2, r1, r2, r3, r4⟩ := ih (t + 1) f g (if z = 0 then x1 else x1 ||| ((1 : Int32) <<< (nI t &&& 31))) I1 J1 L K1 (by omega) (by omega) (by omega) b3 b4
    refine ⟨r, I2, J2, K2, ?_, ?_, r3, r4⟩
    · rw [LO_X_whose_4, if_neg (show ¬ I' 1 6 ≤ nI t by rw [sa 1 (by omega), en]; exact nt), if_pos hlib, nI_clamp (show t < 2 ^ 31 by omega)]
      unfold FO_X_agreesWithSaid_o
      refine Eq.trans (congrArg (fun z => Option.bind z _) b1) ?_
      simp only [Option.bind_some]
      rw [nI_1, ← r1]
      by_cases c : z = 0
      · rw [if_pos c, if_pos c]
      · rw [if_neg c, if_neg c]
    · rw [LO_M_whose_4, sb.1 332 (by omega) (by omega), en', if_neg nt]
      exact b2.trans r2
theorem op_whose {fu : Nat} (hfu : 2000 ≤ fu) : OpR TX (fun I L => FO_X_whose fu  I L) (fun I L => FO_M_whose fu  I L) := by
  refine OpR_s (fun I J L K hR => ?_)
  obtain ⟨e1, n, hn, e2⟩ := hR.s.tx
  obtain ⟨f1, m, hm, f2⟩ := hR.s.sa
  have e2 : I 1 6 = nI n := e2
  have f2 : I 1 16 = nI m := f2
  obtain ⟨r, I', J', K', r1, r2, r3, r4⟩ := lk_whose (fu := fu) hfu hR.lr hn e2 (e1.trans e2) hm f2 (f1.trans f2) n 0 fu fu 0 I J L K (by omega) (by omega) (by omega) ScI.rf ScJ.rf
  exact ⟨r, I', L, J', K', r1, r2, r3, r4⟩
