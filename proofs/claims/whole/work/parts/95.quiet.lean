/-! quiet -/
def Ft (Q : Nat → Nat → Prop) (z : Nat) (w : Nat → Int32) : Prop := ∀ t, t < 13 → (∃ m, m ≤ 12 ∧ LD Q z m t ∧ w t = nI m) ∨ (w t = 1000000 ∧ ∀ m, ¬ Rn Q z m t)
theorem Ft.at {Q : Nat → Nat → Prop} {z d t : Nat} {w : Nat → Int32} (h : Ft Q z w) (ht : t < 13) (hd : d ≤ 12) : w t = nI d ↔ LD Q z d t := by
  rcases h t ht with ⟨m, h1, h2, h3⟩ | ⟨h1, h2⟩
  · rw [h3]
    constructor
    · intro y
      have := (nI_eq (by omega) (by omega)).mp y
      subst this
      exact h2
    · intro y
      rw [h2.un y]
  · rw [h1]
    constructor
    · intro y
      have := (nI_eq (a := 1000000) (by omega) (by omega)).mp y
      omega
    · intro y
      exact absurd y.1 (h2 d)
theorem m_92 {fu l z p m qs : Nat} {x2 x3 x4 x6 : Int32} {rU rD : Nat → Nat} {I J : TI} {kk : Int32 → Int32 → Int32 → Int32 → Int32 → Int32 → TI → TL → Option (Int32 × TI × TL)} (hfu : 2000 ≤ fu) (hR : LR I J) (hl : l < 6) (hU : ∀ p, p ≤ 12 → Hd fu l p 1 I J (rU p)) (hD : ∀ p, p ≤ 12 → Hd fu l p 0 I J (rD p)) (hp : p < 13) (hm : LD (Qs rU rD) z (m + 1) p) (hq : qs < 13) (q1 : Qs rU rD p qs) (q2 : LD (Qs rU rD) z m qs) (q3 : ∀ q', q' < qs → ¬ (Qs rU rD p q' ∧ LD (Qs rU rD) z m q')) : ∀ (j q f : Nat) (J' : TI) (K : TL), q + j = qs → j < f → ScJ J J' → Ft (Qs rU rD) z (J' 341) → ∃ J'' K', LO_M_quiet_92 fu kk f (nI l) x2 x3 x4 (nI p) x6 (nI q) J' K = kk (nI l) x2 x3 x4 (nI qs) (x6 + 1) J'' K' ∧ ScJ J J'' ∧ Ft (Qs rU rD) z (J'' 341) := by
  have m12 := hm.le12 hp
  have bp : (0 : Int32) ≤ nI p ∧ nI p < 13 := ib (n := 13) rfl (by omega) (by omega)
  have st : ∀ (q f : Nat) (J' : TI) (K : TL), q < 13 → ScJ J J' → Ft (Qs rU rD) z (J' 341) → ∃ J'' K', ScJ J J'' ∧ Ft (Qs rU rD) z (J'' 341) ∧ ((LO_M_quiet_92 fu kk (f + 1) (nI l) x2 x3 x4 (nI p) x6 (nI q) J' K = kk (nI l) x2 x3 x4 (nI q) (x6 + 1) J'' K' ∧ Qs rU rD p q ∧ LD (Qs rU rD) z m q) ∨ (LO_M_quiet_92 fu kk (f + 1) (nI l) x2 x3 x4 (nI p) x6 (nI q) J' K = LO_M_quiet_92 fu kk f (nI l) x2 x3 x4 (nI p) x6 (nI (q + 1)) J'' K' ∧ ¬ (Qs rU rD p q ∧ LD (Qs rU rD) z m q))) := by
    intro q f J' K hq hs hf
    have bq : (0 : Int32) ≤ nI q ∧ nI q < 13 := ib (n := 13) rfl (by omega) (by omega)
    have ep : J' 341 p = nI (m + 1) := (hf.at hp (by omega)).mpr hm
    rw [LO_M_quiet_92, if_pos bq, if_pos bp, nI_clamp (show q < 2 ^ 31 by omega), nI_clamp (show p < 2 ^ 31 by omega), ep, nI_pred, show nI q + 1 = nI (q + 1) from nI_1 ..]
    by_cases c : J' 341 q = nI m
    · have hlq := (hf.at hq (by omega)).mp c
      obtain ⟨J2, K2, s2, g⟩ := m_step (K := K) (a := p) (b := q) hfu hR hl hU hD hp hq hs
      refine ⟨J2, K2, hs.tr s2.j, by rw [s2 341 (by omega) (by omega)]; exact hf, ?_⟩
      rw [if_pos c]
      rcases g with ⟨g1, g2⟩ | ⟨g1, g2⟩
      · rw [g1]
        simp only [Option.bind_some]
        rw [if_neg i10]
        exact Or.inl ⟨rfl, g2, hlq⟩
      · rw [g1]
        simp only [Option.bind_some]
        rw [if_pos trivial]
        exact Or.inr ⟨rfl, fun y => g2 y.1⟩
    · refine ⟨J', K, hs, hf, Or.inr ⟨?_, fun y => c ((hf.at hq (by omega)).mpr y.2)⟩⟩
      rw [if_neg c]
  intro j
  induction j with
  | zero =>
    intro q f J' K hj hf hs hft
    obtain ⟨f, rfl⟩ : ∃ z, f = z + 1 := ⟨f - 1, by omega⟩
    have : q = qs := by omega
    subst this
    obtain ⟨J2, K2, s1, s2, g⟩ := st q f J' K hq hs hft
    rcases g with ⟨g1, _⟩ | ⟨_, g2⟩
    · exact ⟨J2, K2, g1, s1, s2⟩
    · exact absurd ⟨q1, q2⟩ g2
  | succ j ih =>
    intro q f J' K hj hf hs hft
    obtain ⟨f, rfl⟩ : ∃ z, f = z + 1 := ⟨f - 1, by omega⟩
    obtain ⟨J2, K2, s1, s2, g⟩ := st q f J' K (by omega) hs hft
    rcases g with ⟨_, g2⟩ | ⟨g1, _⟩
    · exact absurd g2 (q3 q (by omega))
    · obtain ⟨J3, K3, r1, r2, r3⟩ := ih (q + 1) f J2 K2 (by omega) (by omega) s1 s2
      exact ⟨J3, K3, g1.trans r1, r2, r3⟩
theorem lk_qt {fu l z w : Nat} {x2 x3 x7 : Int32} {rU rD : Nat → Nat} {I J I1 : TI} {L : TL} (hfu : 2000 ≤ fu) (hR : LR I J) (hl : l < 6) (hU : ∀ p, p ≤ 12 → Hd fu l p 1 I J (rU p)) (hD : ∀ p, p ≤ 12 → Hd fu l p 0 I J (rD p)) (hI : ∀ t, t < 13 → Stt (Qs rU rD) z (I1 328) 12 t) (hw : w ≤ 12) : ∀ (j k p m f g : Nat) (J' : TI) (K : TL), k + j = w + 1 → j < f → j < g → p < 13 → LD (Qs rU rD) z (m + j) p → ScJ J J' → Ft (Qs rU rD) z (J' 341) → ∃ r J'' K', LO_X_quiet_86 fu f (nI l) x2 x3 (nI w) (hst rU 12) (hst rD 12) x7 (nI p) (nI k) I1 L = some (r, I1, L) ∧ LO_M_quiet_82 fu g (nI l) x2 x3 (nI w) (nI p) (nI k) J' K = some (r, J'', K') ∧ ScJ J J'' := by
  have u0 : rU 0 = 0 := (hU 0 (by omega)).z
  have d0 : rD 0 = 0 := (hD 0 (by omega)).z
  intro j
  induction j with
  | zero =>
    intro k p m f g J' K hk hf hg hp hm hs hft
    obtain ⟨f, rfl⟩ : ∃ z, f = z + 1 := ⟨f - 1, by omega⟩
    obtain ⟨g, rfl⟩ : ∃ z, g = z + 1 := ⟨g - 1, by omega⟩
    refine ⟨nI p, J', K, ?_, ?_, hs⟩
    · rw [LO_X_quiet_86, if_pos (nI_lt (by omega) (by omega)), if_neg (show ¬ nI w = -1 from nI_nm (by omega))]
    · rw [LO_M_quiet_82, if_pos (nI_lt (by omega) (by omega))]
  | succ j ih =>
    intro k p m f g J' K hk hf hg hp hm hs hft
    obtain ⟨f, rfl⟩ : ∃ z, f = z + 1 := ⟨f - 1, by omega⟩
    obtain ⟨g, rfl⟩ : ∃ z, g = z + 1 := ⟨g - 1, by omega⟩
    obtain ⟨q, q1, q2, q3, q4, q5⟩ := x_nextq (fu := fu) (p := p) (m := m + j) (I := I1) (L := L) hfu hp u0 d0 hI hm
    obtain ⟨J2, K2, a1, a2, a3⟩ := m_92 (fu := fu) (l := l) (z := z) (p := p) (m := m + j) (qs := q) (x2 := x2) (x3 := x3) (x4 := nI w) (x6 := nI k) (kk := fun x1 x2 x3 x4 x5 x6 I L => LO_M_quiet_82 fu g x1 x2 x3 x4 x5 x6 I L) hfu hR hl hU hD hp hm q1 q2 q3 q4 q 0 fu J' K (by omega) (by omega) hs hft
    obtain ⟨r, J3, K3, r1, r2, r3⟩ := ih (k + 1) q m f g J2 K2 (by omega) (by omega) (by omega) q1 q3 a2 a3
    have nl : ¬ nI w < nI k := nI_nlt (by omega) (by omega)
    refine ⟨r, J3, K3, ?_, ?_, r3⟩
    · rw [LO_X_quiet_86, if_neg nl, q5]
      simp only [Option.bind_some]
      rw [show nI k + 1 = nI (k + 1) from nI_1 ..]
      exact r1
    · rw [LO_M_quiet_82, if_neg nl]
      refine Eq.trans a1 ?_
      rw [show nI k + 1 = nI (k + 1) from nI_1 ..]
      exact r2
theorem op_quiet {fu : Nat} (hfu : 2000 ≤ fu) (p q w v : Int32) : OpR TX (fun I L => FO_X_quiet fu p q w v I L) (fun I L => FO_M_quiet fu p q w v I L) := by
  refine OpR_s (fun I J L K hR => ?_)
  unfold FO_X_quiet FO_M_quiet
  rcases lodg hR.s p with ⟨l, n, hk, hn, rfl, e1, e2, f1, f2⟩ | ⟨f1, f2⟩
  · rw [f1, f2, if_neg i10, if_neg i10]
    by_cases c1 : 0 ≤ q ∧ q ≤ 12
    · by_cases c2 : 0 ≤ w ∧ w ≤ 12
      · obtain ⟨a, ha, rfl⟩ := rng (hi := 12) (by omega) c1.1 c1.2
        obtain ⟨z, hz, rfl⟩ := rng (hi := 12) (by omega) c2.1 c2.2
        rw [if_pos c1, if_pos c1, if_pos c2, if_pos c2]
        obtain ⟨rU, hU⟩ := heards (fu := fu) (l := l) 1 hfu hR.lr (by omega)
        obtain ⟨rD, hD⟩ := heards (fu := fu) (l := l) 0 hfu hR.lr (by omega)
        have u0 : rU 0 = 0 := (hU 0 (by omega)).z
        have d0 : rD 0 = 0 := (hD 0 (by omega)).z
        obtain ⟨J1, K1, m1, m2, m3⟩ := m_far (fu := fu) (l := l) (z := z) (K := K) hfu hR.lr (by omega) hU hD (by omega)
        have ba : (0 : Int32) ≤ nI a ∧ nI a < 13 := ib (n := 13) rfl (by omega) (by omega)
        rw [m1]
        simp only [Option.bind_some]
        rw [if_pos ba, if_pos ba, if_pos ba, nI_clamp (show a < 2 ^ 31 by omega)]
        by_cases c3 : -1 ≤ v
        · obtain ⟨I1, x1, x2⟩ := x_heardS (fu := fu) (L := L) hfu hU ScI.rf
          obtain ⟨I2, x3, x4⟩ := x_heardS (fu := fu) (L := L) hfu hD x2
          obtain ⟨I3, x5, x6, x7⟩ := x_count (fu := fu) (z := z) (rU := rU) (rD := rD) (I := I2) (L := L) hfu (by omega) u0 d0
          have s3 : ScI I I3 := x4.tr (ScI.one (c := 328) (by omega) x7)
          rw [if_pos c3, x1]
          simp only [Option.bind_some]
          rw [x3]
          simp only [Option.bind_some]
          rw [x5]
          simp only [Option.bind_some]
          rw [if_pos ba]
          rcases m3 a (by omega) with ⟨m, g1, g2, g3⟩ | ⟨g1, g2⟩
          · have ea : I3 328 a = nI m := ((x6 a (by omega)).at (by omega) g1).mpr g2
            rw [ea, g3, if_neg (show ¬ nI m = -1 from nI_nm (by omega)), if_neg (show ¬ nI m = 1000000 from fun y => by have := (nI_eq (b := 1000000) (by omega) (by omega)).mp y; omega)]
            by_cases cv : v = -1
            · subst cv
              obtain ⟨f, hf⟩ : ∃ f, fu = f + 1 := ⟨fu - 1, by omega⟩
              refine ⟨nI m, I3, L, J1, K1, ?_, ?_, s3, m2⟩
              · rw [if_pos (Int32.lt_of_lt_of_le (show (-1 : Int32) < 0 by decide) (nI_pos' (by omega)))]
                rw [show LO_X_quiet_86 fu fu (nI l) (nI a) (nI z) (-1) (hst rU 12) (hst rD 12) (nI m) (nI a) 0 I3 L = LO_X_quiet_86 fu (f + 1) (nI l) (nI a) (nI z) (-1) (hst rU 12) (hst rD 12) (nI m) (nI a) 0 I3 L from by rw [← hf], LO_X_quiet_86, if_pos (by decide), if_pos rfl]
              · rw [if_pos, if_pos rfl]
                refine ⟨by decide, ?_⟩
                have : m = 0 ∨ ∃ m', m = m' + 1 := by
                  rcases Nat.eq_zero_or_pos m with h | h
                  · exact Or.inl h
                  · exact Or.inr ⟨m - 1, by omega⟩
                rcases this with rfl | ⟨m', rfl⟩
                · decide
                · rw [nI_pred]
                  exact Int32.le_trans (by decide) (nI_pos' (n := m') (by omega))
            · have v0 : 0 ≤ v := by grind
              by_cases c4 : v < nI m
              · have c12 : nI m ≤ nI 12 := nI_le g1 (by omega)
                obtain ⟨y, hy, rfl⟩ := rng (hi := 12) (by omega) v0 (Int32.le_trans (Int32.le_of_lt c4) c12)
                have ym : y < m := by
                  by_cases h : y < m
                  · exact h
                  · exact absurd c4 (nI_nlt (by omega) (by omega))
                obtain ⟨m', rfl⟩ : ∃ m', m = m' + (y + 1) := ⟨m - (y + 1), by omega⟩
                obtain ⟨r, J2, K2, r1, r2, r3⟩ := lk_qt (fu := fu) (l := l) (z := z) (w := y) (x2 := nI a) (x3 := nI z) (x7 := nI (m' + (y + 1))) (I1 := I3) (L := L) hfu hR.lr (by omega) hU hD x6 hy (y + 1) 0 a m' fu fu J1 K1 (by omega) (by omega) (by omega) (by omega) g2 m2 m3
                refine ⟨r, I3, L, J2, K2, ?_, ?_, s3, r3⟩
                · rw [if_pos c4]
                  exact r1
                · rw [if_pos ⟨c3, by rw [show m' + (y + 1) = m' + y + 1 by omega, nI_pred]; exact nI_le (by omega) (by omega)⟩, if_neg cv]
                  exact r2
              · refine ⟨-2, I3, L, J1, K1, ?_, ?_, s3, m2⟩
                · rw [if_neg c4]
                · rw [if_neg (fun y => ?_)]
                  have y2 := y.2
                  have h1 := Int32.not_lt.mp c4
                  rcases Nat.eq_zero_or_pos m with h | h
                  · rw [h] at y2
                    exact absurd (Int32.le_trans v0 y2) (by decide)
                  · obtain ⟨m', rfl⟩ : ∃ m', m = m' + 1 := ⟨m - 1, by omega⟩
                    rw [nI_pred] at y2
                    exact absurd (Int32.le_trans h1 y2) (nI_ge (by omega) (by omega))
          · have ea : I3 328 a = -1 := by
              rcases x6 a (by omega) with ⟨m, h1, h2, h3⟩ | ⟨h1, h2⟩
              · exact absurd h2.1 (g2 m)
              · exact h1
            rw [ea, g1, if_pos rfl, if_pos rfl]
            exact ⟨-2, I3, L, J1, K1, rfl, rfl, s3, m2⟩
        · rw [if_neg c3, if_neg (show ¬ ((-1 : Int32) ≤ v ∧ v ≤ J1 341 a - 1) from fun y => c3 y.1)]
          refine ⟨-2, I, L, J1, K1, rfl, ?_, ScI.rf, m2⟩
          split <;> rfl
      · rw [if_pos c1, if_pos c1, if_neg c2, if_neg c2]
        exact ⟨-2, I, L, J, K, rfl, rfl, ScI.rf, ScJ.rf⟩
    · rw [if_neg c1, if_neg c1]
      exact ⟨-2, I, L, J, K, rfl, rfl, ScI.rf, ScJ.rf⟩
  · rw [f1, f2, if_pos rfl, if_pos rfl]
    exact ⟨-2, I, L, J, K, rfl, rfl, ScI.rf, ScJ.rf⟩
