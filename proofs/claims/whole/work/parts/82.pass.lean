/-! an hour passes; a tread; the hours -/
theorem x_can0 {fu : Nat} {p p1 : Int32} {I : TI} {L : TL} (h : F_X_isLodger I p = 0) : FO_X_canGo fu p p1 I L = some (0, I, L) := by
  unfold FO_X_canGo
  rw [if_pos h]
theorem m_can0 {fu : Nat} {p up n : Int32} {J : TI} {K : TL} (h : F_M_isLodger J p = 0) : FO_M_canTread fu p up n J K = some (0, J, K) := by
  unfold FO_M_canTread
  rw [if_pos h]
/-- one may go on both sides or on none, and then goes on both -/
theorem can2 {fu : Nat} {p p1 up n : Int32} {I J : TI} {L K : TL} (s : SR (aN I) (J 332)) (hn : 1 ≤ n ∧ n ≤ 3) (hu : (p1 = -n ∧ up = 0) ∨ (p1 = n ∧ up = 1)) :
    (FO_X_canGo fu p p1 I L = some (0, I, L) ∧ FO_M_canTread fu p up n J K = some (0, J, K)) ∨ (FO_X_canGo fu p p1 I L = some (1, I, L) ∧ FO_M_canTread fu p up n J K = some (1, J, K) ∧ ∃ k q : Nat, k < 6 ∧ q ≤ 12 ∧ p = nI k ∧ I 3 k + p1 = nI q ∧ ((p1 ≤ 0 ∧ up = 0 ∧ I 3 k - n = nI q) ∨ (¬ p1 ≤ 0 ∧ up = 1 ∧ I 3 k + n = nI q))) := by
  rcases lodg s p with ⟨k, m, hk, hm, rfl, e1, e2, f1, f2⟩ | ⟨f1, f2⟩
  · have hk6 : k < 6 := by omega
    have b6 : (0 : Int32) ≤ nI k ∧ nI k < 6 := ib (n := 6) rfl hk6 (by omega)
    have jp : J 332 (12 + 2 * k) = I 3 k := s.f_pl k hk6
    obtain ⟨j, hj1, hj3, rfl⟩ := rng1 (hi := 3) (by omega) hn.1 hn.2
    rcases hu with ⟨u1, u2⟩ | ⟨u1, u2⟩
    · have e : I 3 k + p1 = I 3 k - nI j := by rw [u1, Int32.sub_eq_add_neg]
      have hp0 : p1 ≤ 0 := by
        rw [u1]
        have : j = 1 ∨ j = 2 ∨ j = 3 := by omega
        rcases this with rfl | rfl | rfl <;> decide
      unfold FO_X_canGo FO_M_canTread
      rw [f1, f2, if_neg i10, if_neg i10, if_pos b6, if_pos hn, if_pos u2, m_place hk6, nI_clamp (show k < 2 ^ 31 by omega), e]
      simp only [Option.bind_some]
      rw [jp]
      by_cases c : 0 ≤ I 3 k - nI j ∧ I 3 k - nI j ≤ 12
      · obtain ⟨q, hq, eq⟩ := rng (hi := 12) (by omega) c.1 c.2
        rw [if_pos c, if_pos c]
        exact Or.inr ⟨rfl, rfl, k, q, hk6, hq, rfl, e.trans eq, Or.inl ⟨hp0, u2, eq⟩⟩
      · rw [if_neg c, if_neg c]
        exact Or.inl ⟨rfl, rfl⟩
    · subst u1
      have hp0 : ¬ nI j ≤ 0 := nI_ge (a := 0) (by omega) (by omega)
      unfold FO_X_canGo FO_M_canTread
      rw [f1, f2, if_neg i10, if_neg i10, if_pos b6, if_pos hn, if_neg (show ¬ up = 0 by rw [u2]; exact i10), m_place hk6, nI_clamp (show k < 2 ^ 31 by omega)]
      simp only [Option.bind_some]
      rw [jp]
      by_cases c : 0 ≤ I 3 k + nI j ∧ I 3 k + nI j ≤ 12
      · obtain ⟨q, hq, eq⟩ := rng (hi := 12) (by omega) c.1 c.2
        rw [if_pos c, if_pos c]
        exact Or.inr ⟨rfl, rfl, k, q, hk6, hq, rfl, eq, Or.inr ⟨hp0, u2, eq⟩⟩
      · rw [if_neg c, if_neg c]
        exact Or.inl ⟨rfl, rfl⟩
  · exact Or.inl ⟨x_can0 f1, m_can0 f2⟩
theorem tread2 {fu : Nat} (hfu : 2000 ≤ fu) (p b n : Int32) (hb : b = 0 ∨ b = 1) {I J : TI} {L K : TL} (hR : RL TX I J) : ∃ r I' L' J' K', FO_X_tread fu p b n I L = some (r, I', L') ∧ FO_M_tread fu p b n J K = some (r, J', K') ∧ SR (aN I') (J' 332) ∧ EvI I I' ∧ EvJ J J' ∧ (r = -1 ∨ 0 ≤ r) := by
  unfold FO_X_tread FO_X_treadAsStep FO_M_tread
  by_cases cn : 1 ≤ n ∧ n ≤ 3
  · obtain ⟨I1, d, k1, k2, k3, k4, k5, k6⟩ := keep2 (fu := fu) (L := L) (K := K) hfu hR.s
    have vI : EvI I I1 := fun o h1 h2 => k4 o (by omega)
    have vJ : EvJ J (wJ J d) := EvJ.one (fun o h => wJ_ne h)
    have R1 : LR I1 (wJ J d) := hR.lr.ev (by rw [wJ_at]; exact k3) vI vJ
    have h23 : wJ J d 331 23 = 1 := by rw [wJ_ne (by omega)]; exact hR.2.2.2.2.2.1
    have i3 : I1 3 = I 3 := k4 3 (by omega)
    rw [if_pos cn]
    rcases hb with hb | hb
    · rw [if_pos hb]
      rcases can2 (fu := fu) (p := p) (p1 := -n) (up := b) (n := n) (L := L) (K := K) hR.s cn (Or.inl ⟨rfl, hb⟩) with ⟨a1, a2⟩ | ⟨a1, a2, k, q, hk, hq, rfl, e1, hu⟩
      · rw [a1, a2]
        simp only [Option.bind_some]
        rw [if_pos trivial, if_pos trivial]
        exact ⟨-1, I, L, J, K, rfl, rfl, hR.s, EvI.rf, EvJ.rf, Or.inl rfl⟩
      · obtain ⟨r, I', J', K', hr, g1, g2, g3, g4, g5, g6, g7⟩ := go2 (fu := fu) (l := k) (q := q) (p1 := -n) (up := b) (n := n) (L := L) (K := K) hfu R1 h23 hk hq (by rw [i3]; exact e1) (by rw [i3]; exact hu)
        rw [a1, a2]
        simp only [Option.bind_some]
        rw [if_neg i10, if_neg i10, k1, k2]
        simp only [Option.bind_some]
        rw [if_pos hb, g1, g2]
        exact ⟨nI r, I', L, J', K', rfl, rfl, g3, vI.tr g4, vJ.tr g5, Or.inr (nI_pos' (by omega))⟩
    · have hb0 : ¬ b = 0 := by rw [hb]; exact i10
      rw [if_neg hb0]
      rcases can2 (fu := fu) (p := p) (p1 := n) (up := b) (n := n) (L := L) (K := K) hR.s cn (Or.inr ⟨rfl, hb⟩) with ⟨a1, a2⟩ | ⟨a1, a2, k, q, hk, hq, rfl, e1, hu⟩
      · rw [a1, a2]
        simp only [Option.bind_some]
        rw [if_pos trivial, if_pos trivial]
        exact ⟨-1, I, L, J, K, rfl, rfl, hR.s, EvI.rf, EvJ.rf, Or.inl rfl⟩
      · obtain ⟨r, I', J', K', hr, g1, g2, g3, g4, g5, g6, g7⟩ := go2 (fu := fu) (l := k) (q := q) (p1 := n) (up := b) (n := n) (L := L) (K := K) hfu R1 h23 hk hq (by rw [i3]; exact e1) (by rw [i3]; exact hu)
        rw [a1, a2]
        simp only [Option.bind_some]
        rw [if_neg i10, if_neg i10, k1, k2]
        simp only [Option.bind_some]
        rw [if_neg hb0, g1, g2]
        exact ⟨nI r, I', L, J', K', rfl, rfl, g3, vI.tr g4, vJ.tr g5, Or.inr (nI_pos' (by omega))⟩
  · have m0 : FO_M_canTread fu p b n J K = some (0, J, K) := by
      unfold FO_M_canTread
      rw [if_neg cn]
      split <;> rfl
    rw [if_neg cn, m0]
    simp only [Option.bind_some]
    rw [if_pos trivial]
    exact ⟨-1, I, L, J, K, rfl, rfl, hR.s, EvI.rf, EvJ.rf, Or.inl rfl⟩
theorem op_tread {fu : Nat} (hfu : 2000 ≤ fu) (p b n : Int32) (hb : b = 0 ∨ b = 1) : OpR TX (fun I L => FO_X_tread fu p b n I L) (fun I L => FO_M_tread fu p b n I L) := by
  refine OpR_e (fun I J L K hR => ?_)
  obtain ⟨r, I', L', J', K', a, b, c, d, e, _⟩ := tread2 (L := L) (K := K) hfu p b n hb hR
  exact ⟨r, I', L', J', K', a, b, c, d, e⟩
/-- the next number -/
def ax (x : Nat) : Nat := (x * 557 + 431) % 30763
theorem ax_le (x : Nat) : ax x ≤ 30762 := by unfold ax; omega
theorem x_ax {I : TI} {x : Nat} (h : x ≤ 30762) : F_X_afterX I (nI x) = nI (ax x) := by
  unfold F_X_afterX ax
  rw [show (557 : Int32) = nI 557 from rfl, pk_mul, show nI (x * 557) + 431 = nI (x * 557 + 431) from nI_add _ 431]
  exact pk_rem (d := 30763) (by omega) (by omega) (by omega)
theorem m_ax {fu x : Nat} {m : Int32} {J : TI} {K : TL} (hm : ¬ m = 0) (h : x ≤ 30762) (e : J 332 8 = nI x) : FO_M_drawnBy fu m J K = some (iR (nI x) m, sI J 332 8 (nI (ax x)), K) := by
  unfold FO_M_drawnBy FO_M_anew
  rw [if_pos hm, e]
  simp only [Option.bind_some]
  have b1 : bl ((x : Int) * 557 + 431) := by unfold bl; omega
  have b2 : bl 30763 := by unfold bl; omega
  rw [nI_Z x, iZ_64 (show bq (x : Int) by unfold bq; omega), show (557 : Int64) = lZ 557 from by decide, show (431 : Int64) = lZ 431 from by decide, show (30763 : Int64) = lZ 30763 from by decide, lZ_mul, lZ_add, lZ_rem b1 b2, lZ_32, nI_Z (ax x)]
  have : ((x : Int) * 557 + 431).tmod 30763 = ((ax x : Nat) : Int) := by
    unfold ax
    rw [Int.tmod_eq_emod_of_nonneg (by omega)]
    omega
  rw [this]
theorem tb3 {fu : Nat} {p : Int32} {J : TI} {K : TL} : FO_M_treadBy fu p 3 J K = some ((), J, K) := by
  unfold FO_M_treadBy
  rw [if_pos (by decide)]
theorem tbd {fu : Nat} {p d up n : Int32} {J : TI} {K : TL} (h : (d = 0 ∧ up = 1 ∧ n = 1) ∨ (d = 1 ∧ up = 1 ∧ n = 2) ∨ (d = 2 ∧ up = 0 ∧ n = 1)) : FO_M_treadBy fu p d J K = (FO_M_canTread fu p up n J K).bind (fun u => if u.1 = 0 then some ((), u.2.1, u.2.2) else (FO_M_treadNow fu p up n u.2.1 u.2.2).bind (fun v => if 0 ≤ v.1 then some ((), v.2.1, v.2.2) else some ((), sI v.2.1 332 9 0, v.2.2))) := by
  unfold FO_M_treadBy
  rcases h with ⟨rfl, rfl, rfl⟩ | ⟨rfl, rfl, rfl⟩ | ⟨rfl, rfl, rfl⟩
  · simp only [show ((3 : Int32) ≤ 0) = False from by decide, show ((2 : Int32) ≤ 0) = False from by decide, show ((0 : Int32) = 1) = False from by decide, if_false]
  · simp only [show ((3 : Int32) ≤ 1) = False from by decide, show ((2 : Int32) ≤ 1) = False from by decide, if_false, if_true]
  · simp only [show ((3 : Int32) ≤ 2) = False from by decide, show ((2 : Int32) ≤ 2) = True from by decide, show ((2 : Int32) = 1) = False from by decide, if_false, if_true]
