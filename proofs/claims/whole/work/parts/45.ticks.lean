/-! pairs of calls that ask a law -/
theorem op_ticks {fu : Nat} (hfu : 2000 ≤ fu) (p q w : Int32) : OpR TX (fun I L => FO_X_ticks fu p q w I L) (fun I L => FO_M_ticks fu p q w I L) := by
  refine OpR_s (fun I J L K hR => ?_)
  unfold FO_X_ticks FO_M_ticks
  rcases lodg hR.s p with ⟨k, n, hk, hn, rfl, e1, e2, f1, f2⟩ | ⟨f1, f2⟩
  · rw [f1, f2, if_neg i10, if_neg i10]
    by_cases c : 1 ≤ q ∧ q ≤ 12
    · obtain ⟨s, hs1, hs, rfl⟩ := rng1 (hi := 12) (by omega) c.1 c.2
      obtain ⟨r, I', J', K', hr, a1, a2, a3, a4⟩ := law_tr (fu := fu) (l := k) (st := s) (up := w) (L := L) (K := K) hfu hR.lr (by omega) hs
      rw [if_pos c, if_pos c, a2]
      refine ⟨nI r, I', L, J', K', ?_, rfl, a3, a4.1.j⟩
      by_cases hl : isLib I (I 1 7)
      · rw [if_pos hl] at a1 ⊢
        rw [a1]; rfl
      · rw [if_neg hl] at a1 ⊢
        rw [a1]; rfl
    · rw [if_neg c, if_neg c]
      exact ⟨-1, I, L, J, K, rfl, rfl, ScI.rf, ScJ.rf⟩
  · rw [f1, f2, if_pos rfl, if_pos rfl]
    exact ⟨-1, I, L, J, K, rfl, rfl, ScI.rf, ScJ.rf⟩
theorem op_hears {fu : Nat} (hfu : 2000 ≤ fu) (p : Int32) : OpR TX (fun I L => FO_X_hears fu p I L) (fun I L => FO_M_hears fu p I L) := by
  refine OpR_s (fun I J L K hR => ?_)
  unfold FO_X_hears FO_M_hears
  by_cases c : 1 ≤ p ∧ p ≤ 12
  · obtain ⟨s, hs1, hs, rfl⟩ := rng1 (hi := 12) (by omega) c.1 c.2
    obtain ⟨r, I', J', K', hr, a1, a2, a3, a4⟩ := law_hears (fu := fu) (st := s) (L := L) (K := K) hfu hR.lr hs
    rw [if_pos c, if_pos c, a1, a2]
    exact ⟨nI r, I', L, J', K', rfl, rfl, a3, a4.1.j⟩
  · rw [if_neg c, if_neg c]
    exact ⟨-1, I, L, J, K, rfl, rfl, ScI.rf, ScJ.rf⟩
theorem or0 (x : Int32) : x ||| 0 = x := by
  apply Int32.toBitVec_inj.mp
  simp
/-- the set of stairs on which one is heard -/
def hst (r : Nat → Nat) : Nat → Int32
  | 0 => 0
  | p + 1 => if r (p + 1) = 0 then hst r p else hst r p ||| ((1 : Int32) <<< (nI (p + 1) &&& 31))
theorem x_hst {fu l : Nat} {up : Int32} {I J : TI} {r : Nat → Nat} (hr : ∀ p, p ≤ 12 → Hd fu l p up I J (r p)) : ∀ (j p f : Nat) (I' : TI) (L : TL), p + j = 12 → j < f → ScI I I' → ∃ I'', LO_X_heardStairs_5 fu f (nI l) up (hst r p) (nI (p + 1)) I' L = some (hst r 12, I'', L) ∧ ScI I I'' := by
  intro j
  induction j with
  | zero =>
    intro p f I' L hp hf hs
    obtain ⟨f, rfl⟩ : ∃ z, f = z + 1 := ⟨f - 1, by omega⟩
    have : p = 12 := by omega
    subst this
    refine ⟨I', ?_, hs⟩
    rw [LO_X_heardStairs_5, if_pos (by decide)]
  | succ j ih =>
    intro p f I' L hp hf hs
    obtain ⟨f, rfl⟩ : ∃ z, f = z + 1 := ⟨f - 1, by omega⟩
    obtain ⟨h9, hx, _⟩ := hr (p + 1) (by omega)
    obtain ⟨I1, a1, a2⟩ := hx I' L hs
    rw [LO_X_heardStairs_5, if_neg (show ¬ (12 : Int32) < nI (p + 1) from nI_nlt (a := 12) (by omega) (by omega)), a1]
    simp only [Option.bind_some]
    by_cases c : r (p + 1) = 0
    · rw [if_pos (show nI (r (p + 1)) ≤ 0 by rw [c]; decide), nI_1]
      have e : hst r (p + 1) = hst r p := by rw [hst, if_pos c]
      rw [← e]
      exact ih (p + 1) f I1 L (by omega) (by omega) a2
    · rw [if_neg (show ¬ nI (r (p + 1)) ≤ 0 from nI_ge (a := 0) (by omega) (by omega)), nI_1]
      have e : hst r (p + 1) = hst r p ||| ((1 : Int32) <<< (nI (p + 1) &&& 31)) := by rw [hst, if_neg c]
      rw [← e]
      exact ih (p + 1) f I1 L (by omega) (by omega) a2
theorem m_hst {fu l : Nat} {up : Int32} {I J : TI} {r : Nat → Nat} (hr : ∀ p, p ≤ 12 → Hd fu l p up I J (r p)) : ∀ (j p f : Nat) (J' : TI) (K : TL), p + j = 12 → j < f → ScJ J J' → ∃ J'' K', LO_M_heardOn_15 fu f (nI l) up (hst r p) (nI (p + 1)) J' K = some (hst r 12, J'', K') ∧ ScJ J J'' := by
  intro j
  induction j with
  | zero =>
    intro p f J' K hp hf hs
    obtain ⟨f, rfl⟩ : ∃ z, f = z + 1 := ⟨f - 1, by omega⟩
    have : p = 12 := by omega
    subst this
    refine ⟨J', K, ?_, hs⟩
    rw [LO_M_heardOn_15, if_pos (by decide)]
  | succ j ih =>
    intro p f J' K hp hf hs
    obtain ⟨f, rfl⟩ : ∃ z, f = z + 1 := ⟨f - 1, by omega⟩
    obtain ⟨h9, _, hx⟩ := hr (p + 1) (by omega)
    obtain ⟨J1, K1, a1, a2⟩ := hx J' K hs
    rw [LO_M_heardOn_15, if_neg (show ¬ (12 : Int32) < nI (p + 1) from nI_nlt (a := 12) (by omega) (by omega)), a1]
    simp only [Option.bind_some]
    by_cases c : r (p + 1) = 0
    · rw [if_pos (show nI (r (p + 1)) ≤ 0 by rw [c]; decide), nI_1, or0]
      have e : hst r (p + 1) = hst r p := by rw [hst, if_pos c]
      rw [← e]
      exact ih (p + 1) f J1 K1 (by omega) (by omega) a2
    · rw [if_neg (show ¬ nI (r (p + 1)) ≤ 0 from nI_ge (a := 0) (by omega) (by omega)), nI_1]
      have e : hst r (p + 1) = hst r p ||| ((1 : Int32) <<< (nI (p + 1) &&& 31)) := by rw [hst, if_neg c]
      rw [← e]
      exact ih (p + 1) f J1 K1 (by omega) (by omega) a2
theorem heards {fu l : Nat} {I J : TI} (up : Int32) (hfu : 2000 ≤ fu) (hR : LR I J) (hl : l < 6) : ∃ r : Nat → Nat, ∀ p, p ≤ 12 → Hd fu l p up I J (r p) := by
  have h : ∀ p, ∃ r, p ≤ 12 → Hd fu l p up I J r := fun p => by
    by_cases c : p ≤ 12
    · obtain ⟨r, hr⟩ := heard (fu := fu) (up := up) hfu hR hl c
      exact ⟨r, fun _ => hr⟩
    · exact ⟨0, fun z => absurd z c⟩
  exact ⟨fun p => Classical.choose (h p), fun p => Classical.choose_spec (h p)⟩
theorem x_heardS {fu l : Nat} {up : Int32} {I J I' : TI} {L : TL} {r : Nat → Nat} (hfu : 2000 ≤ fu) (hr : ∀ p, p ≤ 12 → Hd fu l p up I J (r p)) (hs : ScI I I') : ∃ I'', FO_X_heardStairs fu (nI l) up I' L = some (hst r 12, I'', L) ∧ ScI I I'' :=
  x_hst hr 12 0 fu I' L (by omega) (by omega) hs
theorem op_heardOn {fu : Nat} (hfu : 2000 ≤ fu) (p w : Int32) : OpR TX (fun I L => FO_X_heardOn fu p w I L) (fun I L => FO_M_heardOn fu p w I L) := by
  refine OpR_s (fun I J L K hR => ?_)
  unfold FO_X_heardOn FO_M_heardOn
  rcases lodg hR.s p with ⟨k, n, hk, hn, rfl, e1, e2, f1, f2⟩ | ⟨f1, f2⟩
  · rw [f1, f2, if_neg i10, if_neg i10]
    obtain ⟨r, hr⟩ := heards (fu := fu) (l := k) w hfu hR.lr (by omega)
    obtain ⟨I', a1, a2⟩ := x_heardS (L := L) hfu hr ScI.rf
    obtain ⟨J', K', b1, b2⟩ := m_hst hr 12 0 fu J K (by omega) (by omega) ScJ.rf
    refine ⟨hst r 12, I', L, J', K', by rw [a1]; rfl, b1, a2, b2⟩
  · rw [f1, f2, if_pos rfl, if_pos rfl]
    exact ⟨-1, I, L, J, K, rfl, rfl, ScI.rf, ScJ.rf⟩
/-- the loudest so far: how loud, where -/
def lds (r : Nat → Nat) : Nat → Nat × Int32
  | 0 => (0, -1)
  | p + 1 => if r (p + 1) ≤ (lds r p).1 then lds r p else (r (p + 1), nI (p + 1))
theorem lds_le {r : Nat → Nat} (h : ∀ p, p ≤ 12 → r p ≤ 99) : ∀ p, p ≤ 12 → (lds r p).1 ≤ 99 := by
  intro p
  induction p with
  | zero => intro _; exact Nat.zero_le _
  | succ p ih =>
    intro hp
    rw [lds]
    split
    · exact ih (by omega)
    · exact h (p + 1) hp
theorem op_loudest {fu : Nat} (hfu : 2000 ≤ fu) (p : Int32) : OpR TX (fun I L => FO_X_loudest fu p I L) (fun I L => FO_M_loudest fu p I L) := by
  refine OpR_s (fun I J L K hR => ?_)
  unfold FO_X_loudest FO_M_loudest
  rcases lodg hR.s p with ⟨k, n, hk, hn, rfl, e1, e2, f1, f2⟩ | ⟨f1, f2⟩
  · rw [f1, f2, if_neg i10, if_neg i10]
    obtain ⟨r1, h1⟩ := heards (fu := fu) (l := k) 1 hfu hR.lr (by omega)
    obtain ⟨r0, h0⟩ := heards (fu := fu) (l := k) 0 hfu hR.lr (by omega)
    let r : Nat → Nat := fun p => max (r1 p) (r0 p)
    have r9 : ∀ p, p ≤ 12 → r p ≤ 99 := fun p hp => Nat.max_le.mpr ⟨(h1 p hp).1, (h0 p hp).1⟩
    have hx : ∀ (j p f : Nat) (I' : TI), p + j = 12 → j < f → ScI I I' → ∃ I'', LO_X_loudest_17 fu f (nI k) (nI (lds r p).1) (lds r p).2 (nI (p + 1)) I' L = some ((lds r 12).2, I'', L) ∧ ScI I I'' := by
      intro j
      induction j with
      | zero =>
        intro p f I' hp hf hs
        obtain ⟨f, rfl⟩ : ∃ z, f = z + 1 := ⟨f - 1, by omega⟩
        have : p = 12 := by omega
        subst this
        refine ⟨I', ?_, hs⟩
        rw [LO_X_loudest_17, if_pos (by decide)]
      | succ j ih =>
        intro p f I' hp hf hs
        obtain ⟨f, rfl⟩ : ∃ z, f = z + 1 := ⟨f - 1, by omega⟩
        obtain ⟨g1, x1, _⟩ := h1 (p + 1) (by omega)
        obtain ⟨g0, x0, _⟩ := h0 (p + 1) (by omega)
        obtain ⟨I1, a1, a2⟩ := x1 I' L hs
        obtain ⟨I2, b1, b2⟩ := x0 I1 L a2
        have l9 := lds_le r9 p (by omega)
        rw [LO_X_loudest_17, if_neg (show ¬ (12 : Int32) < nI (p + 1) from nI_nlt (a := 12) (by omega) (by omega)), a1]
        simp only [Option.bind_some]
        rw [b1]
        simp only [Option.bind_some]
        have em : F_J_max I2 (nI (r1 (p + 1))) (nI (r0 (p + 1))) = nI (r (p + 1)) := by
          unfold F_J_max
          by_cases c : r1 (p + 1) < r0 (p + 1)
          · rw [if_pos (nI_lt c (by omega)), show r (p + 1) = r0 (p + 1) from Nat.max_eq_right (by omega)]
          · rw [if_neg (nI_nlt (by omega) (by omega)), show r (p + 1) = r1 (p + 1) from Nat.max_eq_left (by omega)]
        rw [em, nI_1]
        have r9' := r9 (p + 1) (by omega)
        by_cases c : r (p + 1) ≤ (lds r p).1
        · have e : lds r (p + 1) = lds r p := by rw [lds, if_pos c]
          rw [if_pos (nI_le c (by omega)), ← e]
          exact ih (p + 1) f I2 (by omega) (by omega) b2
        · have e : lds r (p + 1) = (r (p + 1), nI (p + 1)) := by rw [lds, if_neg c]
          rw [if_neg (nI_ge (by omega) (by omega)), show nI (r (p + 1)) = nI (lds r (p + 1)).1 by rw [e], show nI (p + 1) = (lds r (p + 1)).2 by rw [e]]
          exact (show (lds r (p + 1)).2 = nI (p + 1) by rw [e]) ▸ ih (p + 1) f I2 (by omega) (by omega) b2
    have hm : ∀ (j p f : Nat) (J' : TI) (K : TL), p + j = 12 → j < f → ScJ J J' → ∃ J'' K', LO_M_loudest_17 fu f (nI k) (lds r p).2 (nI (lds r p).1) (nI (p + 1)) J' K = some ((lds r 12).2, J'', K') ∧ ScJ J J'' := by
      intro j
      induction j with
      | zero =>
        intro p f J' K hp hf hs
        obtain ⟨f, rfl⟩ : ∃ z, f = z + 1 := ⟨f - 1, by omega⟩
        have : p = 12 := by omega
        subst this
        refine ⟨J', K, ?_, hs⟩
        rw [LO_M_loudest_17, if_pos (by decide)]
      | succ j ih =>
        intro p f J' K hp hf hs
        obtain ⟨f, rfl⟩ : ∃ z, f = z + 1 := ⟨f - 1, by omega⟩
        obtain ⟨g1, _, x1⟩ := h1 (p + 1) (by omega)
        obtain ⟨g0, _, x0⟩ := h0 (p + 1) (by omega)
        obtain ⟨J1, K1, a1, a2⟩ := x0 J' K hs
        obtain ⟨J2, K2, b1, b2⟩ := x1 J1 K1 a2
        have l9 := lds_le r9 p (by omega)
        obtain ⟨g, hg⟩ : ∃ g, fu = g + 3 := ⟨fu - 3, by omega⟩
        rw [LO_M_loudest_17, if_neg (show ¬ (12 : Int32) < nI (p + 1) from nI_nlt (a := 12) (by omega) (by omega))]
        have r9' := r9 (p + 1) (by omega)
        have em : r (p + 1) = max (r1 (p + 1)) (r0 (p + 1)) := rfl
        have s0 : ∀ (kk : Int32 → Int32 → Int32 → Int32 → TI → TL → Option (Int32 × TI × TL)) (x2 : Int32) (v : Nat), v ≤ 99 → LO_M_loudest_27 fu kk (g + 3) (nI k) x2 (nI v) (nI (p + 1)) 0 J' K = if v < r0 (p + 1) then LO_M_loudest_27 fu kk (g + 2) (nI k) (nI (p + 1)) (nI (r0 (p + 1))) (nI (p + 1)) 1 J1 K1 else LO_M_loudest_27 fu kk (g + 2) (nI k) x2 (nI v) (nI (p + 1)) 1 J1 K1 := by
          intro kk x2 v hv
          rw [LO_M_loudest_27, if_neg (by decide), if_neg (by decide), a1]
          simp only [Option.bind_some]
          by_cases c : v < r0 (p + 1)
          · rw [if_pos (nI_lt c (by omega)), if_pos c]; rfl
          · rw [if_neg (nI_nlt (by omega) (by omega)), if_neg c]; rfl
        have s1 : ∀ (kk : Int32 → Int32 → Int32 → Int32 → TI → TL → Option (Int32 × TI × TL)) (x2 : Int32) (v : Nat), v ≤ 99 → LO_M_loudest_27 fu kk (g + 2) (nI k) x2 (nI v) (nI (p + 1)) 1 J1 K1 = if v < r1 (p + 1) then kk (nI k) (nI (p + 1)) (nI (r1 (p + 1))) (nI (p + 2)) J2 K2 else kk (nI k) x2 (nI v) (nI (p + 2)) J2 K2 := by
          intro kk x2 v hv
          rw [LO_M_loudest_27, if_neg (by decide), if_pos (by decide), b1]
          simp only [Option.bind_some]
          by_cases c : v < r1 (p + 1)
          · rw [if_pos (nI_lt c (by omega)), if_pos c, LO_M_loudest_27, if_pos (by decide), nI_1]
          · rw [if_neg (nI_nlt (by omega) (by omega)), if_neg c, LO_M_loudest_27, if_pos (by decide), nI_1]
        rw [show ∀ kk x2 x3 J K, LO_M_loudest_27 fu kk fu (nI k) x2 x3 (nI (p + 1)) 0 J K = LO_M_loudest_27 fu kk (g + 3) (nI k) x2 x3 (nI (p + 1)) 0 J K from fun _ _ _ _ _ => by rw [← hg], s0 _ _ _ l9]
        have fin : ∀ (x2 : Int32) (v : Nat), (v, x2) = lds r (p + 1) → ∃ J'' K', LO_M_loudest_17 fu f (nI k) x2 (nI v) (nI (p + 2)) J2 K2 = some ((lds r 12).2, J'', K') ∧ ScJ J J'' := by
          intro x2 v e
          have := ih (p + 1) f J2 K2 (by omega) (by omega) b2
          rw [← e] at this
          exact this
        by_cases c0 : (lds r p).1 < r0 (p + 1)
        · rw [if_pos c0, s1 _ _ _ (by omega)]
          by_cases c1 : r0 (p + 1) < r1 (p + 1)
          · rw [if_pos c1]
            exact fin _ _ (by rw [lds, if_neg (by omega), show r (p + 1) = r1 (p + 1) by omega])
          · rw [if_neg c1]
            exact fin _ _ (by rw [lds, if_neg (by omega), show r (p + 1) = r0 (p + 1) by omega])
        · rw [if_neg c0, s1 _ _ _ l9]
          by_cases c1 : (lds r p).1 < r1 (p + 1)
          · rw [if_pos c1]
            exact fin _ _ (by rw [lds, if_neg (by omega), show r (p + 1) = r1 (p + 1) by omega])
          · rw [if_neg c1]
            exact fin _ _ (by rw [lds, if_pos (by omega)])
    obtain ⟨I', a1, a2⟩ := hx 12 0 fu I (by omega) (by omega) ScI.rf
    obtain ⟨J', K', b1, b2⟩ := hm 12 0 fu J K (by omega) (by omega) ScJ.rf
    exact ⟨(lds r 12).2, I', L, J', K', a1, b1, a2, b2⟩
  · rw [f1, f2, if_pos rfl, if_pos rfl]
    exact ⟨-1, I, L, J, K, rfl, rfl, ScI.rf, ScJ.rf⟩
