/-! an hour, hours -/
theorem i2_cases {d : Nat} (h : d < 4) : d = 0 ∨ d = 1 ∨ d = 2 ∨ d = 3 := by omega
/-- one's way within an hour -/
theorem walk2 {fu k : Nat} {p1 up n : Int32} {I J : TI} {L K : TL} (hfu : 2000 ≤ fu) (hR : LR I J) (h23 : J 331 23 = 1) (hn : 1 ≤ n ∧ n ≤ 3) (hu : (p1 = -n ∧ up = 0) ∨ (p1 = n ∧ up = 1)) :
    ∃ s I' J' K', (∀ (f : Nat) (a b : Int32), ((FO_X_canGo fu (nI k) p1 I L).bind (fun u1 => let r1 := u1.1; let I1 := u1.2.1; let L1 := u1.2.2; if r1 = 0 then (LO_X_passHour_34 fu f a b I1 L1) else ((FO_X_go fu (nI k) p1 I1 L1).bind (fun u2 => let r2 := u2.1; let I2 := u2.2.1; let L2 := u2.2.2; if r2 ≤ 0 then (LO_X_passHour_34 fu f a b I2 L2) else (LO_X_passHour_34 fu f (a + 1) b I2 L2))))) = LO_X_passHour_34 fu f (a + s) b I' L) ∧ ((FO_M_canTread fu (nI k) up n J K).bind (fun u => if u.1 = 0 then some ((), u.2.1, u.2.2) else (FO_M_treadNow fu (nI k) up n u.2.1 u.2.2).bind (fun v => if 0 ≤ v.1 then some ((), v.2.1, v.2.2) else some ((), sI v.2.1 332 9 0, v.2.2)))) = some ((), J', K') ∧ SR (aN I') (J' 332) ∧ EvI I I' ∧ EvJ J J' ∧ J' 331 24 = J 331 24 + s ∧ I' 2 0 = I 2 0 := by
  rcases can2 (fu := fu) (p := nI k) (p1 := p1) (up := up) (n := n) (L := L) (K := K) hR.s hn hu with ⟨a1, a2⟩ | ⟨a1, a2, k', q, hk, hq, e0, e1, hu'⟩
  · refine ⟨0, I, J, K, fun f a b => ?_, ?_, hR.s, EvI.rf, EvJ.rf, (Int32.add_zero _).symm, rfl⟩
    · rw [a1]
      simp only [Option.bind_some]
      rw [if_pos trivial, Int32.add_zero]
    · rw [a2]
      simp only [Option.bind_some]
      rw [if_pos trivial]
  · rw [e0] at a1 a2 ⊢
    obtain ⟨r, I', J', K', hr, g1, g2, g3, g4, g5, g6, g7⟩ := go2 (fu := fu) (l := k') (q := q) (p1 := p1) (up := up) (n := n) (L := L) (K := K) hfu hR h23 hk hq e1 hu'
    refine ⟨if r = 0 then 0 else 1, I', J', K', fun f a b => ?_, ?_, g3, g4, g5, ?_, g7 0 (by omega)⟩
    · rw [a1]
      simp only [Option.bind_some]
      rw [if_neg i10, g1]
      simp only [Option.bind_some]
      by_cases c : r = 0
      · subst c
        rw [if_pos (by decide), if_pos rfl, Int32.add_zero]
      · rw [if_neg (show ¬ nI r ≤ 0 from nI_ge (a := 0) (by omega) (by omega)), if_neg c]
    · rw [a2]
      simp only [Option.bind_some]
      rw [if_neg i10, g2]
      simp only [Option.bind_some]
      rw [if_pos (nI_pos' (by omega))]
    · rw [g6]
      by_cases c : r = 0
      · rw [if_pos c, if_pos c, Int32.add_zero]
      · rw [if_neg c, if_neg c]
theorem lk_pass {fu n h : Nat} (hfu : 2000 ≤ fu) (hn : n ≤ 6) (hh : h < 9999) : ∀ (j k f g : Nat) (a : Int32) (I J : TI) (L K : TL), k + j = n → j < f → j < g → LR I J → J 331 23 = 1 → I 1 2 = nI n → I 2 0 = nI h → ∃ s I' J' K', LO_X_passHour_34 fu f a (nI k) I L = some (a + s, I', L) ∧ LO_M_pass_15 fu g (nI k) J K = some ((), J', K') ∧ SR (aN I') (J' 332) ∧ EvI I I' ∧ EvJ J J' ∧ J' 331 24 = J 331 24 + s ∧ I' 2 0 = nI (h + 1) := by
  intro j
  induction j with
  | zero =>
    intro k f g a I J L K hk hf hg hR h23 hI e0
    obtain ⟨f, rfl⟩ : ∃ z, f = z + 1 := ⟨f - 1, by omega⟩
    obtain ⟨g, rfl⟩ : ∃ z, g = z + 1 := ⟨g - 1, by omega⟩
    have : k = n := by omega
    subst this
    obtain ⟨n', hn', t1, t2, t3⟩ := ten hR.s
    have j7 : J 332 7 = nI h := (hR.s.ho.2.1 0 (by omega)).trans e0
    refine ⟨0, sI I 2 0 (nI (h + 1)), sI J 332 7 (nI (h + 1)), K, ?_, ?_, ?_, EvI.one (c := 2) (by omega) (fun o h => sJ_ne h), EvJ.one (fun o h => sJ_ne h), ?_, by rw [sI_ap, if_pos rfl, if_pos rfl]⟩
    · rw [LO_X_passHour_34, t3, ← t1, hI, if_pos (Int32.le_refl _), e0, nI_1, Int32.add_zero]
    · rw [LO_M_pass_15, t2, ← t1, hI, if_pos (Int32.le_refl _), j7, nI_1]
    · rw [aN_sI 1 rfl, sJ_at]
      exact SR.set_hr hR.s ⟨h + 1, by omega, rfl⟩
    · rw [sJ_ne (by omega), Int32.add_zero]
  | succ j ih =>
    intro k f g a I J L K hk hf hg hR h23 hI e0
    obtain ⟨f, rfl⟩ : ∃ z, f = z + 1 := ⟨f - 1, by omega⟩
    obtain ⟨g, rfl⟩ : ∃ z, g = z + 1 := ⟨g - 1, by omega⟩
    obtain ⟨n', hn', t1, t2, t3⟩ := ten hR.s
    obtain ⟨x, hx, ex⟩ := hR.s.ho.1.2.1
    have ex : I 2 1 = nI x := ex
    have jx : J 332 8 = nI x := (hR.s.ho.2.1 1 (by omega)).trans ex
    have sA : SR (aN (sI I 2 1 (nI (ax x)))) (sI J 332 8 (nI (ax x)) 332) := by
      rw [aN_sI 1 rfl, sJ_at]
      exact SR.set_x hR.s ⟨ax x, ax_le x, rfl⟩
    have vA : EvI I (sI I 2 1 (nI (ax x))) := EvI.one (c := 2) (by omega) (fun o h => sJ_ne h)
    have wA : EvJ J (sI J 332 8 (nI (ax x))) := EvJ.one (fun o h => sJ_ne h)
    have RA := hR.ev sA vA wA
    have hA : sI I 2 1 (nI (ax x)) 2 0 = nI h := by rw [sI_ap, if_pos rfl, if_neg (by omega)]; exact e0
    have hA1 : sI I 2 1 (nI (ax x)) 1 2 = nI n := by rw [sJ_ne (by omega)]; exact hI
    have h23A : sI J 332 8 (nI (ax x)) 331 23 = 1 := by rw [sJ_ne (by omega)]; exact h23
    have h24A : sI J 332 8 (nI (ax x)) 331 24 = J 331 24 := by rw [sJ_ne (by omega)]
    have hd : iR (nI x) 4 = nI (x % 4) := pk_rem (d := 4) (by omega) (by omega) (by omega)
    rw [LO_X_passHour_34, LO_M_pass_15, t3, t2, ← t1, hI, if_neg (show ¬ nI n ≤ nI k from nI_ge (by omega) (by omega)), if_neg (show ¬ nI n ≤ nI k from nI_ge (by omega) (by omega)), m_ax (by decide) hx jx, ex, x_ax hx, hd, nI_1]
    simp only [Option.bind_some]
    have go : ∀ (p1 d up m : Int32), F_X_goesBy I d = p1 → ¬ p1 = 0 → ((d = 0 ∧ up = 1 ∧ m = 1) ∨ (d = 1 ∧ up = 1 ∧ m = 2) ∨ (d = 2 ∧ up = 0 ∧ m = 1)) → (1 ≤ m ∧ m ≤ 3) → ((p1 = -m ∧ up = 0) ∨ (p1 = m ∧ up = 1)) → nI (x % 4) = d → ∃ s I' J' K', (if F_X_goesBy I (nI (x % 4)) = 0 then (LO_X_passHour_34 fu f a (nI (k + 1)) (sI I 2 1 (nI (ax x))) L) else ((FO_X_canGo fu (nI k) (F_X_goesBy I (nI (x % 4))) (sI I 2 1 (nI (ax x))) L).bind (fun u1 => let r1 := u1.1; let I1 := u1.2.1; let L1 := u1.2.2; if r1 = 0 then (LO_X_passHour_34 fu f a (nI (k + 1)) I1 L1) else ((FO_X_go fu (nI k) (F_X_goesBy I (nI (x % 4))) I1 L1).bind (fun u2 => let r2 := u2.1; let I2 := u2.2.1; let L2 := u2.2.2; if r2 ≤ 0 then (LO_X_passHour_34 fu f a (nI (k + 1)) I2 L2) else (LO_X_passHour_34 fu f (a + 1) (nI (k + 1)) I2 L2)))))) = some (a + s, I', L) ∧ ((FO_M_treadBy fu (nI k) (nI (x % 4)) (sI J 332 8 (nI (ax x))) K).bind (fun u2 => let r2 := u2.1; let I2 := u2.2.1; let L2 := u2.2.2; LO_M_pass_15 fu g (nI (k + 1)) I2 L2)) = some ((), J', K') ∧ SR (aN I') (J' 332) ∧ EvI I I' ∧ EvJ J J' ∧ J' 331 24 = J 331 24 + s ∧ I' 2 0 = nI (h + 1) := by
      intro p1 d up m hp hp0 hd3 hm hu ed
      obtain ⟨s1, I1, J1, K1, w1, w2, w3, w4, w5, w6, w7⟩ := walk2 (fu := fu) (k := k) (p1 := p1) (up := up) (n := m) (L := L) (K := K) hfu RA h23A hm hu
      obtain ⟨s2, I2, J2, K2, r1, r2, r3, r4, r5, r6, r7⟩ := ih (k + 1) f g (a + s1) I1 J1 L K1 (by omega) (by omega) (by omega) (RA.ev w3 w4 w5) (by rw [w5.2.2.2.2]; exact h23A) (by rw [w4 1 (by omega) (by omega)]; exact hA1) (w7.trans hA)
      refine ⟨s1 + s2, I2, J2, K2, ?_, ?_, r3, (vA.tr w4).tr r4, (wA.tr w5).tr r5, ?_, r7⟩
      · rw [ed, hp, if_neg hp0]
        refine (w1 f a (nI (k + 1))).trans ?_
        rw [r1, Int32.add_assoc]
      · rw [ed, tbd hd3, w2]
        exact r2
      · rw [r6, w6, h24A, Int32.add_assoc]
    rcases i2_cases (Nat.mod_lt x (show 0 < 4 by omega)) with c | c | c | c
    · exact go 1 0 1 1 (by unfold F_X_goesBy; rw [if_pos rfl]) (by decide) (Or.inl ⟨rfl, rfl, rfl⟩) (by decide) (Or.inr ⟨rfl, rfl⟩) (by rw [c]; rfl)
    · exact go 2 1 1 2 (by unfold F_X_goesBy; rw [if_neg (by decide), if_pos rfl]) (by decide) (Or.inr (Or.inl ⟨rfl, rfl, rfl⟩)) (by decide) (Or.inr ⟨rfl, rfl⟩) (by rw [c]; rfl)
    · exact go (-1) 2 0 1 (by unfold F_X_goesBy; rw [if_neg (by decide), if_neg (by decide), if_pos rfl]) (by decide) (Or.inr (Or.inr ⟨rfl, rfl, rfl⟩)) (by decide) (Or.inl ⟨rfl, rfl⟩) (by rw [c]; rfl)
    · obtain ⟨s2, I2, J2, K2, r1, r2, r3, r4, r5, r6, r7⟩ := ih (k + 1) f g a (sI I 2 1 (nI (ax x))) (sI J 332 8 (nI (ax x))) L K (by omega) (by omega) (by omega) RA h23A hA1 hA
      refine ⟨s2, I2, J2, K2, ?_, ?_, r3, vA.tr r4, wA.tr r5, by rw [r6, h24A], r7⟩
      · rw [c, if_pos (by unfold F_X_goesBy; rw [if_neg (by decide), if_neg (by decide), if_neg (by decide)])]
        exact r1
      · rw [c]
        refine Eq.trans (congrArg (fun z => Option.bind z _) (tb3 (fu := fu) (p := nI k) (J := sI J 332 8 (nI (ax x))) (K := K))) ?_
        exact r2
/-- an hour passes -/
theorem pass2 {fu h : Nat} {I J : TI} {L K : TL} (hfu : 2000 ≤ fu) (hR : LR I J) (h23 : J 331 23 = 1) (e0 : I 2 0 = nI h) (hh : h < 9999) : ∃ s I' J' K', FO_X_passHour fu I L = some (s, I', L) ∧ FO_M_pass fu J K = some ((), J', K') ∧ SR (aN I') (J' 332) ∧ EvI I I' ∧ EvJ J J' ∧ J' 331 24 = J 331 24 + s ∧ I' 2 0 = nI (h + 1) := by
  obtain ⟨n, hn, t1, t2, t3⟩ := ten hR.s
  obtain ⟨x, hx, ex⟩ := hR.s.ho.1.2.1
  have ex : I 2 1 = nI x := ex
  have jx : J 332 8 = nI x := (hR.s.ho.2.1 1 (by omega)).trans ex
  have hd : iR (nI x) 10 = nI (x % 10) := pk_rem (d := 10) (by omega) (by omega) (by omega)
  have sA : SR (aN (sI (sI I 2 2 (nI (x % 10))) 2 1 (nI (ax x)))) (sI (sI J 332 8 (nI (ax x))) 332 9 (nI (x % 10)) 332) := by
    rw [aN_sI 1 rfl, aN_sI 1 rfl, sJ_at, sJ_at]
    have e : upd (upd (J 332) 8 (nI (ax x))) 9 (nI (x % 10)) = upd (upd (J 332) 9 (nI (x % 10))) 8 (nI (ax x)) := by
      funext i
      unfold upd
      by_cases c8 : i = 8
      · subst c8; simp
      · by_cases c9 : i = 9 <;> simp [c8, c9]
    rw [e]
    exact SR.set_x (SR.set_lt hR.s ⟨x % 10, by omega, rfl⟩) ⟨ax x, ax_le x, rfl⟩
  have vA : EvI I (sI (sI I 2 2 (nI (x % 10))) 2 1 (nI (ax x))) := EvI.one (c := 2) (by omega) (fun o h => by rw [sJ_ne h, sJ_ne h])
  have wA : EvJ J (sI (sI J 332 8 (nI (ax x))) 332 9 (nI (x % 10))) := EvJ.one (fun o h => by rw [sJ_ne h, sJ_ne h])
  obtain ⟨s, I', J', K', r1, r2, r3, r4, r5, r6, r7⟩ := lk_pass (fu := fu) (n := n) (h := h) hfu hn hh n 0 fu fu 0 _ _ L K (by omega) (by omega) (by omega) (hR.ev sA vA wA) (by rw [sJ_ne (by omega), sJ_ne (by omega)]; exact h23) (by rw [sJ_ne (by omega), sJ_ne (by omega)]; exact t1) (by simp [sI_ap]; exact e0)
  refine ⟨s, I', J', K', ?_, ?_, r3, vA.tr r4, wA.tr r5, ?_, r7⟩
  · unfold FO_X_passHour
    rw [ex, x_ax hx, hd]
    rw [Int32.zero_add] at r1
    exact r1
  · unfold FO_M_pass
    rw [m_ax (by decide) hx jx]
    simp only [Option.bind_some]
    rw [hd]
    exact r2
  · rw [r6, sJ_ne (by omega), sJ_ne (by omega)]
theorem lk_hour {fu m : Nat} (hfu : 2000 ≤ fu) (hm : m ≤ 60) : ∀ (j k f g h : Nat) (a : Int32) (I J : TI) (L K : TL), k + j = m → j < f → j < g → LR I J → J 331 23 = 1 → I 2 0 = nI h → h + j ≤ 9999 → ∃ s I' J' K', LO_X_hour_34 fu f (nI m) a (nI k) I L = some (a + s, I', L) ∧ LO_M_arePassed_7 fu g (nI m) (nI k) J K = some (1, J', K') ∧ SR (aN I') (J' 332) ∧ EvI I I' ∧ EvJ J J' ∧ J' 331 24 = J 331 24 + s := by
  intro j
  induction j with
  | zero =>
    intro k f g h a I J L K hk hf hg hR h23 e0 hh
    obtain ⟨f, rfl⟩ : ∃ z, f = z + 1 := ⟨f - 1, by omega⟩
    obtain ⟨g, rfl⟩ : ∃ z, g = z + 1 := ⟨g - 1, by omega⟩
    have : k = m := by omega
    subst this
    refine ⟨0, I, J, K, ?_, ?_, hR.s, EvI.rf, EvJ.rf, (Int32.add_zero _).symm⟩
    · rw [LO_X_hour_34, if_pos (Int32.le_refl _), Int32.add_zero]
    · rw [LO_M_arePassed_7, if_pos (Int32.le_refl _)]
  | succ j ih =>
    intro k f g h a I J L K hk hf hg hR h23 e0 hh
    obtain ⟨f, rfl⟩ : ∃ z, f = z + 1 := ⟨f - 1, by omega⟩
    obtain ⟨g, rfl⟩ : ∃ z, g = z + 1 := ⟨g - 1, by omega⟩
    have j7 : J 332 7 = nI h := (hR.s.ho.2.1 0 (by omega)).trans e0
    obtain ⟨I1, d, k1, k2, k3, k4, k5, k6⟩ := keep2 (fu := fu) (L := L) (K := K) hfu hR.s
    have vI : EvI I I1 := fun o h1 h2 => k4 o (by omega)
    have vJ : EvJ J (wJ J d) := EvJ.one (fun o h => wJ_ne h)
    have R1 : LR I1 (wJ J d) := hR.ev (by rw [wJ_at]; exact k3) vI vJ
    obtain ⟨s1, I2, J2, K2, p1, p2, p3, p4, p5, p6, p7⟩ := pass2 (fu := fu) (h := h) (L := L) (K := K) hfu R1 (by rw [wJ_ne (by omega)]; exact h23) (by rw [k4 2 (by omega)]; exact e0) (by omega)
    obtain ⟨s2, I3, J3, K3, r1, r2, r3, r4, r5, r6⟩ := ih (k + 1) f g (h + 1) (a + s1) I2 J2 L K2 (by omega) (by omega) (by omega) (R1.ev p3 p4 p5) (by rw [p5.2.2.2.2, wJ_ne (by omega)]; exact h23) p7 (by omega)
    refine ⟨s1 + s2, I3, J3, K3, ?_, ?_, r3, (vI.tr p4).tr r4, (vJ.tr p5).tr r5, ?_⟩
    · rw [LO_X_hour_34, if_neg (show ¬ nI m ≤ nI k from nI_ge (by omega) (by omega)), k1]
      simp only [Option.bind_some]
      rw [p1]
      simp only [Option.bind_some]
      rw [nI_1, r1, Int32.add_assoc]
    · rw [LO_M_arePassed_7, if_neg (show ¬ nI m ≤ nI k from nI_ge (by omega) (by omega)), j7, if_neg (show ¬ nI h = 9999 from fun z => by have := (nI_eq (b := 9999) (by omega) (by omega)).mp z; omega), k2]
      simp only [Option.bind_some]
      rw [p2]
      simp only [Option.bind_some]
      rw [nI_1]
      exact r2
    · rw [r6, p6, wJ_ne (by omega), Int32.add_assoc]
theorem op_hour {fu : Nat} (hfu : 2000 ≤ fu) (p : Int32) : OpR TX (fun I L => FO_X_hour fu p I L) (fun I L => FO_M_hour fu p I L) := by
  refine OpR_e (fun I J L K hR => ?_)
  obtain ⟨h, hh, e0⟩ := hR.s.ho.1.1
  have e0 : I 2 0 = nI h := e0
  have j7 : J 332 7 = nI h := (hR.s.ho.2.1 0 (by omega)).trans e0
  unfold FO_X_hour FO_M_hour FO_M_arePassed
  by_cases c : 1 ≤ p ∧ p ≤ 60
  · obtain ⟨m, hm1, hm, rfl⟩ := rng1 (hi := 60) (by omega) c.1 c.2
    rw [if_pos c, if_pos c, e0, j7, nI_add]
    by_cases c2 : h + m ≤ 9999
    · rw [if_pos (show nI (h + m) ≤ 9999 from nI_le (b := 9999) c2 (by omega)), if_neg (show ¬ (9999 : Int32) < nI (h + m) from nI_nlt (a := 9999) c2 (by omega))]
      have v0 : EvJ J (sI J 331 24 0) := EvJ.w24 (fun o h1 _ => sJ_ne h1) (fun i hi => by rw [sI_ap, if_pos rfl, if_neg hi])
      have s0 : SR (aN I) (sI J 331 24 0 332) := by rw [sJ_ne (by omega)]; exact hR.s
      obtain ⟨s, I', J', K', r1, r2, r3, r4, r5, r6⟩ := lk_hour (fu := fu) (m := m) hfu hm m 0 fu fu h 0 I (sI J 331 24 0) L K (by omega) (by omega) (by omega) (hR.lr.ev s0 EvI.rf v0) (by rw [v0.2.2.2.2]; exact hR.2.2.2.2.2.1) e0 c2
      rw [Int32.zero_add] at r1
      refine ⟨s, I', L, J', K', r1, ?_, r3, r4, v0.tr r5⟩
      refine Eq.trans (congrArg (fun z => Option.bind z _) r2) ?_
      simp only [Option.bind_some]
      rw [if_neg i10, r6, sI_ap, if_pos rfl, if_pos rfl, Int32.zero_add]
    · rw [if_neg (show ¬ nI (h + m) ≤ 9999 from nI_ge (b := h + m) (a := 9999) (by omega) (by omega)), if_pos (show (9999 : Int32) < nI (h + m) from nI_lt (a := 9999) (by omega) (by omega))]
      exact ⟨-1, I, L, J, K, rfl, rfl, hR.s, EvI.rf, EvJ.rf⟩
  · rw [if_neg c, if_neg c]
    exact ⟨-1, I, L, J, K, rfl, rfl, hR.s, EvI.rf, EvJ.rf⟩
