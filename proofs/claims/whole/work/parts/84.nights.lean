/-! the nights -/
theorem walkN {β : Type} {fu : Nat} {p p1 up n : Int32} {I J : TI} {L K : TL} (hfu : 2000 ≤ fu) (hR : LR I J) (h23 : J 331 23 = 1) (hn : 1 ≤ n ∧ n ≤ 3) (hu : (p1 = -n ∧ up = 0) ∨ (p1 = n ∧ up = 1)) :
    ∃ I' J' K', (∀ F : TI → TL → Option β, ((FO_X_canGo fu p p1 I L).bind (fun u1 => let r1 := u1.1; let I1 := u1.2.1; let L1 := u1.2.2; if r1 = 0 then (F I1 L1) else ((FO_X_go fu p p1 I1 L1).bind (fun u2 => let r2 := u2.1; let I2 := u2.2.1; let L2 := u2.2.2; F I2 L2)))) = F I' L) ∧ ((FO_M_canTread fu p up n J K = some (0, J, K) ∧ J' = J ∧ K' = K) ∨ (FO_M_canTread fu p up n J K = some (1, J, K) ∧ ∃ r : Nat, FO_M_treadNow fu p up n J K = some (nI r, J', K'))) ∧ SR (aN I') (J' 332) ∧ EvI I I' ∧ EvJ J J' := by
  rcases can2 (fu := fu) (p := p) (p1 := p1) (up := up) (n := n) (L := L) (K := K) hR.s hn hu with ⟨a1, a2⟩ | ⟨a1, a2, k', q, hk, hq, e0, e1, hu'⟩
  · refine ⟨I, J, K, fun F => ?_, Or.inl ⟨a2, rfl, rfl⟩, hR.s, EvI.rf, EvJ.rf⟩
    rw [a1]
    simp only [Option.bind_some]
    rw [if_pos trivial]
  · subst e0
    obtain ⟨r, I', J', K', hr, g1, g2, g3, g4, g5, g6, g7⟩ := go2 (fu := fu) (l := k') (q := q) (p1 := p1) (up := up) (n := n) (L := L) (K := K) hfu hR h23 hk hq e1 hu'
    refine ⟨I', J', K', fun F => ?_, Or.inr ⟨a2, r, g2⟩, g3, g4, g5⟩
    rw [a1]
    simp only [Option.bind_some]
    rw [if_neg i10, g1]
    rfl
/-- what happens in a night -/
theorem night2 {fu x : Nat} {I J : TI} {L K : TL} (hfu : 2000 ≤ fu) (hR : LR I J) (h23 : J 331 23 = 1) (ex : I 2 1 = nI x) (hx : x ≤ 30762) :
    ∃ I' J' K', (∀ (f : Nat) (x1 x2 x4 : Int32), ¬ x2 ≤ x4 → LO_X_nights_56 fu (f + 1) x1 x2 x4 I L = LO_X_nights_56 fu f x1 x2 (x4 + 1) I' L) ∧ FO_M_happens fu (nI x) (sI J 332 8 (nI (ax x))) K = some ((), J', K') ∧ SR (aN I') (J' 332) ∧ EvI I I' ∧ EvJ J J' := by
  obtain ⟨n, hn, t1, t2, t3⟩ := ten hR.s
  obtain ⟨h, hh, e0⟩ := hR.s.ho.1.1
  have e0 : I 2 0 = nI h := e0
  have j7 : J 332 7 = nI h := (hR.s.ho.2.1 0 (by omega)).trans e0
  have j10 : J 332 10 = I 2 3 := hR.s.ho.2.1 3 (by omega)
  have h6 : iR (nI x) 6 = nI (x % 6) := pk_rem (d := 6) (by omega) (by omega) (by omega)
  have h3 : iR (nI x) 3 = nI (x % 3) := pk_rem (d := 3) (by omega) (by omega) (by omega)
  have sA : SR (aN (sI I 2 1 (nI (ax x)))) (sI J 332 8 (nI (ax x)) 332) := by
    rw [aN_sI 1 rfl, sJ_at]
    exact SR.set_x hR.s ⟨ax x, ax_le x, rfl⟩
  have vA : EvI I (sI I 2 1 (nI (ax x))) := EvI.one (c := 2) (by omega) (fun o h => sJ_ne h)
  have wA : EvJ J (sI J 332 8 (nI (ax x))) := EvJ.one (fun o h => sJ_ne h)
  have RA := hR.ev sA vA wA
  have h23A : sI J 332 8 (nI (ax x)) 331 23 = 1 := by rw [sJ_ne (by omega)]; exact h23
  have jA0 : sI J 332 8 (nI (ax x)) 332 0 = nI n := by rw [sI_ap, if_pos rfl, if_neg (by omega)]; exact t2
  have jA7 : sI J 332 8 (nI (ax x)) 332 7 = nI h := by rw [sI_ap, if_pos rfl, if_neg (by omega)]; exact j7
  have jA10 : sI J 332 8 (nI (ax x)) 332 10 = I 2 3 := by rw [sI_ap, if_pos rfl, if_neg (by omega)]; exact j10
  have cup : ∀ v : Int32, SR (aN (sI (sI I 2 1 (nI (ax x))) 2 3 v)) (sI (sI J 332 8 (nI (ax x))) 332 10 v 332) ∧ EvI I (sI (sI I 2 1 (nI (ax x))) 2 3 v) ∧ EvJ J (sI (sI J 332 8 (nI (ax x))) 332 10 v) := fun v => by
    refine ⟨?_, vA.tr (EvI.one (c := 2) (by omega) (fun o h => sJ_ne h)), wA.tr (EvJ.one (fun o h => sJ_ne h))⟩
    rw [aN_sI 1 rfl, sJ_at]
    exact SR.set_cu sA trivial
  have step : ∀ (p1 up : Int32), (x % 6 = 0 ∧ up = 1 ∧ p1 = 1 + nI (x % 3)) ∨ (x % 6 = 1 ∧ up = 0 ∧ p1 = -1 - nI (x % 3)) → ∃ I' J' K', (∀ (f : Nat) (x1 x2 x4 : Int32), ¬ x2 ≤ x4 → LO_X_nights_56 fu (f + 1) x1 x2 x4 I L = LO_X_nights_56 fu f x1 x2 (x4 + 1) I' L) ∧ FO_M_happens fu (nI x) (sI J 332 8 (nI (ax x))) K = some ((), J', K') ∧ SR (aN I') (J' 332) ∧ EvI I I' ∧ EvJ J J' := by
    intro p1 up hu
    have hm : 1 ≤ 1 + nI (x % 3) ∧ 1 + nI (x % 3) ≤ 3 := by
      have : x % 3 = 0 ∨ x % 3 = 1 ∨ x % 3 = 2 := by omega
      rcases this with e | e | e <;> rw [e] <;> decide
    have hneg : -1 - nI (x % 3) = -(1 + nI (x % 3)) := by
      have : x % 3 = 0 ∨ x % 3 = 1 ∨ x % 3 = 2 := by omega
      rcases this with e | e | e <;> rw [e] <;> decide
    have hu2 : (p1 = -(1 + nI (x % 3)) ∧ up = 0) ∨ (p1 = 1 + nI (x % 3) ∧ up = 1) := by
      rcases hu with ⟨_, a, b⟩ | ⟨_, a, b⟩
      · exact Or.inr ⟨b, a⟩
      · exact Or.inl ⟨b.trans hneg, a⟩
    by_cases c0 : n = 0
    · subst c0
      have l0 : F_X_isLodger (sI I 2 1 (nI (ax x))) (-1) = 0 := by
        rcases lodg sA (-1) with ⟨k, m, hk, hm, e, g1, g2, f1, f2⟩ | ⟨f1, f2⟩
        · have : (nI 0 : Int32) = nI m := by rw [← jA0, g2]
          have := (nI_eq (a := 0) (b := m) (by omega) (by omega)).mp this
          omega
        · exact f1
      refine ⟨_, _, K, fun f x1 x2 x4 hc => ?_, ?_, sA, vA, wA⟩
      · rw [LO_X_nights_56, if_neg hc, ex, h6, x_ax hx, t1, if_pos (show nI 0 ≤ 0 by decide), if_neg (show ¬ (2 : Int32) ≤ nI (x % 6) from nI_ge (b := 2) (by omega) (by omega)), x_can0 l0, x_can0 l0]
        simp only [Option.bind_some]
        rw [if_pos trivial]
        split <;> rfl
      · unfold FO_M_happens
        rw [h6, jA0, if_pos (show nI 0 ≤ 0 by decide)]
        rcases hu with ⟨c, _, _⟩ | ⟨c, _, _⟩
        · rw [c, if_pos (by decide)]
        · rw [c, if_neg (by decide), if_pos (by decide)]
    · have hd : iR (nI x) (nI n) = nI (x % n) := pk_rem (by omega) (by omega) (by omega)
      obtain ⟨I', J', K', w1, w2, w3, w4, w5⟩ := walkN (β := Int32 × TI × TL) (fu := fu) (p := nI (x % n)) (p1 := p1) (up := up) (n := 1 + nI (x % 3)) (L := L) (K := K) hfu RA h23A hm hu2
      have n0 : ¬ nI n ≤ 0 := nI_ge (a := 0) (by omega) (by omega)
      have n1 : ¬ nI n = 0 := nI_ne0 (by omega) (by omega)
      refine ⟨I', J', K', fun f x1 x2 x4 hc => ?_, ?_, w3, vA.tr w4, wA.tr w5⟩
      · rw [LO_X_nights_56, if_neg hc, ex, h6, h3, x_ax hx, t1, if_neg n0, if_pos n1, hd, if_neg (show ¬ (2 : Int32) ≤ nI (x % 6) from nI_ge (b := 2) (by omega) (by omega))]
        rcases hu with ⟨c, _, b⟩ | ⟨c, _, b⟩
        · rw [c, if_pos (show nI 0 = 0 from rfl), ← b]
          exact w1 (fun I L => LO_X_nights_56 fu f x1 x2 (x4 + 1) I L)
        · rw [c, if_neg (show ¬ nI 1 = 0 by decide), ← b]
          exact w1 (fun I L => LO_X_nights_56 fu f x1 x2 (x4 + 1) I L)
      · unfold FO_M_happens
        rw [h6, h3, jA0, if_neg n0, if_pos n1, hd]
        rcases hu with ⟨c, u, b⟩ | ⟨c, u, b⟩
        · rw [c, if_pos (show nI 0 = 0 from rfl), if_pos (show nI 0 = 0 from rfl)]
          rw [u] at w2
          rcases w2 with ⟨g1, g2, g3⟩ | ⟨g1, r, g2⟩
          · rw [g1, g2, g3]
            simp only [Option.bind_some]
            rw [if_pos trivial]
          · rw [g1]
            simp only [Option.bind_some]
            rw [if_neg i10, jA0, if_pos n1, if_pos (show nI 0 = 0 from rfl), hd, g2]
            rfl
        · rw [c, if_neg (show ¬ nI 1 = 0 by decide), if_pos (show nI 1 = 1 from rfl), if_neg (show ¬ nI 1 = 0 by decide)]
          rw [u] at w2
          rcases w2 with ⟨g1, g2, g3⟩ | ⟨g1, r, g2⟩
          · rw [g1, g2, g3]
            simp only [Option.bind_some]
            rw [if_pos trivial]
          · rw [g1]
            simp only [Option.bind_some]
            rw [if_neg i10, jA0, if_pos n1, if_neg (show ¬ nI 1 = 0 by decide), hd, g2]
            rfl
  have c6 : x % 6 = 0 ∨ x % 6 = 1 ∨ x % 6 = 2 ∨ x % 6 = 3 ∨ 4 ≤ x % 6 := by omega
  rcases c6 with c | c | c | c | c
  · exact step _ 1 (Or.inl ⟨c, rfl, rfl⟩)
  · exact step _ 0 (Or.inr ⟨c, rfl, rfl⟩)
  · refine ⟨_, _, K, fun f x1 x2 x4 hc => ?_, ?_, (cup ((I 2 3) ||| ((1 : Int32) <<< (((1 : Int32) + (iR ((nI x) / 6) 12)) &&& 31)))).1, (cup _).2.1, (cup _).2.2⟩
    · rw [LO_X_nights_56, if_neg hc, ex, h6, c, if_pos (by decide), if_pos (by decide), x_ax hx]
    · unfold FO_M_happens
      rw [h6, c, if_neg (by decide), if_neg (by decide), if_pos (by decide), jA10]
  · refine ⟨_, _, K, fun f x1 x2 x4 hc => ?_, ?_, (cup ((I 2 3) &&& (((1 : Int32) <<< (((1 : Int32) + (iR ((nI x) / 6) 12)) &&& 31)) ^^^ (-1)))).1, (cup _).2.1, (cup _).2.2⟩
    · rw [LO_X_nights_56, if_neg hc, ex, h6, c, if_pos (by decide), if_neg (by decide), if_pos (by decide), x_ax hx]
    · unfold FO_M_happens
      rw [h6, c, if_neg (by decide), if_neg (by decide), if_neg (by decide), if_pos (by decide), jA10]
  · have q0 : ∀ d : Nat, d < 4 → ¬ nI (x % 6) = nI d := fun d hd z => by have := (nI_eq (by omega) (by omega)).mp z; omega
    have two : (2 : Int32) ≤ nI (x % 6) := nI_le (a := 2) (by omega) (by omega)
    by_cases c9 : h = 9999
    · subst c9
      refine ⟨_, _, K, fun f x1 x2 x4 hc => ?_, ?_, sA, vA, wA⟩
      · rw [LO_X_nights_56, if_neg hc, ex, h6, if_pos two, if_neg (show ¬ nI (x % 6) = 2 from q0 2 (by omega)), if_neg (show ¬ nI (x % 6) = 3 from q0 3 (by omega)), x_ax hx, e0, if_pos (show (9999 : Int32) ≤ nI 9999 by decide)]
      · unfold FO_M_happens
        rw [h6, if_neg (show ¬ nI (x % 6) = 0 from q0 0 (by omega)), if_neg (show ¬ nI (x % 6) = 1 from q0 1 (by omega)), if_neg (show ¬ nI (x % 6) = 2 from q0 2 (by omega)), if_neg (show ¬ nI (x % 6) = 3 from q0 3 (by omega)), jA7, if_pos (show (9999 : Int32) ≤ nI 9999 by decide)]
    · have n9 : ¬ (9999 : Int32) ≤ nI h := nI_ge (b := 9999) (by omega) (by omega)
      obtain ⟨s, I', J', K', p1, p2, p3, p4, p5, p6, p7⟩ := pass2 (fu := fu) (h := h) (L := L) (K := K) hfu RA h23A (by rw [sI_ap, if_pos rfl, if_neg (by omega)]; exact e0) (by omega)
      refine ⟨I', J', K', fun f x1 x2 x4 hc => ?_, ?_, p3, vA.tr p4, wA.tr p5⟩
      · rw [LO_X_nights_56, if_neg hc, ex, h6, if_pos two, if_neg (show ¬ nI (x % 6) = 2 from q0 2 (by omega)), if_neg (show ¬ nI (x % 6) = 3 from q0 3 (by omega)), x_ax hx, e0, if_neg n9, p1]
        rfl
      · unfold FO_M_happens
        rw [h6, if_neg (show ¬ nI (x % 6) = 0 from q0 0 (by omega)), if_neg (show ¬ nI (x % 6) = 1 from q0 1 (by omega)), if_neg (show ¬ nI (x % 6) = 2 from q0 2 (by omega)), if_neg (show ¬ nI (x % 6) = 3 from q0 3 (by omega)), jA7, if_neg n9, p2]
        rfl
theorem lk_nights {fu m : Nat} {x1 : Int32} (hfu : 2000 ≤ fu) (hm : m ≤ 40) : ∀ (j k f g : Nat) (I J : TI) (L K : TL), k + j = m → j < f → j < g → LR I J → J 331 23 = 1 → ∃ r I' J' K', LO_X_nights_56 fu f x1 (nI m) (nI k) I L = some (r, I', L) ∧ LO_M_nights_43 fu g x1 (nI m) (nI k) J K = some (r, J', K') ∧ SR (aN I') (J' 332) ∧ EvI I I' ∧ EvJ J J' := by
  intro j
  induction j with
  | zero =>
    intro k f g I J L K hk hf hg hR h23
    obtain ⟨f, rfl⟩ : ∃ z, f = z + 1 := ⟨f - 1, by omega⟩
    obtain ⟨g, rfl⟩ : ∃ z, g = z + 1 := ⟨g - 1, by omega⟩
    have : k = m := by omega
    subst this
    have j7 : J 332 7 = I 2 0 := hR.s.ho.2.1 0 (by omega)
    refine ⟨I 2 0, I, J, K, ?_, ?_, hR.s, EvI.rf, EvJ.rf⟩
    · rw [LO_X_nights_56, if_pos (Int32.le_refl _)]
    · rw [LO_M_nights_43, if_pos (Int32.le_refl _), j7]
  | succ j ih =>
    intro k f g I J L K hk hf hg hR h23
    obtain ⟨f, rfl⟩ : ∃ z, f = z + 1 := ⟨f - 1, by omega⟩
    obtain ⟨g, rfl⟩ : ∃ z, g = z + 1 := ⟨g - 1, by omega⟩
    obtain ⟨x, hx, ex⟩ := hR.s.ho.1.2.1
    have ex : I 2 1 = nI x := ex
    have jx : J 332 8 = nI x := (hR.s.ho.2.1 1 (by omega)).trans ex
    obtain ⟨I1, J1, K1, a1, a2, a3, a4, a5⟩ := night2 (fu := fu) (x := x) (L := L) (K := K) hfu hR h23 ex hx
    obtain ⟨r, I2, J2, K2, b1, b2, b3, b4, b5⟩ := ih (k + 1) f g I1 J1 L K1 (by omega) (by omega) (by omega) (hR.ev a3 a4 a5) (by rw [a5.2.2.2.2]; exact h23)
    have nk : ¬ nI m ≤ nI k := nI_ge (by omega) (by omega)
    have an : FO_M_anew fu J K = some ((), sI J 332 8 (nI (ax x)), K) := by
      have := m_ax (fu := fu) (m := 4) (K := K) (by decide) hx jx
      unfold FO_M_drawnBy FO_M_anew at this
      rw [if_pos (by decide)] at this
      simp only [Option.bind_some] at this
      have := congrArg (fun z => (z.getD (0, J, K)).2.1) this
      unfold FO_M_anew
      exact congrArg (fun z => some ((), z, K)) this
    refine ⟨r, I2, J2, K2, ?_, ?_, b3, a4.tr b4, a5.tr b5⟩
    · rw [a1 f x1 (nI m) (nI k) nk, nI_1]
      exact b1
    · rw [LO_M_nights_43, if_neg nk, an, jx]
      simp only [Option.bind_some]
      rw [a2]
      simp only [Option.bind_some]
      rw [nI_1]
      exact b2
theorem op_nights {fu : Nat} (hfu : 2000 ≤ fu) (p q : Int32) : OpR TX (fun I L => FO_X_nights fu p q I L) (fun I L => FO_M_nights fu p q I L) := by
  refine OpR_e (fun I J L K hR => ?_)
  unfold FO_X_nights FO_M_nights
  by_cases c : 0 ≤ p ∧ p ≤ 9999
  · by_cases c2 : 1 ≤ q ∧ q ≤ 40
    · obtain ⟨x, hx, ep⟩ := rng (hi := 9999) (by omega) c.1 c.2
      obtain ⟨m, hm1, hm, rfl⟩ := rng1 (hi := 40) (by omega) c2.1 c2.2
      have ev : p * 2 + 293 = nI (x * 2 + 293) := by
        rw [ep, show (2 : Int32) = nI 2 from rfl, pk_mul]; exact nI_add _ 293
      rw [if_pos c, if_pos c2, if_pos c, if_pos c2]
      obtain ⟨I1, d, k1, k2, k3, k4, k5, k6⟩ := keep2 (fu := fu) (L := L) (K := K) hfu hR.s
      have sA : SR (aN (sI I1 2 1 (nI (x * 2 + 293)))) (sI (wJ J d) 332 8 (nI (x * 2 + 293)) 332) := by
        rw [aN_sI 1 rfl, sJ_at, wJ_at]
        exact SR.set_x k3 ⟨_, by omega, rfl⟩
      have vI : EvI I (sI I1 2 1 (nI (x * 2 + 293))) := fun o h1 h2 => by rw [sJ_ne (by omega), k4 o (by omega)]
      have vJ : EvJ J (sI (wJ J d) 332 8 (nI (x * 2 + 293))) := EvJ.one (fun o h => by rw [sJ_ne h, wJ_ne h])
      obtain ⟨r, I2, J2, K2, b1, b2, b3, b4, b5⟩ := lk_nights (fu := fu) (m := m) (x1 := p) hfu hm m 0 fu fu _ _ L K (by omega) (by omega) (by omega) (hR.lr.ev sA vI vJ) (by rw [vJ.2.2.2.2]; exact hR.2.2.2.2.2.1)
      rw [k1, k2]
      simp only [Option.bind_some]
      rw [ev]
      exact ⟨r, I2, L, J2, K2, b1, b2, b3, vI.tr b4, vJ.tr b5⟩
    · rw [if_pos c, if_neg c2, if_pos c, if_neg c2]
      exact ⟨-1, I, L, J, K, rfl, rfl, hR.s, EvI.rf, EvJ.rf⟩
  · rw [if_neg c, if_neg c]
    exact ⟨-1, I, L, J, K, rfl, rfl, hR.s, EvI.rf, EvJ.rf⟩
