/-! the tape -/
theorem RL.tape {T : TI → (Nat → Int32) → Prop} {I J I' J' : TI} (h : RL T I J) (tp : TP I' J') (eI : ∀ o, o ≠ 0 → o ≠ 306 → I' o = I o) (eJ : ∀ o, o ≠ 331 → o ≠ 335 → J' o = J o) (e5 : J' 331 5 = J 331 5) (e6 : J' 331 6 = J 331 6) (e23 : J' 331 23 = J 331 23) : RL T I' J' := by
  obtain ⟨h1, h2, h3, h4, h5, h6, h7⟩ := h
  refine ⟨?_, ?_, ?_, tp, ?_, ?_, ?_⟩
  · rw [eJ 332 (by omega) (by omega)]; exact SR.cg h1 (fun j hj => eI _ (by omega) (by omega))
  · rw [eJ 333 (by omega) (by omega)]; exact SR.cg h2 (fun j hj => eI _ (by omega) (by omega))
  · rw [eI 137 (by omega) (by omega), eI 1 (by omega) (by omega)]; exact h3
  · unfold FT; rw [eI 307 (by omega) (by omega), e5, e6]; exact h5
  · rw [e23]; exact h6
  · intro t ht hl
    rw [eI 1 (by omega) (by omega)] at hl
    rw [eJ 334 (by omega) (by omega), show (fun i => I' (274 + 8 * t + i % 8)) = (fun i => I (274 + 8 * t + i % 8)) from by funext i; exact eI _ (by omega) (by omega)]
    exact h7 t ht hl
theorem op_end {T : TI → (Nat → Int32) → Prop} {fu : Nat} (hfu : 2000 ≤ fu) (p : Int32) : OpR T (fun I L => FO_X_end fu p I L) (fun I L => FO_M_end fu p I L) := by
  intro I J L K hR
  obtain ⟨n, hn, t1, t2, t3⟩ := hR.2.2.2.1
  by_cases c : 0 ≤ p ∧ p ≤ nI n
  · obtain ⟨a, ha, rfl⟩ := rng (hi := n) (by omega) c.1 c.2
    refine ⟨nI a, sI I 0 4 (nI a), L, sI J 331 4 (nI a), K, ?_, ?_, RL.tape hR ?_ (fun o h0 _ => sJ_ne h0) (fun o h0 _ => sJ_ne h0) rfl rfl rfl, fun o ho => sJ_ne (by omega), fun o ho => sJ_ne (by omega)⟩
    · dsimp only; unfold FO_X_end; rw [t1, if_pos c]
    · dsimp only; unfold FO_M_end; rw [t2, if_pos c]
    · refine ⟨a, by omega, ?_, ?_, fun k hk => ?_⟩
      · rw [sJ_at, pk_us]
      · rw [sJ_at, pk_us]
      · rw [sJ_ne (by omega), sJ_ne (by omega)]; exact t3 k (by omega)
  · refine now0 (L := L) (K := K) (-1) hR ?_ ?_
    · dsimp only; unfold FO_X_end; rw [t1, if_neg c]
    · dsimp only; unfold FO_M_end; rw [t2, if_neg c]
def Tp (n : Nat) (I J : TI) : Prop := I 0 4 = nI n ∧ J 331 4 = nI n ∧ ∀ k, k < n → J 335 k = I 306 k ∧ bd (I 306 k) 255
def FrT (I I' : TI) : Prop := ∀ o, o ≠ 0 → o ≠ 306 → I' o = I o
def FrU (J J' : TI) : Prop := (∀ o, o ≠ 331 → o ≠ 335 → J' o = J o) ∧ J' 331 5 = J 331 5 ∧ J' 331 6 = J 331 6 ∧ J' 331 23 = J 331 23
theorem four1 {n : Nat} {v : Int32} {I J : TI} (hn : n < 300) (t : Tp n I J) (hv : bd v 255) : Tp (n + 1) (sI (sI I 306 n v) 0 4 (nI (n + 1))) (sI (sI J 335 n v) 331 4 (nI (n + 1))) ∧ FrT I (sI (sI I 306 n v) 0 4 (nI (n + 1))) ∧ FrU J (sI (sI J 335 n v) 331 4 (nI (n + 1))) := by
  refine ⟨⟨?_, ?_, fun k hk => ?_⟩, fun o h0 h1 => ?_, fun o h0 h1 => ?_, ?_, ?_, ?_⟩
  · rw [sJ_at, pk_us]
  · rw [sJ_at, pk_us]
  · simp (disch := omega) only [sJ_ne, sJ_at]
    by_cases e : k = n
    · subst e; rw [pk_us, pk_us]; exact ⟨rfl, hv⟩
    · rw [pk_un e, pk_un e]; exact t.2.2 k (by omega)
  · rw [sJ_ne h0, sJ_ne h1]
  · rw [sJ_ne h0, sJ_ne h1]
  · rw [sJ_at, pk_un (by omega), sJ_ne (by omega)]
  · rw [sJ_at, pk_un (by omega), sJ_ne (by omega)]
  · rw [sJ_at, pk_un (by omega), sJ_ne (by omega)]
theorem fourS {fu f g n : Nat} {p x : Int32} {I J : TI} {L K : TL} (hn : n < 300) (t : Tp n I J) (hx : ¬ x < 0) : LO_X_putFour_3 fu (f + 1) p x I L = LO_X_putFour_3 fu f p (x + (-8)) (sI (sI I 306 n ((p >>> (x &&& 31)) &&& 255)) 0 4 (nI (n + 1))) L ∧ LO_M_four_3 fu (g + 1) p x J K = LO_M_four_3 fu g p (x + (-8)) (sI (sI J 335 n ((p >>> (x &&& 31)) &&& 255)) 331 4 (nI (n + 1))) K := by
  constructor
  · rw [LO_X_putFour_3, if_neg hx, t.1, if_pos (show (0 : Int32) ≤ nI n ∧ nI n ≤ 299 from ⟨nI_pos' (by omega), nI_le (b := 299) (by omega) (by omega)⟩), if_pos (show (0 : Int32) ≤ nI n ∧ nI n < 300 from ⟨nI_pos' (by omega), nI_lt (b := 300) (by omega) (by omega)⟩), nI_clamp (by omega), nI_1]
  · rw [LO_M_four_3, if_neg hx, t.2.1, if_pos (show (0 : Int32) ≤ nI n ∧ nI n < 300 from ⟨nI_pos' (by omega), nI_lt (b := 300) (by omega) (by omega)⟩), nI_clamp (by omega), nI_1]
theorem byte_bd (x : Int32) : bd (x &&& 255) 255 := by
  obtain ⟨j, hj, e⟩ := pk_andE x (m := 255) 8 (by decide)
  exact ⟨j, by omega, e⟩
theorem FrT.tr {I I' I'' : TI} (a : FrT I I') (b : FrT I' I'') : FrT I I'' := fun o h0 h1 => (b o h0 h1).trans (a o h0 h1)
theorem FrU.tr {J J' J'' : TI} (a : FrU J J') (b : FrU J' J'') : FrU J J'' := ⟨fun o h0 h1 => (b.1 o h0 h1).trans (a.1 o h0 h1), b.2.1.trans a.2.1, b.2.2.1.trans a.2.2.1, b.2.2.2.trans a.2.2.2⟩
theorem four {fu n : Nat} {p : Int32} {I J : TI} {L K : TL} (hfu : 2000 ≤ fu) (hn : n + 4 ≤ 300) (t : Tp n I J) : ∃ I' J', FO_X_putFour fu p I L = some ((), I', L) ∧ FO_M_four fu p J K = some ((), J', K) ∧ Tp (n + 4) I' J' ∧ FrT I I' ∧ FrU J J' := by
  obtain ⟨f, rfl⟩ : ∃ z, fu = z + 5 := ⟨fu - 5, by omega⟩
  unfold FO_X_putFour FO_M_four
  have a1 := fourS (fu := f + 5) (f := f + 4) (g := f + 4) (p := p) (x := 24) (L := L) (K := K) (show n < 300 by omega) t (by decide)
  obtain ⟨t1, b1, c1⟩ := four1 (v := (p >>> ((24 : Int32) &&& 31)) &&& 255) (show n < 300 by omega) t (byte_bd _)
  have a2 := fourS (fu := f + 5) (f := f + 3) (g := f + 3) (p := p) (x := 24 + (-8)) (L := L) (K := K) (show n + 1 < 300 by omega) t1 (by decide)
  obtain ⟨t2, b2, c2⟩ := four1 (v := (p >>> (((24 : Int32) + (-8)) &&& 31)) &&& 255) (show n + 1 < 300 by omega) t1 (byte_bd _)
  have a3 := fourS (fu := f + 5) (f := f + 2) (g := f + 2) (p := p) (x := 24 + (-8) + (-8)) (L := L) (K := K) (show n + 2 < 300 by omega) t2 (by decide)
  obtain ⟨t3, b3, c3⟩ := four1 (v := (p >>> (((24 : Int32) + (-8) + (-8)) &&& 31)) &&& 255) (show n + 2 < 300 by omega) t2 (byte_bd _)
  have a4 := fourS (fu := f + 5) (f := f + 1) (g := f + 1) (p := p) (x := 24 + (-8) + (-8) + (-8)) (L := L) (K := K) (show n + 3 < 300 by omega) t3 (by decide)
  obtain ⟨t4, b4, c4⟩ := four1 (v := (p >>> (((24 : Int32) + (-8) + (-8) + (-8)) &&& 31)) &&& 255) (show n + 3 < 300 by omega) t3 (byte_bd _)
  refine ⟨_, _, (a1.1.trans (a2.1.trans (a3.1.trans a4.1))).trans ?_, (a1.2.trans (a2.2.trans (a3.2.trans a4.2))).trans ?_, t4, b1.tr (b2.tr (b3.tr b4)), c1.tr (c2.tr (c3.tr c4))⟩
  · rw [LO_X_putFour_3, if_pos (by decide)]
  · rw [LO_M_four_3, if_pos (by decide)]
theorem op_feed {T : TI → (Nat → Int32) → Prop} {fu : Nat} (hfu : 2000 ≤ fu) (p q r s t : Int32) : OpR T (fun I L => FO_X_feed fu p q r s t I L) (fun I L => FO_M_feed fu p q r s t I L) := by
  intro I J L K hR
  obtain ⟨n, hn, t1, t2, t3⟩ := hR.2.2.2.1
  by_cases c : n + 20 ≤ 300
  · have T0 : Tp n I J := ⟨t1, t2, t3⟩
    obtain ⟨I1, J1, x1, m1, T1, f1, g1⟩ := four (p := p) (L := L) (K := K) hfu (by omega) T0
    obtain ⟨I2, J2, x2, m2, T2, f2, g2⟩ := four (p := q) (L := L) (K := K) hfu (by omega) T1
    obtain ⟨I3, J3, x3, m3, T3, f3, g3⟩ := four (p := r) (L := L) (K := K) hfu (by omega) T2
    obtain ⟨I4, J4, x4, m4, T4, f4, g4⟩ := four (p := s) (L := L) (K := K) hfu (by omega) T3
    obtain ⟨I5, J5, x5, m5, T5, f5, g5⟩ := four (p := t) (L := L) (K := K) hfu (by omega) T4
    have F := f1.tr (f2.tr (f3.tr (f4.tr f5)))
    have G := g1.tr (g2.tr (g3.tr (g4.tr g5)))
    have c1 : nI n + 20 ≤ 300 := by
      rw [show nI n + 20 = nI (n + 20) from nI_add n 20]
      exact nI_le (b := 300) c (by omega)
    refine ⟨nI (n + 20), I5, L, J5, K, ?_, ?_, RL.tape hR ⟨n + 20, c, T5.1, T5.2.1, T5.2.2⟩ F G.1 G.2.1 G.2.2.1 G.2.2.2, fun o ho => F o (by omega) (by omega), fun o ho => G.1 o (by omega) (by omega)⟩
    · dsimp only
      unfold FO_X_feed
      rw [t1, if_neg (nI_pos (by omega)), if_pos c1]
      simp only [x1, x2, x3, x4, x5, Option.bind_some]
      rw [T5.1]
    · dsimp only
      unfold FO_M_feed
      rw [t2, if_pos c1]
      simp only [m1, m2, m3, m4, m5, Option.bind_some]
      rw [T5.2.1]
  · have c1 : ¬ nI n + 20 ≤ 300 := by
      rw [show nI n + 20 = nI (n + 20) from nI_add n 20]
      exact nI_ge (a := 300) (by omega) (by omega)
    refine now0 (L := L) (K := K) (-1) hR ?_ ?_
    · dsimp only; unfold FO_X_feed; rw [t1, if_neg (nI_pos (by omega)), if_neg c1]
    · dsimp only; unfold FO_M_feed; rw [t2, if_neg c1]
