/-! methods, read back by program -/
def LO_M_summed_15 (fu : Nat) : Nat → (Nat → Nat → Int32) → (Nat → Nat → Int64) → Option (Int32 × (Nat → Nat → Int32) × (Nat → Nat → Int64))
  | 0, _, _ => none
  | n + 1, I, L => if I 331 18 = 0 then ((FO_M_beginOne fu  I L).bind (fun u1 => let r1 := u1.1; let I1 := u1.2.1; let L1 := u1.2.2; if r1 ≤ 0 then (if r1 = 0 then (LO_M_summed_15 fu n  I1 L1) else ((FO_M_openNow fu  I1 L1).bind (fun u2 => let r2 := u2.1; let I2 := u2.2.1; let L2 := u2.2.2; if r2 < 0 then ((FO_M_settle fu 1 I2 L2).bind (fun u3 => let r3 := u3.1; let I3 := u3.2.1; let L3 := u3.2.2; some (0, I3, L3))) else (some (1, I2, L2))))) else (some (r1, I1, L1)))) else ((FO_M_behindOne fu  I L).bind (fun u4 => let r4 := u4.1; let I4 := u4.2.1; let L4 := u4.2.2; if r4 ≤ 0 then (if r4 = 0 then (LO_M_summed_15 fu n  I4 L4) else ((FO_M_openNow fu  I4 L4).bind (fun u5 => let r5 := u5.1; let I5 := u5.2.1; let L5 := u5.2.2; if r5 < 0 then ((FO_M_settle fu 1 I5 L5).bind (fun u6 => let r6 := u6.1; let I6 := u6.2.1; let L6 := u6.2.2; some (0, I6, L6))) else (some (1, I5, L5))))) else (some (r4, I4, L4))))
set_option maxHeartbeats 20000000 in
theorem lo_M_summed_15 {d fu n0 s0 : Nat} {X : Nat × (Nat → Int32)} {Q : PQ} {res : Int32 × (Nat → Nat → Int32) × (Nat → Nat → Int64)} (g : Q (some (.int res.1)) (HS res.2.1 res.2.2 X)) : ∀ (n : Nat) (I : Nat → Nat → Int32) (L : Nat → Nat → Int64), LO_M_summed_15 fu n  I L = some res → Wp (Ev (d + 7)) cd_M_summed (0, 0) (some .int) n0 s0 Q 15 [(0, .ref 331)] [] (HS I L X) := by
  intro n
  induction n with
  | zero => intro  _ _ q; cases q
  | succ n ih =>
    intro  I L q
    unfold LO_M_summed_15 at q
    refine w_aload_n (Ev.cm _) rfl rfl ?_
    refine w_getI (Ev.cm _) rfl (Nat.le_of_ble_eq_true rfl) rfl ?_
    refine w_if_eq (Ev.cm _) rfl (fun c1 => ?_) (fun c1 => ?_)
    · have c1 : I 331 18 = 0 := c1
      rw [if_pos c1] at q
      refine w_aload_n (Ev.cm _) rfl rfl ?_
      obtain ⟨⟨r1, I1, L1⟩, e1, q⟩ := obs q
      dsimp only at q
      refine w_cvirt (o := 331) (as := []) (st := []) (Ev.cm _) rfl rfl rfl (Nat.le_of_ble_eq_true rfl) (Nat.le_of_ble_eq_true rfl) rfl (Nat.le_of_ble_eq_true rfl) (eo_M_beginOne (g := ?_) e1)
      show Wp _ _ _ _ _ _ _ 33 [(0, .ref 331)] [.int r1] (HS I1 L1 X)
      refine w_istore_n (ls2 := [(0, .ref 331), (1, .int r1)]) (Ev.cm _) rfl rfl ?_
      refine w_iload_n (Ev.cm _) rfl rfl ?_
      refine w_if_le (Ev.cm _) rfl (fun c2 => ?_) (fun c2 => ?_)
      · have c2 : r1 ≤ 0 := c2
        rw [if_pos c2] at q
        refine w_iload_n (Ev.cm _) rfl rfl ?_
        refine w_if_ne (Ev.cm _) rfl (fun c3 => ?_) (fun c3 => ?_)
        · have c3 : ¬ (r1 = 0) := c3
          rw [if_neg c3] at q
          refine w_aload_n (Ev.cm _) rfl rfl ?_
          obtain ⟨⟨r2, I2, L2⟩, e2, q⟩ := obs q
          dsimp only at q
          refine w_cvirt (o := 331) (as := []) (st := []) (Ev.cm _) rfl rfl rfl (Nat.le_of_ble_eq_true rfl) (Nat.le_of_ble_eq_true rfl) rfl (Nat.le_of_ble_eq_true rfl) (eo_M_openNow (g := ?_) e2)
          show Wp _ _ _ _ _ _ _ 51 [(0, .ref 331), (1, .int r1)] [.int r2] (HS I2 L2 X)
          refine w_if_lt (Ev.cm _) rfl (fun c4 => ?_) (fun c4 => ?_)
          · have c4 : r2 < 0 := c4
            rw [if_pos c4] at q
            refine w_aload_n (Ev.cm _) rfl rfl ?_
            refine w_iconst (Ev.cm _) rfl ?_
            obtain ⟨⟨r3, I3, L3⟩, e3, q⟩ := obs q
            dsimp only at q
            refine w_cvirt (o := 331) (as := [.int 1]) (st := []) (Ev.cm _) rfl rfl rfl (Nat.le_of_ble_eq_true rfl) (Nat.le_of_ble_eq_true rfl) rfl (Nat.le_of_ble_eq_true rfl) (eo_M_settle (g := ?_) e3)
            show Wp _ _ _ _ _ _ _ 61 [(0, .ref 331), (1, .int r1)] [] (HS I3 L3 X)
            refine w_iconst (Ev.cm _) rfl ?_
            refine w_ireturn (Ev.cm _) rfl trivial rf0 ?_
            cases q
            exact g
          · have c4 : ¬ (r2 < 0) := c4
            rw [if_neg c4] at q
            refine w_iconst (Ev.cm _) rfl ?_
            refine w_ireturn (Ev.cm _) rfl trivial rf0 ?_
            cases q
            exact g
        · have c3 : r1 = 0 := c3
          rw [if_pos c3] at q
          refine w_goto (Ev.cm _) rfl ?_
          show Wp _ _ _ _ _ _ _ 15 [(0, .ref 331), (1, .int r1)] [] (HS I1 L1 X)
          refine Wp.sub [0] (ls2 := [(0, .ref 331)]) rfl ?_
          exact ih _ _ q
      · have c2 : ¬ (r1 ≤ 0) := c2
        rw [if_neg c2] at q
        refine w_iload_n (Ev.cm _) rfl rfl ?_
        refine w_ireturn (Ev.cm _) rfl trivial rf0 ?_
        cases q
        exact g
    · have c1 : ¬ (I 331 18 = 0) := c1
      rw [if_neg c1] at q
      refine w_aload_n (Ev.cm _) rfl rfl ?_
      obtain ⟨⟨r4, I4, L4⟩, e4, q⟩ := obs q
      dsimp only at q
      refine w_cvirt (o := 331) (as := []) (st := []) (Ev.cm _) rfl rfl rfl (Nat.le_of_ble_eq_true rfl) (Nat.le_of_ble_eq_true rfl) rfl (Nat.le_of_ble_eq_true rfl) (eo_M_behindOne (g := ?_) e4)
      show Wp _ _ _ _ _ _ _ 26 [(0, .ref 331)] [.int r4] (HS I4 L4 X)
      refine w_goto (Ev.cm _) rfl ?_
      refine w_istore_n (ls2 := [(0, .ref 331), (1, .int r4)]) (Ev.cm _) rfl rfl ?_
      refine w_iload_n (Ev.cm _) rfl rfl ?_
      refine w_if_le (Ev.cm _) rfl (fun c5 => ?_) (fun c5 => ?_)
      · have c5 : r4 ≤ 0 := c5
        rw [if_pos c5] at q
        refine w_iload_n (Ev.cm _) rfl rfl ?_
        refine w_if_ne (Ev.cm _) rfl (fun c6 => ?_) (fun c6 => ?_)
        · have c6 : ¬ (r4 = 0) := c6
          rw [if_neg c6] at q
          refine w_aload_n (Ev.cm _) rfl rfl ?_
          obtain ⟨⟨r5, I5, L5⟩, e5, q⟩ := obs q
          dsimp only at q
          refine w_cvirt (o := 331) (as := []) (st := []) (Ev.cm _) rfl rfl rfl (Nat.le_of_ble_eq_true rfl) (Nat.le_of_ble_eq_true rfl) rfl (Nat.le_of_ble_eq_true rfl) (eo_M_openNow (g := ?_) e5)
          show Wp _ _ _ _ _ _ _ 51 [(0, .ref 331), (1, .int r4)] [.int r5] (HS I5 L5 X)
          refine w_if_lt (Ev.cm _) rfl (fun c7 => ?_) (fun c7 => ?_)
          · have c7 : r5 < 0 := c7
            rw [if_pos c7] at q
            refine w_aload_n (Ev.cm _) rfl rfl ?_
            refine w_iconst (Ev.cm _) rfl ?_
            obtain ⟨⟨r6, I6, L6⟩, e6, q⟩ := obs q
            dsimp only at q
            refine w_cvirt (o := 331) (as := [.int 1]) (st := []) (Ev.cm _) rfl rfl rfl (Nat.le_of_ble_eq_true rfl) (Nat.le_of_ble_eq_true rfl) rfl (Nat.le_of_ble_eq_true rfl) (eo_M_settle (g := ?_) e6)
            show Wp _ _ _ _ _ _ _ 61 [(0, .ref 331), (1, .int r4)] [] (HS I6 L6 X)
            refine w_iconst (Ev.cm _) rfl ?_
            refine w_ireturn (Ev.cm _) rfl trivial rf0 ?_
            cases q
            exact g
          · have c7 : ¬ (r5 < 0) := c7
            rw [if_neg c7] at q
            refine w_iconst (Ev.cm _) rfl ?_
            refine w_ireturn (Ev.cm _) rfl trivial rf0 ?_
            cases q
            exact g
        · have c6 : r4 = 0 := c6
          rw [if_pos c6] at q
          refine w_goto (Ev.cm _) rfl ?_
          show Wp _ _ _ _ _ _ _ 15 [(0, .ref 331), (1, .int r4)] [] (HS I4 L4 X)
          refine Wp.sub [0] (ls2 := [(0, .ref 331)]) rfl ?_
          exact ih _ _ q
      · have c5 : ¬ (r4 ≤ 0) := c5
        rw [if_neg c5] at q
        refine w_iload_n (Ev.cm _) rfl rfl ?_
        refine w_ireturn (Ev.cm _) rfl trivial rf0 ?_
        cases q
        exact g
def FO_M_summed (fu : Nat) (I : Nat → Nat → Int32) (L : Nat → Nat → Int64) : Option (Int32 × (Nat → Nat → Int32) × (Nat → Nat → Int64)) := LO_M_summed_15 fu fu  (sI (sI (sI I 331 16 0) 331 17 0) 331 18 0) L
set_option maxHeartbeats 20000000 in
theorem eo_M_summed {d fu : Nat} {I : Nat → Nat → Int32} {L : Nat → Nat → Int64} {X : Nat × (Nat → Int32)} {Q : PQ} {res : Int32 × (Nat → Nat → Int32) × (Nat → Nat → Int64)} (g : Q (some (.int res.1)) (HS res.2.1 res.2.2 X)) (q : FO_M_summed fu  I L = some res) : Ev (d + 8) m_M_summed [.ref 331] (HS I L X) Q := by
  unfold FO_M_summed at q
  refine ev_start (d := d + 7) rfl rfl rfl (Nat.le_of_ble_eq_true rfl) ?_
  show Wp (Ev (d + 7)) cd_M_summed (0, 0) (some .int) _ _ Q 0 [(0, .ref 331)] [] (HS I L X)
  refine w_aload_n (Ev.cm _) rfl rfl ?_
  refine w_iconst (Ev.cm _) rfl ?_
  refine w_putI (Ev.cm _) rfl (Nat.le_of_ble_eq_true rfl) rfl ?_
  refine w_aload_n (Ev.cm _) rfl rfl ?_
  refine w_iconst (Ev.cm _) rfl ?_
  refine w_putI (Ev.cm _) rfl (Nat.le_of_ble_eq_true rfl) rfl ?_
  refine w_aload_n (Ev.cm _) rfl rfl ?_
  refine w_iconst (Ev.cm _) rfl ?_
  refine w_putZ (Ev.cm _) rfl (Nat.le_of_ble_eq_true rfl) rfl (by first | decide | exact bI_b) ?_
  show Wp _ _ _ _ _ _ _ 15 [(0, .ref 331)] [] (HS (sI (sI (sI I 331 16 0) 331 17 0) 331 18 0) L X)
  refine Wp.sub [0] (ls2 := [(0, .ref 331)]) rfl ?_
  exact lo_M_summed_15 g fu _ _ q
def FO_M_lawClause (fu : Nat) (p0 : Int32) (I : Nat → Nat → Int32) (L : Nat → Nat → Int64) : Option (Int32 × (Nat → Nat → Int32) × (Nat → Nat → Int64)) := if 0 ≤ p0 + 1 ∧ p0 + 1 < 2724 then ((FO_M_summed fu  (sI I 334 ((p0 + 1).toNatClampNeg) (I 331 13)) L).bind (fun u2 => let r2 := u2.1; let I2 := u2.2.1; let L2 := u2.2.2; if 0 ≤ p0 + 2 ∧ p0 + 2 < 2724 then (some (r2, sI I2 334 ((p0 + 2).toNatClampNeg) (I2 331 13), L2)) else none)) else none
set_option maxHeartbeats 20000000 in
theorem eo_M_lawClause {d fu : Nat} {p0 : Int32} {I : Nat → Nat → Int32} {L : Nat → Nat → Int64} {X : Nat × (Nat → Int32)} {Q : PQ} {res : Int32 × (Nat → Nat → Int32) × (Nat → Nat → Int64)} (g : Q (some (.int res.1)) (HS res.2.1 res.2.2 X)) (q : FO_M_lawClause fu p0 I L = some res) : Ev (d + 9) m_M_lawClause [.ref 331, .int p0] (HS I L X) Q := by
  unfold FO_M_lawClause at q
  refine ev_start (d := d + 8) rfl rfl rfl (Nat.le_of_ble_eq_true rfl) ?_
  show Wp (Ev (d + 8)) cd_M_lawClause (0, 0) (some .int) _ _ Q 0 [(0, .ref 331), (1, .int p0)] [] (HS I L X)
  refine w_aload_n (Ev.cm _) rfl rfl ?_
  refine w_getR (q := 334) (Ev.cm _) rfl (Nat.le_of_ble_eq_true rfl) rfl rfl ?_
  refine w_iload_n (Ev.cm _) rfl rfl ?_
  refine w_iconst (Ev.cm _) rfl ?_
  refine w_iadd (Ev.cm _) rfl ?_
  refine w_aload_n (Ev.cm _) rfl rfl ?_
  refine w_getI (Ev.cm _) rfl (Nat.le_of_ble_eq_true rfl) rfl ?_
  obtain ⟨b1, q⟩ := ois q
  refine w_iast (Ev.cm _) rfl (Nat.le_of_ble_eq_true rfl) rfl (show vp_in (p0 + 1) 2724 from vpI 2724 (by decide) b1.1 b1.2) ?_
  refine w_aload_n (Ev.cm _) rfl rfl ?_
  obtain ⟨⟨r2, I2, L2⟩, e2, q⟩ := obs q
  dsimp only at q
  refine w_cvirt (o := 331) (as := []) (st := []) (Ev.cm _) rfl rfl rfl (Nat.le_of_ble_eq_true rfl) (Nat.le_of_ble_eq_true rfl) rfl (Nat.le_of_ble_eq_true rfl) (eo_M_summed (g := ?_) e2)
  show Wp _ _ _ _ _ _ _ 16 [(0, .ref 331), (1, .int p0)] [.int r2] (HS I2 L2 X)
  refine w_istore_n (ls2 := [(0, .ref 331), (1, .int p0), (2, .int r2)]) (Ev.cm _) rfl rfl ?_
  refine w_aload_n (Ev.cm _) rfl rfl ?_
  refine w_getR (q := 334) (Ev.cm _) rfl (Nat.le_of_ble_eq_true rfl) rfl rfl ?_
  refine w_iload_n (Ev.cm _) rfl rfl ?_
  refine w_iconst (Ev.cm _) rfl ?_
  refine w_iadd (Ev.cm _) rfl ?_
  refine w_aload_n (Ev.cm _) rfl rfl ?_
  refine w_getI (Ev.cm _) rfl (Nat.le_of_ble_eq_true rfl) rfl ?_
  obtain ⟨b3, q⟩ := ois q
  refine w_iast (Ev.cm _) rfl (Nat.le_of_ble_eq_true rfl) rfl (show vp_in (p0 + 2) 2724 from vpI 2724 (by decide) b3.1 b3.2) ?_
  refine w_iload_n (Ev.cm _) rfl rfl ?_
  refine w_ireturn (Ev.cm _) rfl trivial rf0 ?_
  cases q
  exact g
def FO_M_body (fu : Nat) (p0 : Int32) (p1 : Int32) (I : Nat → Nat → Int32) (L : Nat → Nat → Int64) : Option (Int32 × (Nat → Nat → Int32) × (Nat → Nat → Int64)) := if p0 = 2 then ((FO_M_w5 fu 102 108 111 111 114 I L).bind (fun u1 => let r1 := u1.1; let I1 := u1.2.1; let L1 := u1.2.2; (FO_M_pair fu p1 1 9 r1 1 12 I1 L1).bind (fun u2 => let r2 := u2.1; let I2 := u2.2.1; let L2 := u2.2.2; some (r2, I2, L2)))) else (if p0 = 3 then ((FO_M_w2 fu 98 121 I L).bind (fun u3 => let r3 := u3.1; let I3 := u3.2.1; let L3 := u3.2.2; (FO_M_pair fu p1 1 3 r3 0 5 I3 L3).bind (fun u4 => let r4 := u4.1; let I4 := u4.2.1; let L4 := u4.2.2; some (r4, I4, L4)))) else (if p0 = 4 then ((FO_M_w2 fu 98 121 I L).bind (fun u5 => let r5 := u5.1; let I5 := u5.2.1; let L5 := u5.2.2; (FO_M_pair fu p1 1 3 r5 0 5 I5 L5).bind (fun u6 => let r6 := u6.1; let I6 := u6.2.1; let L6 := u6.2.2; some (r6, I6, L6)))) else (if p0 = 5 then ((FO_M_figure fu (p1 + 1) 1 12 I L).bind (fun u7 => let r7 := u7.1; let I7 := u7.2.1; let L7 := u7.2.2; some (r7, I7, L7))) else (if p0 = 6 then ((FO_M_figure fu (p1 + 1) 1 12 I L).bind (fun u8 => let r8 := u8.1; let I8 := u8.2.1; let L8 := u8.2.2; some (r8, I8, L8))) else (if p0 = 7 then ((FO_M_figure fu (p1 + 1) 1 60 I L).bind (fun u9 => let r9 := u9.1; let I9 := u9.2.1; let L9 := u9.2.2; some (r9, I9, L9))) else ((FO_M_lawClause fu p1 I L).bind (fun u10 => let r10 := u10.1; let I10 := u10.2.1; let L10 := u10.2.2; some (r10, I10, L10))))))))
set_option maxHeartbeats 20000000 in
theorem eo_M_body {d fu : Nat} {p0 : Int32} {p1 : Int32} {I : Nat → Nat → Int32} {L : Nat → Nat → Int64} {X : Nat × (Nat → Int32)} {Q : PQ} {res : Int32 × (Nat → Nat → Int32) × (Nat → Nat → Int64)} (g : Q (some (.int res.1)) (HS res.2.1 res.2.2 X)) (q : FO_M_body fu p0 p1 I L = some res) : Ev (d + 10) m_M_body [.ref 331, .int p0, .int p1] (HS I L X) Q := by
  unfold FO_M_body at q
  refine ev_start (d := d + 9) rfl rfl rfl (Nat.le_of_ble_eq_true rfl) ?_
  show Wp (Ev (d + 9)) cd_M_body (0, 0) (some .int) _ _ Q 0 [(0, .ref 331), (1, .int p0), (2, .int p1)] [] (HS I L X)
  refine w_iload_n (Ev.cm _) rfl rfl ?_
  refine w_tswL (Ev.cm _) [(2, 39), (3, 64), (4, 81), (5, 98), (6, 109), (7, 120)] rfl (by decide) (by decide) ?_
  refine ⟨fun c1 => ?_, fun c1_0 => ⟨fun c1 => ?_, fun c1_1 => ⟨fun c1 => ?_, fun c1_2 => ⟨fun c1 => ?_, fun c1_3 => ⟨fun c1 => ?_, fun c1_4 => ⟨fun c1 => ?_, fun c1_5 => ?_⟩⟩⟩⟩⟩⟩
  · have c1 : p0 = 2 := sw_v c1 (by decide)
    rw [if_pos c1] at q
    show Wp _ _ _ _ _ _ _ 40 [(0, .ref 331), (1, .int p0), (2, .int p1)] [] (HS I L X)
    refine w_aload_n (Ev.cm _) rfl rfl ?_
    refine w_iload_n (Ev.cm _) rfl rfl ?_
    refine w_iconst (Ev.cm _) rfl ?_
    refine w_bipush (Ev.cm _) rfl ?_
    refine w_bipush (Ev.cm _) rfl ?_
    refine w_bipush (Ev.cm _) rfl ?_
    refine w_bipush (Ev.cm _) rfl ?_
    refine w_bipush (Ev.cm _) rfl ?_
    refine w_bipush (Ev.cm _) rfl ?_
    obtain ⟨⟨r1, I1, L1⟩, e1, q⟩ := obs q
    dsimp only at q
    refine w_cstat (as := [.int 102, .int 108, .int 111, .int 111, .int 114]) (st := [.int 9, .int 1, .int p1, .ref 331]) (Ev.cm _) rfl rfl rfl (Nat.le_of_ble_eq_true rfl) (Nat.le_of_ble_eq_true rfl) (eo_M_w5 (g := ?_) e1)
    show Wp _ _ _ _ _ _ _ 58 [(0, .ref 331), (1, .int p0), (2, .int p1)] [.long r1, .int 9, .int 1, .int p1, .ref 331] (HS I1 L1 X)
    refine w_iconst (Ev.cm _) rfl ?_
    refine w_bipush (Ev.cm _) rfl ?_
    obtain ⟨⟨r2, I2, L2⟩, e2, q⟩ := obs q
    dsimp only at q
    refine w_cvirt (o := 331) (as := [.int p1, .int 1, .int 9, .long r1, .int 1, .int 12]) (st := []) (Ev.cm _) rfl rfl rfl (Nat.le_of_ble_eq_true rfl) (Nat.le_of_ble_eq_true rfl) rfl (Nat.le_of_ble_eq_true rfl) (eo_M_pair (g := ?_) e2)
    show Wp _ _ _ _ _ _ _ 64 [(0, .ref 331), (1, .int p0), (2, .int p1)] [.int r2] (HS I2 L2 X)
    refine w_ireturn (Ev.cm _) rfl trivial rf0 ?_
    cases q
    exact g
  · have c1_0 : ¬ p0 = 2 := sw_w c1_0 (by decide)
    have c1 : p0 = 3 := sw_v c1 (by decide)
    rw [if_neg c1_0, if_pos c1] at q
    show Wp _ _ _ _ _ _ _ 65 [(0, .ref 331), (1, .int p0), (2, .int p1)] [] (HS I L X)
    refine w_aload_n (Ev.cm _) rfl rfl ?_
    refine w_iload_n (Ev.cm _) rfl rfl ?_
    refine w_iconst (Ev.cm _) rfl ?_
    refine w_iconst (Ev.cm _) rfl ?_
    refine w_bipush (Ev.cm _) rfl ?_
    refine w_bipush (Ev.cm _) rfl ?_
    obtain ⟨⟨r3, I3, L3⟩, e3, q⟩ := obs q
    dsimp only at q
    refine w_cstat (as := [.int 98, .int 121]) (st := [.int 3, .int 1, .int p1, .ref 331]) (Ev.cm _) rfl rfl rfl (Nat.le_of_ble_eq_true rfl) (Nat.le_of_ble_eq_true rfl) (eo_M_w2 (g := ?_) e3)
    show Wp _ _ _ _ _ _ _ 76 [(0, .ref 331), (1, .int p0), (2, .int p1)] [.long r3, .int 3, .int 1, .int p1, .ref 331] (HS I3 L3 X)
    refine w_iconst (Ev.cm _) rfl ?_
    refine w_iconst (Ev.cm _) rfl ?_
    obtain ⟨⟨r4, I4, L4⟩, e4, q⟩ := obs q
    dsimp only at q
    refine w_cvirt (o := 331) (as := [.int p1, .int 1, .int 3, .long r3, .int 0, .int 5]) (st := []) (Ev.cm _) rfl rfl rfl (Nat.le_of_ble_eq_true rfl) (Nat.le_of_ble_eq_true rfl) rfl (Nat.le_of_ble_eq_true rfl) (eo_M_pair (g := ?_) e4)
    show Wp _ _ _ _ _ _ _ 81 [(0, .ref 331), (1, .int p0), (2, .int p1)] [.int r4] (HS I4 L4 X)
    refine w_ireturn (Ev.cm _) rfl trivial rf0 ?_
    cases q
    exact g
  · have c1_0 : ¬ p0 = 2 := sw_w c1_0 (by decide)
    have c1_1 : ¬ p0 = 3 := sw_w c1_1 (by decide)
    have c1 : p0 = 4 := sw_v c1 (by decide)
    rw [if_neg c1_0, if_neg c1_1, if_pos c1] at q
    show Wp _ _ _ _ _ _ _ 82 [(0, .ref 331), (1, .int p0), (2, .int p1)] [] (HS I L X)
    refine w_aload_n (Ev.cm _) rfl rfl ?_
    refine w_iload_n (Ev.cm _) rfl rfl ?_
    refine w_iconst (Ev.cm _) rfl ?_
    refine w_iconst (Ev.cm _) rfl ?_
    refine w_bipush (Ev.cm _) rfl ?_
    refine w_bipush (Ev.cm _) rfl ?_
    obtain ⟨⟨r5, I5, L5⟩, e5, q⟩ := obs q
    dsimp only at q
    refine w_cstat (as := [.int 98, .int 121]) (st := [.int 3, .int 1, .int p1, .ref 331]) (Ev.cm _) rfl rfl rfl (Nat.le_of_ble_eq_true rfl) (Nat.le_of_ble_eq_true rfl) (eo_M_w2 (g := ?_) e5)
    show Wp _ _ _ _ _ _ _ 93 [(0, .ref 331), (1, .int p0), (2, .int p1)] [.long r5, .int 3, .int 1, .int p1, .ref 331] (HS I5 L5 X)
    refine w_iconst (Ev.cm _) rfl ?_
    refine w_iconst (Ev.cm _) rfl ?_
    obtain ⟨⟨r6, I6, L6⟩, e6, q⟩ := obs q
    dsimp only at q
    refine w_cvirt (o := 331) (as := [.int p1, .int 1, .int 3, .long r5, .int 0, .int 5]) (st := []) (Ev.cm _) rfl rfl rfl (Nat.le_of_ble_eq_true rfl) (Nat.le_of_ble_eq_true rfl) rfl (Nat.le_of_ble_eq_true rfl) (eo_M_pair (g := ?_) e6)
    show Wp _ _ _ _ _ _ _ 98 [(0, .ref 331), (1, .int p0), (2, .int p1)] [.int r6] (HS I6 L6 X)
    refine w_ireturn (Ev.cm _) rfl trivial rf0 ?_
    cases q
    exact g
  · have c1_0 : ¬ p0 = 2 := sw_w c1_0 (by decide)
    have c1_1 : ¬ p0 = 3 := sw_w c1_1 (by decide)
    have c1_2 : ¬ p0 = 4 := sw_w c1_2 (by decide)
    have c1 : p0 = 5 := sw_v c1 (by decide)
    rw [if_neg c1_0, if_neg c1_1, if_neg c1_2, if_pos c1] at q
    show Wp _ _ _ _ _ _ _ 99 [(0, .ref 331), (1, .int p0), (2, .int p1)] [] (HS I L X)
    refine w_aload_n (Ev.cm _) rfl rfl ?_
    refine w_iload_n (Ev.cm _) rfl rfl ?_
    refine w_iconst (Ev.cm _) rfl ?_
    refine w_iadd (Ev.cm _) rfl ?_
    refine w_iconst (Ev.cm _) rfl ?_
    refine w_bipush (Ev.cm _) rfl ?_
    obtain ⟨⟨r7, I7, L7⟩, e7, q⟩ := obs q
    dsimp only at q
    refine w_cvirt (o := 331) (as := [.int (p1 + 1), .int 1, .int 12]) (st := []) (Ev.cm _) rfl rfl rfl (Nat.le_of_ble_eq_true rfl) (Nat.le_of_ble_eq_true rfl) rfl (Nat.le_of_ble_eq_true rfl) (eo_M_figure (g := ?_) e7)
    show Wp _ _ _ _ _ _ _ 109 [(0, .ref 331), (1, .int p0), (2, .int p1)] [.int r7] (HS I7 L7 X)
    refine w_ireturn (Ev.cm _) rfl trivial rf0 ?_
    cases q
    exact g
  · have c1_0 : ¬ p0 = 2 := sw_w c1_0 (by decide)
    have c1_1 : ¬ p0 = 3 := sw_w c1_1 (by decide)
    have c1_2 : ¬ p0 = 4 := sw_w c1_2 (by decide)
    have c1_3 : ¬ p0 = 5 := sw_w c1_3 (by decide)
    have c1 : p0 = 6 := sw_v c1 (by decide)
    rw [if_neg c1_0, if_neg c1_1, if_neg c1_2, if_neg c1_3, if_pos c1] at q
    show Wp _ _ _ _ _ _ _ 110 [(0, .ref 331), (1, .int p0), (2, .int p1)] [] (HS I L X)
    refine w_aload_n (Ev.cm _) rfl rfl ?_
    refine w_iload_n (Ev.cm _) rfl rfl ?_
    refine w_iconst (Ev.cm _) rfl ?_
    refine w_iadd (Ev.cm _) rfl ?_
    refine w_iconst (Ev.cm _) rfl ?_
    refine w_bipush (Ev.cm _) rfl ?_
    obtain ⟨⟨r8, I8, L8⟩, e8, q⟩ := obs q
    dsimp only at q
    refine w_cvirt (o := 331) (as := [.int (p1 + 1), .int 1, .int 12]) (st := []) (Ev.cm _) rfl rfl rfl (Nat.le_of_ble_eq_true rfl) (Nat.le_of_ble_eq_true rfl) rfl (Nat.le_of_ble_eq_true rfl) (eo_M_figure (g := ?_) e8)
    show Wp _ _ _ _ _ _ _ 120 [(0, .ref 331), (1, .int p0), (2, .int p1)] [.int r8] (HS I8 L8 X)
    refine w_ireturn (Ev.cm _) rfl trivial rf0 ?_
    cases q
    exact g
  · have c1_0 : ¬ p0 = 2 := sw_w c1_0 (by decide)
    have c1_1 : ¬ p0 = 3 := sw_w c1_1 (by decide)
    have c1_2 : ¬ p0 = 4 := sw_w c1_2 (by decide)
    have c1_3 : ¬ p0 = 5 := sw_w c1_3 (by decide)
    have c1_4 : ¬ p0 = 6 := sw_w c1_4 (by decide)
    have c1 : p0 = 7 := sw_v c1 (by decide)
    rw [if_neg c1_0, if_neg c1_1, if_neg c1_2, if_neg c1_3, if_neg c1_4, if_pos c1] at q
    show Wp _ _ _ _ _ _ _ 121 [(0, .ref 331), (1, .int p0), (2, .int p1)] [] (HS I L X)
    refine w_aload_n (Ev.cm _) rfl rfl ?_
    refine w_iload_n (Ev.cm _) rfl rfl ?_
    refine w_iconst (Ev.cm _) rfl ?_
    refine w_iadd (Ev.cm _) rfl ?_
    refine w_iconst (Ev.cm _) rfl ?_
    refine w_bipush (Ev.cm _) rfl ?_
    obtain ⟨⟨r9, I9, L9⟩, e9, q⟩ := obs q
    dsimp only at q
    refine w_cvirt (o := 331) (as := [.int (p1 + 1), .int 1, .int 60]) (st := []) (Ev.cm _) rfl rfl rfl (Nat.le_of_ble_eq_true rfl) (Nat.le_of_ble_eq_true rfl) rfl (Nat.le_of_ble_eq_true rfl) (eo_M_figure (g := ?_) e9)
    show Wp _ _ _ _ _ _ _ 131 [(0, .ref 331), (1, .int p0), (2, .int p1)] [.int r9] (HS I9 L9 X)
    refine w_ireturn (Ev.cm _) rfl trivial rf0 ?_
    cases q
    exact g
  · have c1_0 : ¬ p0 = 2 := sw_w c1_0 (by decide)
    have c1_1 : ¬ p0 = 3 := sw_w c1_1 (by decide)
    have c1_2 : ¬ p0 = 4 := sw_w c1_2 (by decide)
    have c1_3 : ¬ p0 = 5 := sw_w c1_3 (by decide)
    have c1_4 : ¬ p0 = 6 := sw_w c1_4 (by decide)
    have c1_5 : ¬ p0 = 7 := sw_w c1_5 (by decide)
    rw [if_neg c1_0, if_neg c1_1, if_neg c1_2, if_neg c1_3, if_neg c1_4, if_neg c1_5] at q
    show Wp _ _ _ _ _ _ _ 132 [(0, .ref 331), (1, .int p0), (2, .int p1)] [] (HS I L X)
    refine w_aload_n (Ev.cm _) rfl rfl ?_
    refine w_iload_n (Ev.cm _) rfl rfl ?_
    obtain ⟨⟨r10, I10, L10⟩, e10, q⟩ := obs q
    dsimp only at q
    refine w_cvirt (o := 331) (as := [.int p1]) (st := []) (Ev.cm _) rfl rfl rfl (Nat.le_of_ble_eq_true rfl) (Nat.le_of_ble_eq_true rfl) rfl (Nat.le_of_ble_eq_true rfl) (eo_M_lawClause (g := ?_) e10)
    show Wp _ _ _ _ _ _ _ 137 [(0, .ref 331), (1, .int p0), (2, .int p1)] [.int r10] (HS I10 L10 X)
    refine w_ireturn (Ev.cm _) rfl trivial rf0 ?_
    cases q
    exact g
def FO_M_clause (fu : Nat) (I : Nat → Nat → Int32) (L : Nat → Nat → Int64) : Option (Int32 × (Nat → Nat → Int32) × (Nat → Nat → Int64)) := (FO_M_sortOf fu  I L).bind (fun u1 => let r1 := u1.1; let I1 := u1.2.1; let L1 := u1.2.2; if 0 ≤ r1 then (if 1 < r1 then (if 0 ≤ I1 331 12 ∧ I1 331 12 < 2724 then (if I1 334 ((I1 331 12).toNatClampNeg) = 24 then (some (6, I1, L1)) else (if 1 < r1 then ((FO_M_nextToken fu  (sI I1 331 14 r1) L1).bind (fun u3 => let r3 := u3.1; let I3 := u3.2.1; let L3 := u3.2.2; if 0 ≤ ((I3 331 12) + 1) + ((3 : Int32) * (I1 334 ((I1 331 12).toNatClampNeg))) ∧ ((I3 331 12) + 1) + ((3 : Int32) * (I1 334 ((I1 331 12).toNatClampNeg))) < 2724 then ((FO_M_body fu r1 (((I3 331 12) + 1) + ((3 : Int32) * (I1 334 ((I1 331 12).toNatClampNeg)))) (sI I3 334 ((((I3 331 12) + 1) + ((3 : Int32) * (I1 334 ((I1 331 12).toNatClampNeg)))).toNatClampNeg) r1) L3).bind (fun u5 => let r5 := u5.1; let I5 := u5.2.1; let L5 := u5.2.2; if r5 = 0 then (if 0 ≤ I5 331 12 ∧ I5 331 12 < 2724 then (if 0 ≤ I5 331 12 ∧ I5 331 12 < 2724 then (if I5 331 9 = 59 then ((FO_M_nextToken fu  (sI I5 334 ((I5 331 12).toNatClampNeg) ((I5 334 ((I5 331 12).toNatClampNeg)) + 1)) L5).bind (fun u8 => let r8 := u8.1; let I8 := u8.2.1; let L8 := u8.2.2; some (0, I8, L8))) else (some (1, sI I5 334 ((I5 331 12).toNatClampNeg) ((I5 334 ((I5 331 12).toNatClampNeg)) + 1), L5))) else none) else none) else (some (r5, I5, L5)))) else none)) else ((FO_M_nextToken fu  (sI (sI I1 331 19 ((I1 331 19) ||| ((1 : Int32) <<< (r1 &&& 31)))) 331 14 r1) L1).bind (fun u9 => let r9 := u9.1; let I9 := u9.2.1; let L9 := u9.2.2; if 0 ≤ ((I9 331 12) + 1) + ((3 : Int32) * (I1 334 ((I1 331 12).toNatClampNeg))) ∧ ((I9 331 12) + 1) + ((3 : Int32) * (I1 334 ((I1 331 12).toNatClampNeg))) < 2724 then ((FO_M_body fu r1 (((I9 331 12) + 1) + ((3 : Int32) * (I1 334 ((I1 331 12).toNatClampNeg)))) (sI I9 334 ((((I9 331 12) + 1) + ((3 : Int32) * (I1 334 ((I1 331 12).toNatClampNeg)))).toNatClampNeg) r1) L9).bind (fun u11 => let r11 := u11.1; let I11 := u11.2.1; let L11 := u11.2.2; if r11 = 0 then (if 0 ≤ I11 331 12 ∧ I11 331 12 < 2724 then (if 0 ≤ I11 331 12 ∧ I11 331 12 < 2724 then (if I11 331 9 = 59 then ((FO_M_nextToken fu  (sI I11 334 ((I11 331 12).toNatClampNeg) ((I11 334 ((I11 331 12).toNatClampNeg)) + 1)) L11).bind (fun u14 => let r14 := u14.1; let I14 := u14.2.1; let L14 := u14.2.2; some (0, I14, L14))) else (some (1, sI I11 334 ((I11 331 12).toNatClampNeg) ((I11 334 ((I11 331 12).toNatClampNeg)) + 1), L11))) else none) else none) else (some (r11, I11, L11)))) else none)))) else none) else ((FO_M_has fu (I1 331 19) r1 I1 L1).bind (fun u15 => let r15 := u15.1; let I15 := u15.2.1; let L15 := u15.2.2; if r15 = 0 then (if 0 ≤ I15 331 12 ∧ I15 331 12 < 2724 then (if I15 334 ((I15 331 12).toNatClampNeg) = 24 then (some (6, I15, L15)) else (if 1 < r1 then ((FO_M_nextToken fu  (sI I15 331 14 r1) L15).bind (fun u17 => let r17 := u17.1; let I17 := u17.2.1; let L17 := u17.2.2; if 0 ≤ ((I17 331 12) + 1) + ((3 : Int32) * (I15 334 ((I15 331 12).toNatClampNeg))) ∧ ((I17 331 12) + 1) + ((3 : Int32) * (I15 334 ((I15 331 12).toNatClampNeg))) < 2724 then ((FO_M_body fu r1 (((I17 331 12) + 1) + ((3 : Int32) * (I15 334 ((I15 331 12).toNatClampNeg)))) (sI I17 334 ((((I17 331 12) + 1) + ((3 : Int32) * (I15 334 ((I15 331 12).toNatClampNeg)))).toNatClampNeg) r1) L17).bind (fun u19 => let r19 := u19.1; let I19 := u19.2.1; let L19 := u19.2.2; if r19 = 0 then (if 0 ≤ I19 331 12 ∧ I19 331 12 < 2724 then (if 0 ≤ I19 331 12 ∧ I19 331 12 < 2724 then (if I19 331 9 = 59 then ((FO_M_nextToken fu  (sI I19 334 ((I19 331 12).toNatClampNeg) ((I19 334 ((I19 331 12).toNatClampNeg)) + 1)) L19).bind (fun u22 => let r22 := u22.1; let I22 := u22.2.1; let L22 := u22.2.2; some (0, I22, L22))) else (some (1, sI I19 334 ((I19 331 12).toNatClampNeg) ((I19 334 ((I19 331 12).toNatClampNeg)) + 1), L19))) else none) else none) else (some (r19, I19, L19)))) else none)) else ((FO_M_nextToken fu  (sI (sI I15 331 19 ((I15 331 19) ||| ((1 : Int32) <<< (r1 &&& 31)))) 331 14 r1) L15).bind (fun u23 => let r23 := u23.1; let I23 := u23.2.1; let L23 := u23.2.2; if 0 ≤ ((I23 331 12) + 1) + ((3 : Int32) * (I15 334 ((I15 331 12).toNatClampNeg))) ∧ ((I23 331 12) + 1) + ((3 : Int32) * (I15 334 ((I15 331 12).toNatClampNeg))) < 2724 then ((FO_M_body fu r1 (((I23 331 12) + 1) + ((3 : Int32) * (I15 334 ((I15 331 12).toNatClampNeg)))) (sI I23 334 ((((I23 331 12) + 1) + ((3 : Int32) * (I15 334 ((I15 331 12).toNatClampNeg)))).toNatClampNeg) r1) L23).bind (fun u25 => let r25 := u25.1; let I25 := u25.2.1; let L25 := u25.2.2; if r25 = 0 then (if 0 ≤ I25 331 12 ∧ I25 331 12 < 2724 then (if 0 ≤ I25 331 12 ∧ I25 331 12 < 2724 then (if I25 331 9 = 59 then ((FO_M_nextToken fu  (sI I25 334 ((I25 331 12).toNatClampNeg) ((I25 334 ((I25 331 12).toNatClampNeg)) + 1)) L25).bind (fun u28 => let r28 := u28.1; let I28 := u28.2.1; let L28 := u28.2.2; some (0, I28, L28))) else (some (1, sI I25 334 ((I25 331 12).toNatClampNeg) ((I25 334 ((I25 331 12).toNatClampNeg)) + 1), L25))) else none) else none) else (some (r25, I25, L25)))) else none)))) else none) else (some (4, I15, L15))))) else (some (1, I1, L1)))
set_option maxHeartbeats 20000000 in
theorem eo_M_clause {d fu : Nat} {I : Nat → Nat → Int32} {L : Nat → Nat → Int64} {X : Nat × (Nat → Int32)} {Q : PQ} {res : Int32 × (Nat → Nat → Int32) × (Nat → Nat → Int64)} (g : Q (some (.int res.1)) (HS res.2.1 res.2.2 X)) (q : FO_M_clause fu  I L = some res) : Ev (d + 11) m_M_clause [.ref 331] (HS I L X) Q := by
  unfold FO_M_clause at q
  refine ev_start (d := d + 10) rfl rfl rfl (Nat.le_of_ble_eq_true rfl) ?_
  show Wp (Ev (d + 10)) cd_M_clause (0, 0) (some .int) _ _ Q 0 [(0, .ref 331)] [] (HS I L X)
  refine w_aload_n (Ev.cm _) rfl rfl ?_
  obtain ⟨⟨r1, I1, L1⟩, e1, q⟩ := obs q
  dsimp only at q
  refine w_cvirt (o := 331) (as := []) (st := []) (Ev.cm _) rfl rfl rfl (Nat.le_of_ble_eq_true rfl) (Nat.le_of_ble_eq_true rfl) rfl (Nat.le_of_ble_eq_true rfl) (eo_M_sortOf (g := ?_) e1)
  show Wp _ _ _ _ _ _ _ 4 [(0, .ref 331)] [.int r1] (HS I1 L1 X)
  refine w_istore_n (ls2 := [(0, .ref 331), (1, .int r1)]) (Ev.cm _) rfl rfl ?_
  refine w_iload_n (Ev.cm _) rfl rfl ?_
  refine w_if_ge (Ev.cm _) rfl (fun c1 => ?_) (fun c1 => ?_)
  · have c1 : 0 ≤ r1 := c1
    rw [if_pos c1] at q
    refine w_iload_n (Ev.cm _) rfl rfl ?_
    refine w_iconst (Ev.cm _) rfl ?_
    refine w_icmp_gt (Ev.cm _) rfl (fun c2 => ?_) (fun c2 => ?_)
    · have c2 : 1 < r1 := c2
      rw [if_pos c2] at q
      refine w_aload_n (Ev.cm _) rfl rfl ?_
      refine w_getR (q := 334) (Ev.cm _) rfl (Nat.le_of_ble_eq_true rfl) rfl rfl ?_
      refine w_aload_n (Ev.cm _) rfl rfl ?_
      refine w_getI (Ev.cm _) rfl (Nat.le_of_ble_eq_true rfl) rfl ?_
      obtain ⟨b2, q⟩ := ois q
      refine w_iald (Ev.cm _) rfl (Nat.le_of_ble_eq_true rfl) rfl (show vp_in (I1 331 12) 2724 from vpI 2724 (by decide) b2.1 b2.2) ?_
      refine w_istore_n (ls2 := [(0, .ref 331), (1, .int r1), (2, .int (I1 334 ((I1 331 12).toNatClampNeg)))]) (Ev.cm _) rfl rfl ?_
      refine w_iload_n (Ev.cm _) rfl rfl ?_
      refine w_bipush (Ev.cm _) rfl ?_
      refine w_icmp_ne (Ev.cm _) rfl (fun c3 => ?_) (fun c3 => ?_)
      · have c3 : ¬ (I1 334 ((I1 331 12).toNatClampNeg) = 24) := c3
        rw [if_neg c3] at q
        refine w_iload_n (Ev.cm _) rfl rfl ?_
        refine w_iconst (Ev.cm _) rfl ?_
        refine w_icmp_gt (Ev.cm _) rfl (fun c4 => ?_) (fun c4 => ?_)
        · have c4 : 1 < r1 := c4
          rw [if_pos c4] at q
          refine w_aload_n (Ev.cm _) rfl rfl ?_
          refine w_iload_n (Ev.cm _) rfl rfl ?_
          refine w_putI (Ev.cm _) rfl (Nat.le_of_ble_eq_true rfl) rfl ?_
          refine w_aload_n (Ev.cm _) rfl rfl ?_
          obtain ⟨⟨r3, I3, L3⟩, e3, q⟩ := obs q
          dsimp only at q
          refine w_cvirt (o := 331) (as := []) (st := []) (Ev.cm _) rfl rfl rfl (Nat.le_of_ble_eq_true rfl) (Nat.le_of_ble_eq_true rfl) rfl (Nat.le_of_ble_eq_true rfl) (eo_M_nextToken (g := ?_) e3)
          show Wp _ _ _ _ _ _ _ 74 [(0, .ref 331), (1, .int r1), (2, .int (I1 334 ((I1 331 12).toNatClampNeg)))] [] (HS I3 L3 X)
          refine w_aload_n (Ev.cm _) rfl rfl ?_
          refine w_getI (Ev.cm _) rfl (Nat.le_of_ble_eq_true rfl) rfl ?_
          refine w_iconst (Ev.cm _) rfl ?_
          refine w_iadd (Ev.cm _) rfl ?_
          refine w_iconst (Ev.cm _) rfl ?_
          refine w_iload_n (Ev.cm _) rfl rfl ?_
          refine w_imul (Ev.cm _) rfl ?_
          refine w_iadd (Ev.cm _) rfl ?_
          refine w_istore_n (ls2 := [(0, .ref 331), (1, .int r1), (2, .int (I1 334 ((I1 331 12).toNatClampNeg))), (3, .int (((I3 331 12) + 1) + ((3 : Int32) * (I1 334 ((I1 331 12).toNatClampNeg)))))]) (Ev.cm _) rfl rfl ?_
          refine w_aload_n (Ev.cm _) rfl rfl ?_
          refine w_getR (q := 334) (Ev.cm _) rfl (Nat.le_of_ble_eq_true rfl) rfl rfl ?_
          refine w_iload_n (Ev.cm _) rfl rfl ?_
          refine w_iload_n (Ev.cm _) rfl rfl ?_
          obtain ⟨b4, q⟩ := ois q
          refine w_iast (Ev.cm _) rfl (Nat.le_of_ble_eq_true rfl) rfl (show vp_in (((I3 331 12) + 1) + ((3 : Int32) * (I1 334 ((I1 331 12).toNatClampNeg)))) 2724 from vpI 2724 (by decide) b4.1 b4.2) ?_
          refine w_aload_n (Ev.cm _) rfl rfl ?_
          refine w_iload_n (Ev.cm _) rfl rfl ?_
          refine w_iload_n (Ev.cm _) rfl rfl ?_
          obtain ⟨⟨r5, I5, L5⟩, e5, q⟩ := obs q
          dsimp only at q
          refine w_cvirt (o := 331) (as := [.int r1, .int (((I3 331 12) + 1) + ((3 : Int32) * (I1 334 ((I1 331 12).toNatClampNeg))))]) (st := []) (Ev.cm _) rfl rfl rfl (Nat.le_of_ble_eq_true rfl) (Nat.le_of_ble_eq_true rfl) rfl (Nat.le_of_ble_eq_true rfl) (eo_M_body (g := ?_) e5)
          show Wp _ _ _ _ _ _ _ 98 [(0, .ref 331), (1, .int r1), (2, .int (I1 334 ((I1 331 12).toNatClampNeg))), (3, .int (((I3 331 12) + 1) + ((3 : Int32) * (I1 334 ((I1 331 12).toNatClampNeg)))))] [.int r5] (HS I5 L5 X)
          refine w_istore (ls2 := [(0, .ref 331), (1, .int r1), (2, .int (I1 334 ((I1 331 12).toNatClampNeg))), (3, .int (((I3 331 12) + 1) + ((3 : Int32) * (I1 334 ((I1 331 12).toNatClampNeg))))), (4, .int r5)]) (Ev.cm _) rfl rfl ?_
          refine w_iload (Ev.cm _) rfl rfl ?_
          refine w_if_eq (Ev.cm _) rfl (fun c5 => ?_) (fun c5 => ?_)
          · have c5 : r5 = 0 := c5
            rw [if_pos c5] at q
            refine w_aload_n (Ev.cm _) rfl rfl ?_
            refine w_getR (q := 334) (Ev.cm _) rfl (Nat.le_of_ble_eq_true rfl) rfl rfl ?_
            refine w_aload_n (Ev.cm _) rfl rfl ?_
            refine w_getI (Ev.cm _) rfl (Nat.le_of_ble_eq_true rfl) rfl ?_
            refine w_dup2 (Ev.cm _) rfl rfl rfl ?_
            obtain ⟨b6, q⟩ := ois q
            refine w_iald (Ev.cm _) rfl (Nat.le_of_ble_eq_true rfl) rfl (show vp_in (I5 331 12) 2724 from vpI 2724 (by decide) b6.1 b6.2) ?_
            refine w_iconst (Ev.cm _) rfl ?_
            refine w_iadd (Ev.cm _) rfl ?_
            obtain ⟨b7, q⟩ := ois q
            refine w_iast (Ev.cm _) rfl (Nat.le_of_ble_eq_true rfl) rfl (show vp_in (I5 331 12) 2724 from vpI 2724 (by decide) b7.1 b7.2) ?_
            refine w_aload_n (Ev.cm _) rfl rfl ?_
            refine w_getI (Ev.cm _) rfl (Nat.le_of_ble_eq_true rfl) rfl ?_
            refine w_bipush (Ev.cm _) rfl ?_
            refine w_icmp_eq (Ev.cm _) rfl (fun c6 => ?_) (fun c6 => ?_)
            · have c6 : I5 331 9 = 59 := c6
              rw [if_pos c6] at q
              refine w_aload_n (Ev.cm _) rfl rfl ?_
              obtain ⟨⟨r8, I8, L8⟩, e8, q⟩ := obs q
              dsimp only at q
              refine w_cvirt (o := 331) (as := []) (st := []) (Ev.cm _) rfl rfl rfl (Nat.le_of_ble_eq_true rfl) (Nat.le_of_ble_eq_true rfl) rfl (Nat.le_of_ble_eq_true rfl) (eo_M_nextToken (g := ?_) e8)
              show Wp _ _ _ _ _ _ _ 136 [(0, .ref 331), (1, .int r1), (2, .int (I1 334 ((I1 331 12).toNatClampNeg))), (3, .int (((I3 331 12) + 1) + ((3 : Int32) * (I1 334 ((I1 331 12).toNatClampNeg))))), (4, .int r5)] [] (HS I8 L8 X)
              refine w_iconst (Ev.cm _) rfl ?_
              refine w_ireturn (Ev.cm _) rfl trivial rf0 ?_
              cases q
              exact g
            · have c6 : ¬ (I5 331 9 = 59) := c6
              rw [if_neg c6] at q
              refine w_iconst (Ev.cm _) rfl ?_
              refine w_ireturn (Ev.cm _) rfl trivial rf0 ?_
              cases q
              exact g
          · have c5 : ¬ (r5 = 0) := c5
            rw [if_neg c5] at q
            refine w_iload (Ev.cm _) rfl rfl ?_
            refine w_ireturn (Ev.cm _) rfl trivial rf0 ?_
            cases q
            exact g
        · have c4 : ¬ (1 < r1) := c4
          rw [if_neg c4] at q
          refine w_aload_n (Ev.cm _) rfl rfl ?_
          refine w_dup (Ev.cm _) rfl rfl ?_
          refine w_getI (Ev.cm _) rfl (Nat.le_of_ble_eq_true rfl) rfl ?_
          refine w_iconst (Ev.cm _) rfl ?_
          refine w_iload_n (Ev.cm _) rfl rfl ?_
          refine w_ishl (Ev.cm _) rfl ?_
          refine w_ior (Ev.cm _) rfl ?_
          refine w_putI (Ev.cm _) rfl (Nat.le_of_ble_eq_true rfl) rfl ?_
          refine w_aload_n (Ev.cm _) rfl rfl ?_
          refine w_iload_n (Ev.cm _) rfl rfl ?_
          refine w_putI (Ev.cm _) rfl (Nat.le_of_ble_eq_true rfl) rfl ?_
          refine w_aload_n (Ev.cm _) rfl rfl ?_
          obtain ⟨⟨r9, I9, L9⟩, e9, q⟩ := obs q
          dsimp only at q
          refine w_cvirt (o := 331) (as := []) (st := []) (Ev.cm _) rfl rfl rfl (Nat.le_of_ble_eq_true rfl) (Nat.le_of_ble_eq_true rfl) rfl (Nat.le_of_ble_eq_true rfl) (eo_M_nextToken (g := ?_) e9)
          show Wp _ _ _ _ _ _ _ 74 [(0, .ref 331), (1, .int r1), (2, .int (I1 334 ((I1 331 12).toNatClampNeg)))] [] (HS I9 L9 X)
          refine w_aload_n (Ev.cm _) rfl rfl ?_
          refine w_getI (Ev.cm _) rfl (Nat.le_of_ble_eq_true rfl) rfl ?_
          refine w_iconst (Ev.cm _) rfl ?_
          refine w_iadd (Ev.cm _) rfl ?_
          refine w_iconst (Ev.cm _) rfl ?_
          refine w_iload_n (Ev.cm _) rfl rfl ?_
          refine w_imul (Ev.cm _) rfl ?_
          refine w_iadd (Ev.cm _) rfl ?_
          refine w_istore_n (ls2 := [(0, .ref 331), (1, .int r1), (2, .int (I1 334 ((I1 331 12).toNatClampNeg))), (3, .int (((I9 331 12) + 1) + ((3 : Int32) * (I1 334 ((I1 331 12).toNatClampNeg)))))]) (Ev.cm _) rfl rfl ?_
          refine w_aload_n (Ev.cm _) rfl rfl ?_
          refine w_getR (q := 334) (Ev.cm _) rfl (Nat.le_of_ble_eq_true rfl) rfl rfl ?_
          refine w_iload_n (Ev.cm _) rfl rfl ?_
          refine w_iload_n (Ev.cm _) rfl rfl ?_
          obtain ⟨b10, q⟩ := ois q
          refine w_iast (Ev.cm _) rfl (Nat.le_of_ble_eq_true rfl) rfl (show vp_in (((I9 331 12) + 1) + ((3 : Int32) * (I1 334 ((I1 331 12).toNatClampNeg)))) 2724 from vpI 2724 (by decide) b10.1 b10.2) ?_
          refine w_aload_n (Ev.cm _) rfl rfl ?_
          refine w_iload_n (Ev.cm _) rfl rfl ?_
          refine w_iload_n (Ev.cm _) rfl rfl ?_
          obtain ⟨⟨r11, I11, L11⟩, e11, q⟩ := obs q
          dsimp only at q
          refine w_cvirt (o := 331) (as := [.int r1, .int (((I9 331 12) + 1) + ((3 : Int32) * (I1 334 ((I1 331 12).toNatClampNeg))))]) (st := []) (Ev.cm _) rfl rfl rfl (Nat.le_of_ble_eq_true rfl) (Nat.le_of_ble_eq_true rfl) rfl (Nat.le_of_ble_eq_true rfl) (eo_M_body (g := ?_) e11)
          show Wp _ _ _ _ _ _ _ 98 [(0, .ref 331), (1, .int r1), (2, .int (I1 334 ((I1 331 12).toNatClampNeg))), (3, .int (((I9 331 12) + 1) + ((3 : Int32) * (I1 334 ((I1 331 12).toNatClampNeg)))))] [.int r11] (HS I11 L11 X)
          refine w_istore (ls2 := [(0, .ref 331), (1, .int r1), (2, .int (I1 334 ((I1 331 12).toNatClampNeg))), (3, .int (((I9 331 12) + 1) + ((3 : Int32) * (I1 334 ((I1 331 12).toNatClampNeg))))), (4, .int r11)]) (Ev.cm _) rfl rfl ?_
          refine w_iload (Ev.cm _) rfl rfl ?_
          refine w_if_eq (Ev.cm _) rfl (fun c7 => ?_) (fun c7 => ?_)
          · have c7 : r11 = 0 := c7
            rw [if_pos c7] at q
            refine w_aload_n (Ev.cm _) rfl rfl ?_
            refine w_getR (q := 334) (Ev.cm _) rfl (Nat.le_of_ble_eq_true rfl) rfl rfl ?_
            refine w_aload_n (Ev.cm _) rfl rfl ?_
            refine w_getI (Ev.cm _) rfl (Nat.le_of_ble_eq_true rfl) rfl ?_
            refine w_dup2 (Ev.cm _) rfl rfl rfl ?_
            obtain ⟨b12, q⟩ := ois q
            refine w_iald (Ev.cm _) rfl (Nat.le_of_ble_eq_true rfl) rfl (show vp_in (I11 331 12) 2724 from vpI 2724 (by decide) b12.1 b12.2) ?_
            refine w_iconst (Ev.cm _) rfl ?_
            refine w_iadd (Ev.cm _) rfl ?_
            obtain ⟨b13, q⟩ := ois q
            refine w_iast (Ev.cm _) rfl (Nat.le_of_ble_eq_true rfl) rfl (show vp_in (I11 331 12) 2724 from vpI 2724 (by decide) b13.1 b13.2) ?_
            refine w_aload_n (Ev.cm _) rfl rfl ?_
            refine w_getI (Ev.cm _) rfl (Nat.le_of_ble_eq_true rfl) rfl ?_
            refine w_bipush (Ev.cm _) rfl ?_
            refine w_icmp_eq (Ev.cm _) rfl (fun c8 => ?_) (fun c8 => ?_)
            · have c8 : I11 331 9 = 59 := c8
              rw [if_pos c8] at q
              refine w_aload_n (Ev.cm _) rfl rfl ?_
              obtain ⟨⟨r14, I14, L14⟩, e14, q⟩ := obs q
              dsimp only at q
              refine w_cvirt (o := 331) (as := []) (st := []) (Ev.cm _) rfl rfl rfl (Nat.le_of_ble_eq_true rfl) (Nat.le_of_ble_eq_true rfl) rfl (Nat.le_of_ble_eq_true rfl) (eo_M_nextToken (g := ?_) e14)
              show Wp _ _ _ _ _ _ _ 136 [(0, .ref 331), (1, .int r1), (2, .int (I1 334 ((I1 331 12).toNatClampNeg))), (3, .int (((I9 331 12) + 1) + ((3 : Int32) * (I1 334 ((I1 331 12).toNatClampNeg))))), (4, .int r11)] [] (HS I14 L14 X)
              refine w_iconst (Ev.cm _) rfl ?_
              refine w_ireturn (Ev.cm _) rfl trivial rf0 ?_
              cases q
              exact g
            · have c8 : ¬ (I11 331 9 = 59) := c8
              rw [if_neg c8] at q
              refine w_iconst (Ev.cm _) rfl ?_
              refine w_ireturn (Ev.cm _) rfl trivial rf0 ?_
              cases q
              exact g
          · have c7 : ¬ (r11 = 0) := c7
            rw [if_neg c7] at q
            refine w_iload (Ev.cm _) rfl rfl ?_
            refine w_ireturn (Ev.cm _) rfl trivial rf0 ?_
            cases q
            exact g
      · have c3 : I1 334 ((I1 331 12).toNatClampNeg) = 24 := c3
        rw [if_pos c3] at q
        refine w_bipush (Ev.cm _) rfl ?_
        refine w_ireturn (Ev.cm _) rfl trivial rf0 ?_
        cases q
        exact g
    · have c2 : ¬ (1 < r1) := c2
      rw [if_neg c2] at q
      refine w_aload_n (Ev.cm _) rfl rfl ?_
      refine w_getI (Ev.cm _) rfl (Nat.le_of_ble_eq_true rfl) rfl ?_
      refine w_iload_n (Ev.cm _) rfl rfl ?_
      obtain ⟨⟨r15, I15, L15⟩, e15, q⟩ := obs q
      dsimp only at q
      refine w_cstat (as := [.int (I1 331 19), .int r1]) (st := []) (Ev.cm _) rfl rfl rfl (Nat.le_of_ble_eq_true rfl) (Nat.le_of_ble_eq_true rfl) (eo_M_has (g := ?_) e15)
      show Wp _ _ _ _ _ _ _ 24 [(0, .ref 331), (1, .int r1)] [.int r15] (HS I15 L15 X)
      refine w_if_eq (Ev.cm _) rfl (fun c9 => ?_) (fun c9 => ?_)
      · have c9 : r15 = 0 := c9
        rw [if_pos c9] at q
        refine w_aload_n (Ev.cm _) rfl rfl ?_
        refine w_getR (q := 334) (Ev.cm _) rfl (Nat.le_of_ble_eq_true rfl) rfl rfl ?_
        refine w_aload_n (Ev.cm _) rfl rfl ?_
        refine w_getI (Ev.cm _) rfl (Nat.le_of_ble_eq_true rfl) rfl ?_
        obtain ⟨b16, q⟩ := ois q
        refine w_iald (Ev.cm _) rfl (Nat.le_of_ble_eq_true rfl) rfl (show vp_in (I15 331 12) 2724 from vpI 2724 (by decide) b16.1 b16.2) ?_
        refine w_istore_n (ls2 := [(0, .ref 331), (1, .int r1), (2, .int (I15 334 ((I15 331 12).toNatClampNeg)))]) (Ev.cm _) rfl rfl ?_
        refine w_iload_n (Ev.cm _) rfl rfl ?_
        refine w_bipush (Ev.cm _) rfl ?_
        refine w_icmp_ne (Ev.cm _) rfl (fun c10 => ?_) (fun c10 => ?_)
        · have c10 : ¬ (I15 334 ((I15 331 12).toNatClampNeg) = 24) := c10
          rw [if_neg c10] at q
          refine w_iload_n (Ev.cm _) rfl rfl ?_
          refine w_iconst (Ev.cm _) rfl ?_
          refine w_icmp_gt (Ev.cm _) rfl (fun c11 => ?_) (fun c11 => ?_)
          · have c11 : 1 < r1 := c11
            rw [if_pos c11] at q
            refine w_aload_n (Ev.cm _) rfl rfl ?_
            refine w_iload_n (Ev.cm _) rfl rfl ?_
            refine w_putI (Ev.cm _) rfl (Nat.le_of_ble_eq_true rfl) rfl ?_
            refine w_aload_n (Ev.cm _) rfl rfl ?_
            obtain ⟨⟨r17, I17, L17⟩, e17, q⟩ := obs q
            dsimp only at q
            refine w_cvirt (o := 331) (as := []) (st := []) (Ev.cm _) rfl rfl rfl (Nat.le_of_ble_eq_true rfl) (Nat.le_of_ble_eq_true rfl) rfl (Nat.le_of_ble_eq_true rfl) (eo_M_nextToken (g := ?_) e17)
            show Wp _ _ _ _ _ _ _ 74 [(0, .ref 331), (1, .int r1), (2, .int (I15 334 ((I15 331 12).toNatClampNeg)))] [] (HS I17 L17 X)
            refine w_aload_n (Ev.cm _) rfl rfl ?_
            refine w_getI (Ev.cm _) rfl (Nat.le_of_ble_eq_true rfl) rfl ?_
            refine w_iconst (Ev.cm _) rfl ?_
            refine w_iadd (Ev.cm _) rfl ?_
            refine w_iconst (Ev.cm _) rfl ?_
            refine w_iload_n (Ev.cm _) rfl rfl ?_
            refine w_imul (Ev.cm _) rfl ?_
            refine w_iadd (Ev.cm _) rfl ?_
            refine w_istore_n (ls2 := [(0, .ref 331), (1, .int r1), (2, .int (I15 334 ((I15 331 12).toNatClampNeg))), (3, .int (((I17 331 12) + 1) + ((3 : Int32) * (I15 334 ((I15 331 12).toNatClampNeg)))))]) (Ev.cm _) rfl rfl ?_
            refine w_aload_n (Ev.cm _) rfl rfl ?_
            refine w_getR (q := 334) (Ev.cm _) rfl (Nat.le_of_ble_eq_true rfl) rfl rfl ?_
            refine w_iload_n (Ev.cm _) rfl rfl ?_
            refine w_iload_n (Ev.cm _) rfl rfl ?_
            obtain ⟨b18, q⟩ := ois q
            refine w_iast (Ev.cm _) rfl (Nat.le_of_ble_eq_true rfl) rfl (show vp_in (((I17 331 12) + 1) + ((3 : Int32) * (I15 334 ((I15 331 12).toNatClampNeg)))) 2724 from vpI 2724 (by decide) b18.1 b18.2) ?_
            refine w_aload_n (Ev.cm _) rfl rfl ?_
            refine w_iload_n (Ev.cm _) rfl rfl ?_
            refine w_iload_n (Ev.cm _) rfl rfl ?_
            obtain ⟨⟨r19, I19, L19⟩, e19, q⟩ := obs q
            dsimp only at q
            refine w_cvirt (o := 331) (as := [.int r1, .int (((I17 331 12) + 1) + ((3 : Int32) * (I15 334 ((I15 331 12).toNatClampNeg))))]) (st := []) (Ev.cm _) rfl rfl rfl (Nat.le_of_ble_eq_true rfl) (Nat.le_of_ble_eq_true rfl) rfl (Nat.le_of_ble_eq_true rfl) (eo_M_body (g := ?_) e19)
            show Wp _ _ _ _ _ _ _ 98 [(0, .ref 331), (1, .int r1), (2, .int (I15 334 ((I15 331 12).toNatClampNeg))), (3, .int (((I17 331 12) + 1) + ((3 : Int32) * (I15 334 ((I15 331 12).toNatClampNeg)))))] [.int r19] (HS I19 L19 X)
            refine w_istore (ls2 := [(0, .ref 331), (1, .int r1), (2, .int (I15 334 ((I15 331 12).toNatClampNeg))), (3, .int (((I17 331 12) + 1) + ((3 : Int32) * (I15 334 ((I15 331 12).toNatClampNeg))))), (4, .int r19)]) (Ev.cm _) rfl rfl ?_
            refine w_iload (Ev.cm _) rfl rfl ?_
            refine w_if_eq (Ev.cm _) rfl (fun c12 => ?_) (fun c12 => ?_)
            · have c12 : r19 = 0 := c12
              rw [if_pos c12] at q
              refine w_aload_n (Ev.cm _) rfl rfl ?_
              refine w_getR (q := 334) (Ev.cm _) rfl (Nat.le_of_ble_eq_true rfl) rfl rfl ?_
              refine w_aload_n (Ev.cm _) rfl rfl ?_
              refine w_getI (Ev.cm _) rfl (Nat.le_of_ble_eq_true rfl) rfl ?_
              refine w_dup2 (Ev.cm _) rfl rfl rfl ?_
              obtain ⟨b20, q⟩ := ois q
              refine w_iald (Ev.cm _) rfl (Nat.le_of_ble_eq_true rfl) rfl (show vp_in (I19 331 12) 2724 from vpI 2724 (by decide) b20.1 b20.2) ?_
              refine w_iconst (Ev.cm _) rfl ?_
              refine w_iadd (Ev.cm _) rfl ?_
              obtain ⟨b21, q⟩ := ois q
              refine w_iast (Ev.cm _) rfl (Nat.le_of_ble_eq_true rfl) rfl (show vp_in (I19 331 12) 2724 from vpI 2724 (by decide) b21.1 b21.2) ?_
              refine w_aload_n (Ev.cm _) rfl rfl ?_
              refine w_getI (Ev.cm _) rfl (Nat.le_of_ble_eq_true rfl) rfl ?_
              refine w_bipush (Ev.cm _) rfl ?_
              refine w_icmp_eq (Ev.cm _) rfl (fun c13 => ?_) (fun c13 => ?_)
              · have c13 : I19 331 9 = 59 := c13
                rw [if_pos c13] at q
                refine w_aload_n (Ev.cm _) rfl rfl ?_
                obtain ⟨⟨r22, I22, L22⟩, e22, q⟩ := obs q
                dsimp only at q
                refine w_cvirt (o := 331) (as := []) (st := []) (Ev.cm _) rfl rfl rfl (Nat.le_of_ble_eq_true rfl) (Nat.le_of_ble_eq_true rfl) rfl (Nat.le_of_ble_eq_true rfl) (eo_M_nextToken (g := ?_) e22)
                show Wp _ _ _ _ _ _ _ 136 [(0, .ref 331), (1, .int r1), (2, .int (I15 334 ((I15 331 12).toNatClampNeg))), (3, .int (((I17 331 12) + 1) + ((3 : Int32) * (I15 334 ((I15 331 12).toNatClampNeg))))), (4, .int r19)] [] (HS I22 L22 X)
                refine w_iconst (Ev.cm _) rfl ?_
                refine w_ireturn (Ev.cm _) rfl trivial rf0 ?_
                cases q
                exact g
              · have c13 : ¬ (I19 331 9 = 59) := c13
                rw [if_neg c13] at q
                refine w_iconst (Ev.cm _) rfl ?_
                refine w_ireturn (Ev.cm _) rfl trivial rf0 ?_
                cases q
                exact g
            · have c12 : ¬ (r19 = 0) := c12
              rw [if_neg c12] at q
              refine w_iload (Ev.cm _) rfl rfl ?_
              refine w_ireturn (Ev.cm _) rfl trivial rf0 ?_
              cases q
              exact g
          · have c11 : ¬ (1 < r1) := c11
            rw [if_neg c11] at q
            refine w_aload_n (Ev.cm _) rfl rfl ?_
            refine w_dup (Ev.cm _) rfl rfl ?_
            refine w_getI (Ev.cm _) rfl (Nat.le_of_ble_eq_true rfl) rfl ?_
            refine w_iconst (Ev.cm _) rfl ?_
            refine w_iload_n (Ev.cm _) rfl rfl ?_
            refine w_ishl (Ev.cm _) rfl ?_
            refine w_ior (Ev.cm _) rfl ?_
            refine w_putI (Ev.cm _) rfl (Nat.le_of_ble_eq_true rfl) rfl ?_
            refine w_aload_n (Ev.cm _) rfl rfl ?_
            refine w_iload_n (Ev.cm _) rfl rfl ?_
            refine w_putI (Ev.cm _) rfl (Nat.le_of_ble_eq_true rfl) rfl ?_
            refine w_aload_n (Ev.cm _) rfl rfl ?_
            obtain ⟨⟨r23, I23, L23⟩, e23, q⟩ := obs q
            dsimp only at q
            refine w_cvirt (o := 331) (as := []) (st := []) (Ev.cm _) rfl rfl rfl (Nat.le_of_ble_eq_true rfl) (Nat.le_of_ble_eq_true rfl) rfl (Nat.le_of_ble_eq_true rfl) (eo_M_nextToken (g := ?_) e23)
            show Wp _ _ _ _ _ _ _ 74 [(0, .ref 331), (1, .int r1), (2, .int (I15 334 ((I15 331 12).toNatClampNeg)))] [] (HS I23 L23 X)
            refine w_aload_n (Ev.cm _) rfl rfl ?_
            refine w_getI (Ev.cm _) rfl (Nat.le_of_ble_eq_true rfl) rfl ?_
            refine w_iconst (Ev.cm _) rfl ?_
            refine w_iadd (Ev.cm _) rfl ?_
            refine w_iconst (Ev.cm _) rfl ?_
            refine w_iload_n (Ev.cm _) rfl rfl ?_
            refine w_imul (Ev.cm _) rfl ?_
            refine w_iadd (Ev.cm _) rfl ?_
            refine w_istore_n (ls2 := [(0, .ref 331), (1, .int r1), (2, .int (I15 334 ((I15 331 12).toNatClampNeg))), (3, .int (((I23 331 12) + 1) + ((3 : Int32) * (I15 334 ((I15 331 12).toNatClampNeg)))))]) (Ev.cm _) rfl rfl ?_
            refine w_aload_n (Ev.cm _) rfl rfl ?_
            refine w_getR (q := 334) (Ev.cm _) rfl (Nat.le_of_ble_eq_true rfl) rfl rfl ?_
            refine w_iload_n (Ev.cm _) rfl rfl ?_
            refine w_iload_n (Ev.cm _) rfl rfl ?_
            obtain ⟨b24, q⟩ := ois q
            refine w_iast (Ev.cm _) rfl (Nat.le_of_ble_eq_true rfl) rfl (show vp_in (((I23 331 12) + 1) + ((3 : Int32) * (I15 334 ((I15 331 12).toNatClampNeg)))) 2724 from vpI 2724 (by decide) b24.1 b24.2) ?_
            refine w_aload_n (Ev.cm _) rfl rfl ?_
            refine w_iload_n (Ev.cm _) rfl rfl ?_
            refine w_iload_n (Ev.cm _) rfl rfl ?_
            obtain ⟨⟨r25, I25, L25⟩, e25, q⟩ := obs q
            dsimp only at q
            refine w_cvirt (o := 331) (as := [.int r1, .int (((I23 331 12) + 1) + ((3 : Int32) * (I15 334 ((I15 331 12).toNatClampNeg))))]) (st := []) (Ev.cm _) rfl rfl rfl (Nat.le_of_ble_eq_true rfl) (Nat.le_of_ble_eq_true rfl) rfl (Nat.le_of_ble_eq_true rfl) (eo_M_body (g := ?_) e25)
            show Wp _ _ _ _ _ _ _ 98 [(0, .ref 331), (1, .int r1), (2, .int (I15 334 ((I15 331 12).toNatClampNeg))), (3, .int (((I23 331 12) + 1) + ((3 : Int32) * (I15 334 ((I15 331 12).toNatClampNeg)))))] [.int r25] (HS I25 L25 X)
            refine w_istore (ls2 := [(0, .ref 331), (1, .int r1), (2, .int (I15 334 ((I15 331 12).toNatClampNeg))), (3, .int (((I23 331 12) + 1) + ((3 : Int32) * (I15 334 ((I15 331 12).toNatClampNeg))))), (4, .int r25)]) (Ev.cm _) rfl rfl ?_
            refine w_iload (Ev.cm _) rfl rfl ?_
            refine w_if_eq (Ev.cm _) rfl (fun c14 => ?_) (fun c14 => ?_)
            · have c14 : r25 = 0 := c14
              rw [if_pos c14] at q
              refine w_aload_n (Ev.cm _) rfl rfl ?_
              refine w_getR (q := 334) (Ev.cm _) rfl (Nat.le_of_ble_eq_true rfl) rfl rfl ?_
              refine w_aload_n (Ev.cm _) rfl rfl ?_
              refine w_getI (Ev.cm _) rfl (Nat.le_of_ble_eq_true rfl) rfl ?_
              refine w_dup2 (Ev.cm _) rfl rfl rfl ?_
              obtain ⟨b26, q⟩ := ois q
              refine w_iald (Ev.cm _) rfl (Nat.le_of_ble_eq_true rfl) rfl (show vp_in (I25 331 12) 2724 from vpI 2724 (by decide) b26.1 b26.2) ?_
              refine w_iconst (Ev.cm _) rfl ?_
              refine w_iadd (Ev.cm _) rfl ?_
              obtain ⟨b27, q⟩ := ois q
              refine w_iast (Ev.cm _) rfl (Nat.le_of_ble_eq_true rfl) rfl (show vp_in (I25 331 12) 2724 from vpI 2724 (by decide) b27.1 b27.2) ?_
              refine w_aload_n (Ev.cm _) rfl rfl ?_
              refine w_getI (Ev.cm _) rfl (Nat.le_of_ble_eq_true rfl) rfl ?_
              refine w_bipush (Ev.cm _) rfl ?_
              refine w_icmp_eq (Ev.cm _) rfl (fun c15 => ?_) (fun c15 => ?_)
              · have c15 : I25 331 9 = 59 := c15
                rw [if_pos c15] at q
                refine w_aload_n (Ev.cm _) rfl rfl ?_
                obtain ⟨⟨r28, I28, L28⟩, e28, q⟩ := obs q
                dsimp only at q
                refine w_cvirt (o := 331) (as := []) (st := []) (Ev.cm _) rfl rfl rfl (Nat.le_of_ble_eq_true rfl) (Nat.le_of_ble_eq_true rfl) rfl (Nat.le_of_ble_eq_true rfl) (eo_M_nextToken (g := ?_) e28)
                show Wp _ _ _ _ _ _ _ 136 [(0, .ref 331), (1, .int r1), (2, .int (I15 334 ((I15 331 12).toNatClampNeg))), (3, .int (((I23 331 12) + 1) + ((3 : Int32) * (I15 334 ((I15 331 12).toNatClampNeg))))), (4, .int r25)] [] (HS I28 L28 X)
                refine w_iconst (Ev.cm _) rfl ?_
                refine w_ireturn (Ev.cm _) rfl trivial rf0 ?_
                cases q
                exact g
              · have c15 : ¬ (I25 331 9 = 59) := c15
                rw [if_neg c15] at q
                refine w_iconst (Ev.cm _) rfl ?_
                refine w_ireturn (Ev.cm _) rfl trivial rf0 ?_
                cases q
                exact g
            · have c14 : ¬ (r25 = 0) := c14
              rw [if_neg c14] at q
              refine w_iload (Ev.cm _) rfl rfl ?_
              refine w_ireturn (Ev.cm _) rfl trivial rf0 ?_
              cases q
              exact g
        · have c10 : I15 334 ((I15 331 12).toNatClampNeg) = 24 := c10
          rw [if_pos c10] at q
          refine w_bipush (Ev.cm _) rfl ?_
          refine w_ireturn (Ev.cm _) rfl trivial rf0 ?_
          cases q
          exact g
      · have c9 : ¬ (r15 = 0) := c9
        rw [if_neg c9] at q
        refine w_iconst (Ev.cm _) rfl ?_
        refine w_ireturn (Ev.cm _) rfl trivial rf0 ?_
        cases q
        exact g
  · have c1 : ¬ (0 ≤ r1) := c1
    rw [if_neg c1] at q
    refine w_iconst (Ev.cm _) rfl ?_
    refine w_ireturn (Ev.cm _) rfl trivial rf0 ?_
    cases q
    exact g
def LO_M_readText_43 (fu : Nat) : Nat → (Nat → Nat → Int32) → (Nat → Nat → Int64) → Option (Int32 × (Nat → Nat → Int32) × (Nat → Nat → Int64))
  | 0, _, _ => none
  | n + 1, I, L => if I 331 9 = 0 then (some (0, I, L)) else ((FO_M_clause fu  I L).bind (fun u1 => let r1 := u1.1; let I1 := u1.2.1; let L1 := u1.2.2; if r1 = 0 then (LO_M_readText_43 fu n  I1 L1) else (some (r1, I1, L1))))
set_option maxHeartbeats 20000000 in
theorem lo_M_readText_43 {d fu n0 s0 : Nat} {X : Nat × (Nat → Int32)} {Q : PQ} {res : Int32 × (Nat → Nat → Int32) × (Nat → Nat → Int64)} (g : Q (some (.int res.1)) (HS res.2.1 res.2.2 X)) : ∀ (n : Nat) (I : Nat → Nat → Int32) (L : Nat → Nat → Int64), LO_M_readText_43 fu n  I L = some res → Wp (Ev (d + 11)) cd_M_readText (0, 0) (some .int) n0 s0 Q 43 [(0, .ref 331)] [] (HS I L X) := by
  intro n
  induction n with
  | zero => intro  _ _ q; cases q
  | succ n ih =>
    intro  I L q
    unfold LO_M_readText_43 at q
    refine w_aload_n (Ev.cm _) rfl rfl ?_
    refine w_getI (Ev.cm _) rfl (Nat.le_of_ble_eq_true rfl) rfl ?_
    refine w_if_eq (Ev.cm _) rfl (fun c1 => ?_) (fun c1 => ?_)
    · have c1 : I 331 9 = 0 := c1
      rw [if_pos c1] at q
      refine w_iconst (Ev.cm _) rfl ?_
      refine w_ireturn (Ev.cm _) rfl trivial rf0 ?_
      cases q
      exact g
    · have c1 : ¬ (I 331 9 = 0) := c1
      rw [if_neg c1] at q
      refine w_aload_n (Ev.cm _) rfl rfl ?_
      obtain ⟨⟨r1, I1, L1⟩, e1, q⟩ := obs q
      dsimp only at q
      refine w_cvirt (o := 331) (as := []) (st := []) (Ev.cm _) rfl rfl rfl (Nat.le_of_ble_eq_true rfl) (Nat.le_of_ble_eq_true rfl) rfl (Nat.le_of_ble_eq_true rfl) (eo_M_clause (g := ?_) e1)
      show Wp _ _ _ _ _ _ _ 54 [(0, .ref 331)] [.int r1] (HS I1 L1 X)
      refine w_istore_n (ls2 := [(0, .ref 331), (1, .int r1)]) (Ev.cm _) rfl rfl ?_
      refine w_iload_n (Ev.cm _) rfl rfl ?_
      refine w_if_eq (Ev.cm _) rfl (fun c2 => ?_) (fun c2 => ?_)
      · have c2 : r1 = 0 := c2
        rw [if_pos c2] at q
        refine w_goto (Ev.cm _) rfl ?_
        show Wp _ _ _ _ _ _ _ 43 [(0, .ref 331), (1, .int r1)] [] (HS I1 L1 X)
        refine Wp.sub [0] (ls2 := [(0, .ref 331)]) rfl ?_
        exact ih _ _ q
      · have c2 : ¬ (r1 = 0) := c2
        rw [if_neg c2] at q
        refine w_iload_n (Ev.cm _) rfl rfl ?_
        refine w_ireturn (Ev.cm _) rfl trivial rf0 ?_
        cases q
        exact g
def FO_M_readText (fu : Nat) (I : Nat → Nat → Int32) (L : Nat → Nat → Int64) : Option (Int32 × (Nat → Nat → Int32) × (Nat → Nat → Int64)) := if 0 ≤ (681 : Int32) * (I 332 1) ∧ (681 : Int32) * (I 332 1) < 2724 then ((FO_M_nextToken fu  (sI (sI (sI (sI (sI I 331 12 ((681 : Int32) * (I 332 1))) 334 (((681 : Int32) * (I 332 1)).toNatClampNeg) 0) 331 13 0) 331 19 0) 331 7 0) L).bind (fun u2 => let r2 := u2.1; let I2 := u2.2.1; let L2 := u2.2.2; LO_M_readText_43 fu fu  I2 L2)) else none
set_option maxHeartbeats 20000000 in
theorem eo_M_readText {d fu : Nat} {I : Nat → Nat → Int32} {L : Nat → Nat → Int64} {X : Nat × (Nat → Int32)} {Q : PQ} {res : Int32 × (Nat → Nat → Int32) × (Nat → Nat → Int64)} (g : Q (some (.int res.1)) (HS res.2.1 res.2.2 X)) (q : FO_M_readText fu  I L = some res) : Ev (d + 12) m_M_readText [.ref 331] (HS I L X) Q := by
  unfold FO_M_readText at q
  refine ev_start (d := d + 11) rfl rfl rfl (Nat.le_of_ble_eq_true rfl) ?_
  show Wp (Ev (d + 11)) cd_M_readText (0, 0) (some .int) _ _ Q 0 [(0, .ref 331)] [] (HS I L X)
  refine w_aload_n (Ev.cm _) rfl rfl ?_
  refine w_sipush (Ev.cm _) rfl ?_
  refine w_aload_n (Ev.cm _) rfl rfl ?_
  refine w_getR (q := 332) (Ev.cm _) rfl (Nat.le_of_ble_eq_true rfl) rfl rfl ?_
  refine w_iconst (Ev.cm _) rfl ?_
  refine w_iald (Ev.cm _) rfl (Nat.le_of_ble_eq_true rfl) rfl (show vp_in 1 1541 from vpI 1541 (by decide) (by decide) (by decide)) ?_
  refine w_imul (Ev.cm _) rfl ?_
  refine w_putI (Ev.cm _) rfl (Nat.le_of_ble_eq_true rfl) rfl ?_
  refine w_aload_n (Ev.cm _) rfl rfl ?_
  refine w_getR (q := 334) (Ev.cm _) rfl (Nat.le_of_ble_eq_true rfl) rfl rfl ?_
  refine w_aload_n (Ev.cm _) rfl rfl ?_
  refine w_getI (Ev.cm _) rfl (Nat.le_of_ble_eq_true rfl) rfl ?_
  refine w_iconst (Ev.cm _) rfl ?_
  obtain ⟨b1, q⟩ := ois q
  refine w_iast (Ev.cm _) rfl (Nat.le_of_ble_eq_true rfl) rfl (show vp_in ((681 : Int32) * (I 332 1)) 2724 from vpI 2724 (by decide) b1.1 b1.2) ?_
  refine w_aload_n (Ev.cm _) rfl rfl ?_
  refine w_iconst (Ev.cm _) rfl ?_
  refine w_putI (Ev.cm _) rfl (Nat.le_of_ble_eq_true rfl) rfl ?_
  refine w_aload_n (Ev.cm _) rfl rfl ?_
  refine w_iconst (Ev.cm _) rfl ?_
  refine w_putI (Ev.cm _) rfl (Nat.le_of_ble_eq_true rfl) rfl ?_
  refine w_aload_n (Ev.cm _) rfl rfl ?_
  refine w_iconst (Ev.cm _) rfl ?_
  refine w_putI (Ev.cm _) rfl (Nat.le_of_ble_eq_true rfl) rfl ?_
  refine w_aload_n (Ev.cm _) rfl rfl ?_
  obtain ⟨⟨r2, I2, L2⟩, e2, q⟩ := obs q
  dsimp only at q
  refine w_cvirt (o := 331) (as := []) (st := []) (Ev.cm _) rfl rfl rfl (Nat.le_of_ble_eq_true rfl) (Nat.le_of_ble_eq_true rfl) rfl (Nat.le_of_ble_eq_true rfl) (eo_M_nextToken (g := ?_) e2)
  show Wp _ _ _ _ _ _ _ 43 [(0, .ref 331)] [] (HS I2 L2 X)
  show Wp _ _ _ _ _ _ _ 43 [(0, .ref 331)] [] (HS I2 L2 X)
  refine Wp.sub [0] (ls2 := [(0, .ref 331)]) rfl ?_
  exact lo_M_readText_43 g fu _ _ q
def FO_M_text (fu : Nat) (I : Nat → Nat → Int32) (L : Nat → Nat → Int64) : Option (Int32 × (Nat → Nat → Int32) × (Nat → Nat → Int64)) := if I 332 1 = 4 then (some ((-1), I, L)) else ((FO_M_readText fu  I L).bind (fun u1 => let r1 := u1.1; let I1 := u1.2.1; let L1 := u1.2.2; if r1 = 0 then (if r1 = 0 then (some (((I1 332 1) + 1) - 1, sI (sI (sI (sI I1 331 5 r1) 331 6 (-1)) 331 4 0) 332 1 ((I1 332 1) + 1), L1)) else (some ((-1), sI (sI (sI I1 331 5 r1) 331 6 (-1)) 331 4 0, L1))) else (if r1 = 0 then (some (((I1 332 1) + 1) - 1, sI (sI (sI (sI I1 331 5 r1) 331 6 (I1 331 8)) 331 4 0) 332 1 ((I1 332 1) + 1), L1)) else (some ((-1), sI (sI (sI I1 331 5 r1) 331 6 (I1 331 8)) 331 4 0, L1)))))
set_option maxHeartbeats 20000000 in
theorem eo_M_text {d fu : Nat} {I : Nat → Nat → Int32} {L : Nat → Nat → Int64} {X : Nat × (Nat → Int32)} {Q : PQ} {res : Int32 × (Nat → Nat → Int32) × (Nat → Nat → Int64)} (g : Q (some (.int res.1)) (HS res.2.1 res.2.2 X)) (q : FO_M_text fu  I L = some res) : Ev (d + 13) m_M_text [.ref 331] (HS I L X) Q := by
  unfold FO_M_text at q
  refine ev_start (d := d + 12) rfl rfl rfl (Nat.le_of_ble_eq_true rfl) ?_
  show Wp (Ev (d + 12)) cd_M_text (0, 0) (some .int) _ _ Q 0 [(0, .ref 331)] [] (HS I L X)
  refine w_aload_n (Ev.cm _) rfl rfl ?_
  refine w_getR (q := 332) (Ev.cm _) rfl (Nat.le_of_ble_eq_true rfl) rfl rfl ?_
  refine w_iconst (Ev.cm _) rfl ?_
  refine w_iald (Ev.cm _) rfl (Nat.le_of_ble_eq_true rfl) rfl (show vp_in 1 1541 from vpI 1541 (by decide) (by decide) (by decide)) ?_
  refine w_iconst (Ev.cm _) rfl ?_
  refine w_icmp_ne (Ev.cm _) rfl (fun c1 => ?_) (fun c1 => ?_)
  · have c1 : ¬ (I 332 1 = 4) := c1
    rw [if_neg c1] at q
    refine w_aload_n (Ev.cm _) rfl rfl ?_
    refine w_aload_n (Ev.cm _) rfl rfl ?_
    obtain ⟨⟨r1, I1, L1⟩, e1, q⟩ := obs q
    dsimp only at q
    refine w_cvirt (o := 331) (as := []) (st := [.ref 331]) (Ev.cm _) rfl rfl rfl (Nat.le_of_ble_eq_true rfl) (Nat.le_of_ble_eq_true rfl) rfl (Nat.le_of_ble_eq_true rfl) (eo_M_readText (g := ?_) e1)
    show Wp _ _ _ _ _ _ _ 17 [(0, .ref 331)] [.int r1, .ref 331] (HS I1 L1 X)
    refine w_putI (Ev.cm _) rfl (Nat.le_of_ble_eq_true rfl) rfl ?_
    refine w_aload_n (Ev.cm _) rfl rfl ?_
    refine w_aload_n (Ev.cm _) rfl rfl ?_
    refine w_getI (Ev.cm _) rfl (Nat.le_of_ble_eq_true rfl) rfl ?_
    refine w_if_ne (Ev.cm _) rfl (fun c2 => ?_) (fun c2 => ?_)
    · have c2 : ¬ (r1 = 0) := c2
      rw [if_neg c2] at q
      refine w_aload_n (Ev.cm _) rfl rfl ?_
      refine w_getI (Ev.cm _) rfl (Nat.le_of_ble_eq_true rfl) rfl ?_
      refine w_putI (Ev.cm _) rfl (Nat.le_of_ble_eq_true rfl) rfl ?_
      refine w_aload_n (Ev.cm _) rfl rfl ?_
      refine w_iconst (Ev.cm _) rfl ?_
      refine w_putI (Ev.cm _) rfl (Nat.le_of_ble_eq_true rfl) rfl ?_
      refine w_aload_n (Ev.cm _) rfl rfl ?_
      refine w_getI (Ev.cm _) rfl (Nat.le_of_ble_eq_true rfl) rfl ?_
      refine w_if_eq (Ev.cm _) rfl (fun c3 => ?_) (fun c3 => ?_)
      · have c3 : r1 = 0 := c3
        rw [if_pos c3] at q
        refine w_aload_n (Ev.cm _) rfl rfl ?_
        refine w_getR (q := 332) (Ev.cm _) rfl (Nat.le_of_ble_eq_true rfl) rfl rfl ?_
        refine w_iconst (Ev.cm _) rfl ?_
        refine w_dup2 (Ev.cm _) rfl rfl rfl ?_
        refine w_iald (Ev.cm _) rfl (Nat.le_of_ble_eq_true rfl) rfl (show vp_in 1 1541 from vpI 1541 (by decide) (by decide) (by decide)) ?_
        refine w_iconst (Ev.cm _) rfl ?_
        refine w_iadd (Ev.cm _) rfl ?_
        refine w_iast (Ev.cm _) rfl (Nat.le_of_ble_eq_true rfl) rfl (show vp_in 1 1541 from vpI 1541 (by decide) (by decide) (by decide)) ?_
        refine w_aload_n (Ev.cm _) rfl rfl ?_
        refine w_getR (q := 332) (Ev.cm _) rfl (Nat.le_of_ble_eq_true rfl) rfl rfl ?_
        refine w_iconst (Ev.cm _) rfl ?_
        refine w_iald (Ev.cm _) rfl (Nat.le_of_ble_eq_true rfl) rfl (show vp_in 1 1541 from vpI 1541 (by decide) (by decide) (by decide)) ?_
        refine w_iconst (Ev.cm _) rfl ?_
        refine w_isub (Ev.cm _) rfl ?_
        refine w_ireturn (Ev.cm _) rfl trivial rf0 ?_
        cases q
        exact g
      · have c3 : ¬ (r1 = 0) := c3
        rw [if_neg c3] at q
        refine w_iconst (Ev.cm _) rfl ?_
        refine w_ireturn (Ev.cm _) rfl trivial rf0 ?_
        cases q
        exact g
    · have c2 : r1 = 0 := c2
      rw [if_pos c2] at q
      refine w_iconst (Ev.cm _) rfl ?_
      refine w_goto (Ev.cm _) rfl ?_
      refine w_putI (Ev.cm _) rfl (Nat.le_of_ble_eq_true rfl) rfl ?_
      refine w_aload_n (Ev.cm _) rfl rfl ?_
      refine w_iconst (Ev.cm _) rfl ?_
      refine w_putI (Ev.cm _) rfl (Nat.le_of_ble_eq_true rfl) rfl ?_
      refine w_aload_n (Ev.cm _) rfl rfl ?_
      refine w_getI (Ev.cm _) rfl (Nat.le_of_ble_eq_true rfl) rfl ?_
      refine w_if_eq (Ev.cm _) rfl (fun c4 => ?_) (fun c4 => ?_)
      · have c4 : r1 = 0 := c4
        rw [if_pos c4] at q
        refine w_aload_n (Ev.cm _) rfl rfl ?_
        refine w_getR (q := 332) (Ev.cm _) rfl (Nat.le_of_ble_eq_true rfl) rfl rfl ?_
        refine w_iconst (Ev.cm _) rfl ?_
        refine w_dup2 (Ev.cm _) rfl rfl rfl ?_
        refine w_iald (Ev.cm _) rfl (Nat.le_of_ble_eq_true rfl) rfl (show vp_in 1 1541 from vpI 1541 (by decide) (by decide) (by decide)) ?_
        refine w_iconst (Ev.cm _) rfl ?_
        refine w_iadd (Ev.cm _) rfl ?_
        refine w_iast (Ev.cm _) rfl (Nat.le_of_ble_eq_true rfl) rfl (show vp_in 1 1541 from vpI 1541 (by decide) (by decide) (by decide)) ?_
        refine w_aload_n (Ev.cm _) rfl rfl ?_
        refine w_getR (q := 332) (Ev.cm _) rfl (Nat.le_of_ble_eq_true rfl) rfl rfl ?_
        refine w_iconst (Ev.cm _) rfl ?_
        refine w_iald (Ev.cm _) rfl (Nat.le_of_ble_eq_true rfl) rfl (show vp_in 1 1541 from vpI 1541 (by decide) (by decide) (by decide)) ?_
        refine w_iconst (Ev.cm _) rfl ?_
        refine w_isub (Ev.cm _) rfl ?_
        refine w_ireturn (Ev.cm _) rfl trivial rf0 ?_
        cases q
        exact g
      · have c4 : ¬ (r1 = 0) := c4
        rw [if_neg c4] at q
        refine w_iconst (Ev.cm _) rfl ?_
        refine w_ireturn (Ev.cm _) rfl trivial rf0 ?_
        cases q
        exact g
  · have c1 : I 332 1 = 4 := c1
    rw [if_pos c1] at q
    refine w_iconst (Ev.cm _) rfl ?_
    refine w_ireturn (Ev.cm _) rfl trivial rf0 ?_
    cases q
    exact g
def FO_M_drawnBy (fu : Nat) (p0 : Int32) (I : Nat → Nat → Int32) (L : Nat → Nat → Int64) : Option (Int32 × (Nat → Nat → Int32) × (Nat → Nat → Int64)) := if ¬ p0 = 0 then ((FO_M_anew fu  I L).bind (fun u2 => let r2 := u2.1; let I2 := u2.2.1; let L2 := u2.2.2; some (iR (I 332 8) p0, I2, L2))) else none
set_option maxHeartbeats 20000000 in
theorem eo_M_drawnBy {d fu : Nat} {p0 : Int32} {I : Nat → Nat → Int32} {L : Nat → Nat → Int64} {X : Nat × (Nat → Int32)} {Q : PQ} {res : Int32 × (Nat → Nat → Int32) × (Nat → Nat → Int64)} (g : Q (some (.int res.1)) (HS res.2.1 res.2.2 X)) (q : FO_M_drawnBy fu p0 I L = some res) : Ev (d + 2) m_M_drawnBy [.ref 331, .int p0] (HS I L X) Q := by
  unfold FO_M_drawnBy at q
  refine ev_start (d := d + 1) rfl rfl rfl (Nat.le_of_ble_eq_true rfl) ?_
  show Wp (Ev (d + 1)) cd_M_drawnBy (0, 0) (some .int) _ _ Q 0 [(0, .ref 331), (1, .int p0)] [] (HS I L X)
  refine w_aload_n (Ev.cm _) rfl rfl ?_
  refine w_getR (q := 332) (Ev.cm _) rfl (Nat.le_of_ble_eq_true rfl) rfl rfl ?_
  refine w_bipush (Ev.cm _) rfl ?_
  refine w_iald (Ev.cm _) rfl (Nat.le_of_ble_eq_true rfl) rfl (show vp_in 8 1541 from vpI 1541 (by decide) (by decide) (by decide)) ?_
  refine w_iload_n (Ev.cm _) rfl rfl ?_
  obtain ⟨b1, q⟩ := ois q
  refine w_irem (Ev.cm _) rfl b1 ?_
  refine w_istore_n (ls2 := [(0, .ref 331), (1, .int p0), (2, .int (iR (I 332 8) p0))]) (Ev.cm _) rfl rfl ?_
  refine w_aload_n (Ev.cm _) rfl rfl ?_
  obtain ⟨⟨r2, I2, L2⟩, e2, q⟩ := obs q
  dsimp only at q
  refine w_cvirt (o := 331) (as := []) (st := []) (Ev.cm _) rfl rfl rfl (Nat.le_of_ble_eq_true rfl) (Nat.le_of_ble_eq_true rfl) rfl (Nat.le_of_ble_eq_true rfl) (eo_M_anew (g := ?_) e2)
  show Wp _ _ _ _ _ _ _ 14 [(0, .ref 331), (1, .int p0), (2, .int (iR (I 332 8) p0))] [] (HS I2 L2 X)
  refine w_iload_n (Ev.cm _) rfl rfl ?_
  refine w_ireturn (Ev.cm _) rfl trivial rf0 ?_
  cases q
  exact g
def LO_M_pass_15 (fu : Nat) : Nat → Int32 → (Nat → Nat → Int32) → (Nat → Nat → Int64) → Option (Unit × (Nat → Nat → Int32) × (Nat → Nat → Int64))
  | 0, _, _, _ => none
  | n + 1, x1, I, L => if I 332 0 ≤ x1 then (some ((), sI I 332 7 ((I 332 7) + 1), L)) else ((FO_M_drawnBy fu 4 I L).bind (fun u1 => let r1 := u1.1; let I1 := u1.2.1; let L1 := u1.2.2; (FO_M_treadBy fu x1 r1 I1 L1).bind (fun u2 => let r2 := u2.1; let I2 := u2.2.1; let L2 := u2.2.2; LO_M_pass_15 fu n (x1 + 1) I2 L2)))
set_option maxHeartbeats 20000000 in
theorem lo_M_pass_15 {d fu n0 s0 : Nat} {X : Nat × (Nat → Int32)} {Q : PQ} {res : Unit × (Nat → Nat → Int32) × (Nat → Nat → Int64)} (g : Q none (HS res.2.1 res.2.2 X)) : ∀ (n : Nat) (x1 : Int32) (I : Nat → Nat → Int32) (L : Nat → Nat → Int64), LO_M_pass_15 fu n x1 I L = some res → Wp (Ev (d + 10)) cd_M_pass (0, 0) none n0 s0 Q 15 [(0, .ref 331), (1, .int x1)] [] (HS I L X) := by
  intro n
  induction n with
  | zero => intro _ _ _ q; cases q
  | succ n ih =>
    intro x1 I L q
    unfold LO_M_pass_15 at q
    refine w_iload_n (Ev.cm _) rfl rfl ?_
    refine w_aload_n (Ev.cm _) rfl rfl ?_
    refine w_getR (q := 332) (Ev.cm _) rfl (Nat.le_of_ble_eq_true rfl) rfl rfl ?_
    refine w_iconst (Ev.cm _) rfl ?_
    refine w_iald (Ev.cm _) rfl (Nat.le_of_ble_eq_true rfl) rfl (show vp_in 0 1541 from vpI 1541 (by decide) (by decide) (by decide)) ?_
    refine w_icmp_ge (Ev.cm _) rfl (fun c1 => ?_) (fun c1 => ?_)
    · have c1 : I 332 0 ≤ x1 := c1
      rw [if_pos c1] at q
      refine w_aload_n (Ev.cm _) rfl rfl ?_
      refine w_getR (q := 332) (Ev.cm _) rfl (Nat.le_of_ble_eq_true rfl) rfl rfl ?_
      refine w_bipush (Ev.cm _) rfl ?_
      refine w_dup2 (Ev.cm _) rfl rfl rfl ?_
      refine w_iald (Ev.cm _) rfl (Nat.le_of_ble_eq_true rfl) rfl (show vp_in 7 1541 from vpI 1541 (by decide) (by decide) (by decide)) ?_
      refine w_iconst (Ev.cm _) rfl ?_
      refine w_iadd (Ev.cm _) rfl ?_
      refine w_iast (Ev.cm _) rfl (Nat.le_of_ble_eq_true rfl) rfl (show vp_in 7 1541 from vpI 1541 (by decide) (by decide) (by decide)) ?_
      refine w_return (Ev.cm _) rfl rfl rf0 ?_
      cases q
      exact g
    · have c1 : ¬ (I 332 0 ≤ x1) := c1
      rw [if_neg c1] at q
      refine w_aload_n (Ev.cm _) rfl rfl ?_
      refine w_iload_n (Ev.cm _) rfl rfl ?_
      refine w_aload_n (Ev.cm _) rfl rfl ?_
      refine w_iconst (Ev.cm _) rfl ?_
      obtain ⟨⟨r1, I1, L1⟩, e1, q⟩ := obs q
      dsimp only at q
      refine w_cvirt (o := 331) (as := [.int 4]) (st := [.int x1, .ref 331]) (Ev.cm _) rfl rfl rfl (Nat.le_of_ble_eq_true rfl) (Nat.le_of_ble_eq_true rfl) rfl (Nat.le_of_ble_eq_true rfl) (eo_M_drawnBy (g := ?_) e1)
      show Wp _ _ _ _ _ _ _ 32 [(0, .ref 331), (1, .int x1)] [.int r1, .int x1, .ref 331] (HS I1 L1 X)
      obtain ⟨⟨r2, I2, L2⟩, e2, q⟩ := obs q
      dsimp only at q
      refine w_cvirt (o := 331) (as := [.int x1, .int r1]) (st := []) (Ev.cm _) rfl rfl rfl (Nat.le_of_ble_eq_true rfl) (Nat.le_of_ble_eq_true rfl) rfl (Nat.le_of_ble_eq_true rfl) (eo_M_treadBy (g := ?_) e2)
      show Wp _ _ _ _ _ _ _ 35 [(0, .ref 331), (1, .int x1)] [] (HS I2 L2 X)
      refine w_iinc (ls2 := [(0, .ref 331), (1, .int (x1 + 1))]) (Ev.cm _) rfl rfl rfl ?_
      refine w_goto (Ev.cm _) rfl ?_
      show Wp _ _ _ _ _ _ _ 15 [(0, .ref 331), (1, .int (x1 + 1))] [] (HS I2 L2 X)
      refine Wp.sub [0, 1] (ls2 := [(0, .ref 331), (1, .int (x1 + 1))]) rfl ?_
      exact ih _ _ _ q
def FO_M_pass (fu : Nat) (I : Nat → Nat → Int32) (L : Nat → Nat → Int64) : Option (Unit × (Nat → Nat → Int32) × (Nat → Nat → Int64)) := (FO_M_drawnBy fu 10 I L).bind (fun u1 => let r1 := u1.1; let I1 := u1.2.1; let L1 := u1.2.2; LO_M_pass_15 fu fu 0 (sI I1 332 9 r1) L1)
set_option maxHeartbeats 20000000 in
theorem eo_M_pass {d fu : Nat} {I : Nat → Nat → Int32} {L : Nat → Nat → Int64} {X : Nat × (Nat → Int32)} {Q : PQ} {res : Unit × (Nat → Nat → Int32) × (Nat → Nat → Int64)} (g : Q none (HS res.2.1 res.2.2 X)) (q : FO_M_pass fu  I L = some res) : Ev (d + 11) m_M_pass [.ref 331] (HS I L X) Q := by
  unfold FO_M_pass at q
  refine ev_start (d := d + 10) rfl rfl rfl (Nat.le_of_ble_eq_true rfl) ?_
  show Wp (Ev (d + 10)) cd_M_pass (0, 0) none _ _ Q 0 [(0, .ref 331)] [] (HS I L X)
  refine w_aload_n (Ev.cm _) rfl rfl ?_
  refine w_getR (q := 332) (Ev.cm _) rfl (Nat.le_of_ble_eq_true rfl) rfl rfl ?_
  refine w_bipush (Ev.cm _) rfl ?_
  refine w_aload_n (Ev.cm _) rfl rfl ?_
  refine w_bipush (Ev.cm _) rfl ?_
  obtain ⟨⟨r1, I1, L1⟩, e1, q⟩ := obs q
  dsimp only at q
  refine w_cvirt (o := 331) (as := [.int 10]) (st := [.int 9, .ref 332]) (Ev.cm _) rfl rfl rfl (Nat.le_of_ble_eq_true rfl) (Nat.le_of_ble_eq_true rfl) rfl (Nat.le_of_ble_eq_true rfl) (eo_M_drawnBy (g := ?_) e1)
  show Wp _ _ _ _ _ _ _ 12 [(0, .ref 331)] [.int r1, .int 9, .ref 332] (HS I1 L1 X)
  refine w_iast (Ev.cm _) rfl (Nat.le_of_ble_eq_true rfl) rfl (show vp_in 9 1541 from vpI 1541 (by decide) (by decide) (by decide)) ?_
  refine w_iconst (Ev.cm _) rfl ?_
  refine w_istore_n (ls2 := [(0, .ref 331), (1, .int 0)]) (Ev.cm _) rfl rfl ?_
  show Wp _ _ _ _ _ _ _ 15 [(0, .ref 331), (1, .int 0)] [] (HS (sI I1 332 9 r1) L1 X)
  refine Wp.sub [0, 1] (ls2 := [(0, .ref 331), (1, .int 0)]) rfl ?_
  exact lo_M_pass_15 g fu _ _ _ q
def LO_M_arePassed_7 (fu : Nat) : Nat → Int32 → Int32 → (Nat → Nat → Int32) → (Nat → Nat → Int64) → Option (Int32 × (Nat → Nat → Int32) × (Nat → Nat → Int64))
  | 0, _, _, _, _ => none
  | n + 1, x1, x2, I, L => if x1 ≤ x2 then (some (1, I, L)) else (if I 332 7 = 9999 then (some (0, I, L)) else ((FO_M_keep fu  I L).bind (fun u1 => let r1 := u1.1; let I1 := u1.2.1; let L1 := u1.2.2; (FO_M_pass fu  I1 L1).bind (fun u2 => let r2 := u2.1; let I2 := u2.2.1; let L2 := u2.2.2; LO_M_arePassed_7 fu n x1 (x2 + 1) I2 L2))))
set_option maxHeartbeats 20000000 in
theorem lo_M_arePassed_7 {d fu n0 s0 : Nat} {X : Nat × (Nat → Int32)} {Q : PQ} {res : Int32 × (Nat → Nat → Int32) × (Nat → Nat → Int64)} (g : Q (some (.int res.1)) (HS res.2.1 res.2.2 X)) : ∀ (n : Nat) (x1 : Int32) (x2 : Int32) (I : Nat → Nat → Int32) (L : Nat → Nat → Int64), LO_M_arePassed_7 fu n x1 x2 I L = some res → Wp (Ev (d + 11)) cd_M_arePassed (0, 0) (some .boolean) n0 s0 Q 7 [(0, .ref 331), (1, .int x1), (2, .int x2)] [] (HS I L X) := by
  intro n
  induction n with
  | zero => intro _ _ _ _ q; cases q
  | succ n ih =>
    intro x1 x2 I L q
    unfold LO_M_arePassed_7 at q
    refine w_iload_n (Ev.cm _) rfl rfl ?_
    refine w_iload_n (Ev.cm _) rfl rfl ?_
    refine w_icmp_ge (Ev.cm _) rfl (fun c1 => ?_) (fun c1 => ?_)
    · have c1 : x1 ≤ x2 := c1
      rw [if_pos c1] at q
      refine w_iconst (Ev.cm _) rfl ?_
      refine w_ireturn (Ev.cm _) rfl (by first | exact rok_0 | exact rok_1 | exact rok_b) rf0 ?_
      cases q
      exact g
    · have c1 : ¬ (x1 ≤ x2) := c1
      rw [if_neg c1] at q
      refine w_aload_n (Ev.cm _) rfl rfl ?_
      refine w_getR (q := 332) (Ev.cm _) rfl (Nat.le_of_ble_eq_true rfl) rfl rfl ?_
      refine w_bipush (Ev.cm _) rfl ?_
      refine w_iald (Ev.cm _) rfl (Nat.le_of_ble_eq_true rfl) rfl (show vp_in 7 1541 from vpI 1541 (by decide) (by decide) (by decide)) ?_
      refine w_sipush (Ev.cm _) rfl ?_
      refine w_icmp_ne (Ev.cm _) rfl (fun c2 => ?_) (fun c2 => ?_)
      · have c2 : ¬ (I 332 7 = 9999) := c2
        rw [if_neg c2] at q
        refine w_aload_n (Ev.cm _) rfl rfl ?_
        obtain ⟨⟨r1, I1, L1⟩, e1, q⟩ := obs q
        dsimp only at q
        refine w_cvirt (o := 331) (as := []) (st := []) (Ev.cm _) rfl rfl rfl (Nat.le_of_ble_eq_true rfl) (Nat.le_of_ble_eq_true rfl) rfl (Nat.le_of_ble_eq_true rfl) (eo_M_keep (g := ?_) e1)
        show Wp _ _ _ _ _ _ _ 31 [(0, .ref 331), (1, .int x1), (2, .int x2)] [] (HS I1 L1 X)
        refine w_aload_n (Ev.cm _) rfl rfl ?_
        obtain ⟨⟨r2, I2, L2⟩, e2, q⟩ := obs q
        dsimp only at q
        refine w_cvirt (o := 331) (as := []) (st := []) (Ev.cm _) rfl rfl rfl (Nat.le_of_ble_eq_true rfl) (Nat.le_of_ble_eq_true rfl) rfl (Nat.le_of_ble_eq_true rfl) (eo_M_pass (g := ?_) e2)
        show Wp _ _ _ _ _ _ _ 35 [(0, .ref 331), (1, .int x1), (2, .int x2)] [] (HS I2 L2 X)
        refine w_iinc (ls2 := [(0, .ref 331), (1, .int x1), (2, .int (x2 + 1))]) (Ev.cm _) rfl rfl rfl ?_
        refine w_goto (Ev.cm _) rfl ?_
        show Wp _ _ _ _ _ _ _ 7 [(0, .ref 331), (1, .int x1), (2, .int (x2 + 1))] [] (HS I2 L2 X)
        refine Wp.sub [0, 1, 2] (ls2 := [(0, .ref 331), (1, .int x1), (2, .int (x2 + 1))]) rfl ?_
        exact ih _ _ _ _ q
      · have c2 : I 332 7 = 9999 := c2
        rw [if_pos c2] at q
        refine w_iconst (Ev.cm _) rfl ?_
        refine w_ireturn (Ev.cm _) rfl (by first | exact rok_0 | exact rok_1 | exact rok_b) rf0 ?_
        cases q
        exact g
def FO_M_arePassed (fu : Nat) (p0 : Int32) (I : Nat → Nat → Int32) (L : Nat → Nat → Int64) : Option (Int32 × (Nat → Nat → Int32) × (Nat → Nat → Int64)) := LO_M_arePassed_7 fu fu p0 0 (sI I 331 24 0) L
set_option maxHeartbeats 20000000 in
theorem eo_M_arePassed {d fu : Nat} {p0 : Int32} {I : Nat → Nat → Int32} {L : Nat → Nat → Int64} {X : Nat × (Nat → Int32)} {Q : PQ} {res : Int32 × (Nat → Nat → Int32) × (Nat → Nat → Int64)} (g : Q (some (.int res.1)) (HS res.2.1 res.2.2 X)) (q : FO_M_arePassed fu p0 I L = some res) : Ev (d + 12) m_M_arePassed [.ref 331, .int p0] (HS I L X) Q := by
  unfold FO_M_arePassed at q
  refine ev_start (d := d + 11) rfl rfl rfl (Nat.le_of_ble_eq_true rfl) ?_
  show Wp (Ev (d + 11)) cd_M_arePassed (0, 0) (some .boolean) _ _ Q 0 [(0, .ref 331), (1, .int p0)] [] (HS I L X)
  refine w_aload_n (Ev.cm _) rfl rfl ?_
  refine w_iconst (Ev.cm _) rfl ?_
  refine w_putI (Ev.cm _) rfl (Nat.le_of_ble_eq_true rfl) rfl ?_
  refine w_iconst (Ev.cm _) rfl ?_
  refine w_istore_n (ls2 := [(0, .ref 331), (1, .int p0), (2, .int 0)]) (Ev.cm _) rfl rfl ?_
  show Wp _ _ _ _ _ _ _ 7 [(0, .ref 331), (1, .int p0), (2, .int 0)] [] (HS (sI I 331 24 0) L X)
  refine Wp.sub [0, 1, 2] (ls2 := [(0, .ref 331), (1, .int p0), (2, .int 0)]) rfl ?_
  exact lo_M_arePassed_7 g fu _ _ _ _ q
def FO_M_hour (fu : Nat) (p0 : Int32) (I : Nat → Nat → Int32) (L : Nat → Nat → Int64) : Option (Int32 × (Nat → Nat → Int32) × (Nat → Nat → Int64)) := if (1 : Int32) ≤ p0 ∧ p0 ≤ (60 : Int32) then (if 9999 < (I 332 7) + p0 then (some ((-1), I, L)) else ((FO_M_arePassed fu p0 I L).bind (fun u1 => let r1 := u1.1; let I1 := u1.2.1; let L1 := u1.2.2; if r1 = 0 then (some ((-1), I1, L1)) else (some (I1 331 24, I1, L1))))) else (some ((-1), I, L))
set_option maxHeartbeats 20000000 in
theorem eo_M_hour {d fu : Nat} {p0 : Int32} {I : Nat → Nat → Int32} {L : Nat → Nat → Int64} {X : Nat × (Nat → Int32)} {Q : PQ} {res : Int32 × (Nat → Nat → Int32) × (Nat → Nat → Int64)} (g : Q (some (.int res.1)) (HS res.2.1 res.2.2 X)) (q : FO_M_hour fu p0 I L = some res) : Ev (d + 13) m_M_hour [.ref 331, .int p0] (HS I L X) Q := by
  unfold FO_M_hour at q
  refine ev_start (d := d + 12) rfl rfl rfl (Nat.le_of_ble_eq_true rfl) ?_
  show Wp (Ev (d + 12)) cd_M_hour (0, 0) (some .int) _ _ Q 0 [(0, .ref 331), (1, .int p0)] [] (HS I L X)
  refine w_iload_n (Ev.cm _) rfl rfl ?_
  refine w_iconst (Ev.cm _) rfl ?_
  refine w_bipush (Ev.cm _) rfl ?_
  refine w_cstat (as := [.int p0, .int 1, .int 60]) (st := []) (Ev.cm _) rfl rfl rfl (Nat.le_of_ble_eq_true rfl) (Nat.le_of_ble_eq_true rfl) (m_isIn ?_)
  show Wp _ _ _ _ _ _ _ 7 [(0, .ref 331), (1, .int p0)] [.int (bI ((1 : Int32) ≤ p0 ∧ p0 ≤ (60 : Int32)))] (HS I L X)
  refine w_if_eq (Ev.cm _) rfl (fun c1 => ?_) (fun c1 => ?_)
  · have c1 : ¬ ((1 : Int32) ≤ p0 ∧ p0 ≤ (60 : Int32)) := bI_0.mp c1
    rw [if_neg c1] at q
    refine w_iconst (Ev.cm _) rfl ?_
    refine w_ireturn (Ev.cm _) rfl trivial rf0 ?_
    cases q
    exact g
  · have c1 : (1 : Int32) ≤ p0 ∧ p0 ≤ (60 : Int32) := bI_1.mp c1
    rw [if_pos c1] at q
    refine w_aload_n (Ev.cm _) rfl rfl ?_
    refine w_getR (q := 332) (Ev.cm _) rfl (Nat.le_of_ble_eq_true rfl) rfl rfl ?_
    refine w_bipush (Ev.cm _) rfl ?_
    refine w_iald (Ev.cm _) rfl (Nat.le_of_ble_eq_true rfl) rfl (show vp_in 7 1541 from vpI 1541 (by decide) (by decide) (by decide)) ?_
    refine w_iload_n (Ev.cm _) rfl rfl ?_
    refine w_iadd (Ev.cm _) rfl ?_
    refine w_sipush (Ev.cm _) rfl ?_
    refine w_icmp_gt (Ev.cm _) rfl (fun c2 => ?_) (fun c2 => ?_)
    · have c2 : 9999 < (I 332 7) + p0 := c2
      rw [if_pos c2] at q
      refine w_iconst (Ev.cm _) rfl ?_
      refine w_ireturn (Ev.cm _) rfl trivial rf0 ?_
      cases q
      exact g
    · have c2 : ¬ (9999 < (I 332 7) + p0) := c2
      rw [if_neg c2] at q
      refine w_aload_n (Ev.cm _) rfl rfl ?_
      refine w_iload_n (Ev.cm _) rfl rfl ?_
      obtain ⟨⟨r1, I1, L1⟩, e1, q⟩ := obs q
      dsimp only at q
      refine w_cvirt (o := 331) (as := [.int p0]) (st := []) (Ev.cm _) rfl rfl rfl (Nat.le_of_ble_eq_true rfl) (Nat.le_of_ble_eq_true rfl) rfl (Nat.le_of_ble_eq_true rfl) (eo_M_arePassed (g := ?_) e1)
      show Wp _ _ _ _ _ _ _ 30 [(0, .ref 331), (1, .int p0)] [.int r1] (HS I1 L1 X)
      refine w_if_eq (Ev.cm _) rfl (fun c3 => ?_) (fun c3 => ?_)
      · have c3 : r1 = 0 := c3
        rw [if_pos c3] at q
        refine w_iconst (Ev.cm _) rfl ?_
        refine w_ireturn (Ev.cm _) rfl trivial rf0 ?_
        cases q
        exact g
      · have c3 : ¬ (r1 = 0) := c3
        rw [if_neg c3] at q
        refine w_aload_n (Ev.cm _) rfl rfl ?_
        refine w_getI (Ev.cm _) rfl (Nat.le_of_ble_eq_true rfl) rfl ?_
        refine w_goto (Ev.cm _) rfl ?_
        refine w_ireturn (Ev.cm _) rfl trivial rf0 ?_
        cases q
        exact g
def FO_M_isPlayed (fu : Nat) (p0 : Int32) (I : Nat → Nat → Int32) (L : Nat → Nat → Int64) : Option (Int32 × (Nat → Nat → Int32) × (Nat → Nat → Int64)) := if 0 ≤ p0 + 1 ∧ p0 + 1 < 2724 then (if 0 ≤ p0 + 2 ∧ p0 + 2 < 2724 then (if 0 ≤ p0 ∧ p0 < 2724 then (if I 334 p0.toNatClampNeg = 2 then ((FO_M_lodger fu (I 334 ((p0 + 1).toNatClampNeg)) (I 334 ((p0 + 2).toNatClampNeg)) I L).bind (fun u4 => let r4 := u4.1; let I4 := u4.2.1; let L4 := u4.2.2; if r4 < 0 then (some (0, I4, L4)) else (some (1, I4, L4)))) else (if I 334 p0.toNatClampNeg = 3 then ((FO_M_tread fu (I 334 ((p0 + 2).toNatClampNeg)) 1 (I 334 ((p0 + 1).toNatClampNeg)) I L).bind (fun u5 => let r5 := u5.1; let I5 := u5.2.1; let L5 := u5.2.2; if r5 < 0 then (some (0, I5, L5)) else (some (1, I5, L5)))) else (if I 334 p0.toNatClampNeg = 4 then ((FO_M_tread fu (I 334 ((p0 + 2).toNatClampNeg)) 0 (I 334 ((p0 + 1).toNatClampNeg)) I L).bind (fun u6 => let r6 := u6.1; let I6 := u6.2.1; let L6 := u6.2.2; if r6 < 0 then (some (0, I6, L6)) else (some (1, I6, L6)))) else (if I 334 p0.toNatClampNeg = 5 then ((FO_M_hang fu (I 334 ((p0 + 1).toNatClampNeg)) 1 I L).bind (fun u7 => let r7 := u7.1; let I7 := u7.2.1; let L7 := u7.2.2; if r7 = 0 ∨ r7 = 1 then (some (r7, I7, L7)) else none)) else (if I 334 p0.toNatClampNeg = 6 then ((FO_M_hang fu (I 334 ((p0 + 1).toNatClampNeg)) 0 I L).bind (fun u9 => let r9 := u9.1; let I9 := u9.2.1; let L9 := u9.2.2; if r9 = 0 ∨ r9 = 1 then (some (r9, I9, L9)) else none)) else (if I 334 p0.toNatClampNeg = 7 then ((FO_M_arePassed fu (I 334 ((p0 + 1).toNatClampNeg)) I L).bind (fun u11 => let r11 := u11.1; let I11 := u11.2.1; let L11 := u11.2.2; if r11 = 0 ∨ r11 = 1 then (some (r11, I11, L11)) else none)) else (some (1, I, L)))))))) else none) else none) else none
set_option maxHeartbeats 20000000 in
theorem eo_M_isPlayed {d fu : Nat} {p0 : Int32} {I : Nat → Nat → Int32} {L : Nat → Nat → Int64} {X : Nat × (Nat → Int32)} {Q : PQ} {res : Int32 × (Nat → Nat → Int32) × (Nat → Nat → Int64)} (g : Q (some (.int res.1)) (HS res.2.1 res.2.2 X)) (q : FO_M_isPlayed fu p0 I L = some res) : Ev (d + 13) m_M_isPlayed [.ref 331, .int p0] (HS I L X) Q := by
  unfold FO_M_isPlayed at q
  refine ev_start (d := d + 12) rfl rfl rfl (Nat.le_of_ble_eq_true rfl) ?_
  show Wp (Ev (d + 12)) cd_M_isPlayed (0, 0) (some .boolean) _ _ Q 0 [(0, .ref 331), (1, .int p0)] [] (HS I L X)
  refine w_aload_n (Ev.cm _) rfl rfl ?_
  refine w_getR (q := 334) (Ev.cm _) rfl (Nat.le_of_ble_eq_true rfl) rfl rfl ?_
  refine w_iload_n (Ev.cm _) rfl rfl ?_
  refine w_iconst (Ev.cm _) rfl ?_
  refine w_iadd (Ev.cm _) rfl ?_
  obtain ⟨b1, q⟩ := ois q
  refine w_iald (Ev.cm _) rfl (Nat.le_of_ble_eq_true rfl) rfl (show vp_in (p0 + 1) 2724 from vpI 2724 (by decide) b1.1 b1.2) ?_
  refine w_istore_n (ls2 := [(0, .ref 331), (1, .int p0), (2, .int (I 334 ((p0 + 1).toNatClampNeg)))]) (Ev.cm _) rfl rfl ?_
  refine w_aload_n (Ev.cm _) rfl rfl ?_
  refine w_getR (q := 334) (Ev.cm _) rfl (Nat.le_of_ble_eq_true rfl) rfl rfl ?_
  refine w_iload_n (Ev.cm _) rfl rfl ?_
  refine w_iconst (Ev.cm _) rfl ?_
  refine w_iadd (Ev.cm _) rfl ?_
  obtain ⟨b2, q⟩ := ois q
  refine w_iald (Ev.cm _) rfl (Nat.le_of_ble_eq_true rfl) rfl (show vp_in (p0 + 2) 2724 from vpI 2724 (by decide) b2.1 b2.2) ?_
  refine w_istore_n (ls2 := [(0, .ref 331), (1, .int p0), (2, .int (I 334 ((p0 + 1).toNatClampNeg))), (3, .int (I 334 ((p0 + 2).toNatClampNeg)))]) (Ev.cm _) rfl rfl ?_
  refine w_aload_n (Ev.cm _) rfl rfl ?_
  refine w_getR (q := 334) (Ev.cm _) rfl (Nat.le_of_ble_eq_true rfl) rfl rfl ?_
  refine w_iload_n (Ev.cm _) rfl rfl ?_
  obtain ⟨b3, q⟩ := ois q
  refine w_iald (Ev.cm _) rfl (Nat.le_of_ble_eq_true rfl) rfl (show vp_in p0 2724 from vpI 2724 (by decide) b3.1 b3.2) ?_
  refine w_tswL (Ev.cm _) [(2, 40), (3, 55), (4, 71), (5, 87), (6, 94), (7, 101)] rfl (by decide) (by decide) ?_
  refine ⟨fun c1 => ?_, fun c1_0 => ⟨fun c1 => ?_, fun c1_1 => ⟨fun c1 => ?_, fun c1_2 => ⟨fun c1 => ?_, fun c1_3 => ⟨fun c1 => ?_, fun c1_4 => ⟨fun c1 => ?_, fun c1_5 => ?_⟩⟩⟩⟩⟩⟩
  · have c1 : I 334 p0.toNatClampNeg = 2 := sw_v c1 (by decide)
    rw [if_pos c1] at q
    show Wp _ _ _ _ _ _ _ 64 [(0, .ref 331), (1, .int p0), (2, .int (I 334 ((p0 + 1).toNatClampNeg))), (3, .int (I 334 ((p0 + 2).toNatClampNeg)))] [] (HS I L X)
    refine w_aload_n (Ev.cm _) rfl rfl ?_
    refine w_iload_n (Ev.cm _) rfl rfl ?_
    refine w_iload_n (Ev.cm _) rfl rfl ?_
    obtain ⟨⟨r4, I4, L4⟩, e4, q⟩ := obs q
    dsimp only at q
    refine w_cvirt (o := 331) (as := [.int (I 334 ((p0 + 1).toNatClampNeg)), .int (I 334 ((p0 + 2).toNatClampNeg))]) (st := []) (Ev.cm _) rfl rfl rfl (Nat.le_of_ble_eq_true rfl) (Nat.le_of_ble_eq_true rfl) rfl (Nat.le_of_ble_eq_true rfl) (eo_M_lodger (g := ?_) e4)
    show Wp _ _ _ _ _ _ _ 70 [(0, .ref 331), (1, .int p0), (2, .int (I 334 ((p0 + 1).toNatClampNeg))), (3, .int (I 334 ((p0 + 2).toNatClampNeg)))] [.int r4] (HS I4 L4 X)
    refine w_if_lt (Ev.cm _) rfl (fun c2 => ?_) (fun c2 => ?_)
    · have c2 : r4 < 0 := c2
      rw [if_pos c2] at q
      refine w_iconst (Ev.cm _) rfl ?_
      refine w_ireturn (Ev.cm _) rfl (by first | exact rok_0 | exact rok_1 | exact rok_b) rf0 ?_
      cases q
      exact g
    · have c2 : ¬ (r4 < 0) := c2
      rw [if_neg c2] at q
      refine w_iconst (Ev.cm _) rfl ?_
      refine w_goto (Ev.cm _) rfl ?_
      refine w_ireturn (Ev.cm _) rfl (by first | exact rok_0 | exact rok_1 | exact rok_b) rf0 ?_
      cases q
      exact g
  · have c1_0 : ¬ I 334 p0.toNatClampNeg = 2 := sw_w c1_0 (by decide)
    have c1 : I 334 p0.toNatClampNeg = 3 := sw_v c1 (by decide)
    rw [if_neg c1_0, if_pos c1] at q
    show Wp _ _ _ _ _ _ _ 79 [(0, .ref 331), (1, .int p0), (2, .int (I 334 ((p0 + 1).toNatClampNeg))), (3, .int (I 334 ((p0 + 2).toNatClampNeg)))] [] (HS I L X)
    refine w_aload_n (Ev.cm _) rfl rfl ?_
    refine w_iload_n (Ev.cm _) rfl rfl ?_
    refine w_iconst (Ev.cm _) rfl ?_
    refine w_iload_n (Ev.cm _) rfl rfl ?_
    obtain ⟨⟨r5, I5, L5⟩, e5, q⟩ := obs q
    dsimp only at q
    refine w_cvirt (o := 331) (as := [.int (I 334 ((p0 + 2).toNatClampNeg)), .int 1, .int (I 334 ((p0 + 1).toNatClampNeg))]) (st := []) (Ev.cm _) rfl rfl rfl (Nat.le_of_ble_eq_true rfl) (Nat.le_of_ble_eq_true rfl) rfl (Nat.le_of_ble_eq_true rfl) (eo_M_tread (g := ?_) e5)
    show Wp _ _ _ _ _ _ _ 86 [(0, .ref 331), (1, .int p0), (2, .int (I 334 ((p0 + 1).toNatClampNeg))), (3, .int (I 334 ((p0 + 2).toNatClampNeg)))] [.int r5] (HS I5 L5 X)
    refine w_if_lt (Ev.cm _) rfl (fun c3 => ?_) (fun c3 => ?_)
    · have c3 : r5 < 0 := c3
      rw [if_pos c3] at q
      refine w_iconst (Ev.cm _) rfl ?_
      refine w_ireturn (Ev.cm _) rfl (by first | exact rok_0 | exact rok_1 | exact rok_b) rf0 ?_
      cases q
      exact g
    · have c3 : ¬ (r5 < 0) := c3
      rw [if_neg c3] at q
      refine w_iconst (Ev.cm _) rfl ?_
      refine w_goto (Ev.cm _) rfl ?_
      refine w_ireturn (Ev.cm _) rfl (by first | exact rok_0 | exact rok_1 | exact rok_b) rf0 ?_
      cases q
      exact g
  · have c1_0 : ¬ I 334 p0.toNatClampNeg = 2 := sw_w c1_0 (by decide)
    have c1_1 : ¬ I 334 p0.toNatClampNeg = 3 := sw_w c1_1 (by decide)
    have c1 : I 334 p0.toNatClampNeg = 4 := sw_v c1 (by decide)
    rw [if_neg c1_0, if_neg c1_1, if_pos c1] at q
    show Wp _ _ _ _ _ _ _ 95 [(0, .ref 331), (1, .int p0), (2, .int (I 334 ((p0 + 1).toNatClampNeg))), (3, .int (I 334 ((p0 + 2).toNatClampNeg)))] [] (HS I L X)
    refine w_aload_n (Ev.cm _) rfl rfl ?_
    refine w_iload_n (Ev.cm _) rfl rfl ?_
    refine w_iconst (Ev.cm _) rfl ?_
    refine w_iload_n (Ev.cm _) rfl rfl ?_
    obtain ⟨⟨r6, I6, L6⟩, e6, q⟩ := obs q
    dsimp only at q
    refine w_cvirt (o := 331) (as := [.int (I 334 ((p0 + 2).toNatClampNeg)), .int 0, .int (I 334 ((p0 + 1).toNatClampNeg))]) (st := []) (Ev.cm _) rfl rfl rfl (Nat.le_of_ble_eq_true rfl) (Nat.le_of_ble_eq_true rfl) rfl (Nat.le_of_ble_eq_true rfl) (eo_M_tread (g := ?_) e6)
    show Wp _ _ _ _ _ _ _ 102 [(0, .ref 331), (1, .int p0), (2, .int (I 334 ((p0 + 1).toNatClampNeg))), (3, .int (I 334 ((p0 + 2).toNatClampNeg)))] [.int r6] (HS I6 L6 X)
    refine w_if_lt (Ev.cm _) rfl (fun c4 => ?_) (fun c4 => ?_)
    · have c4 : r6 < 0 := c4
      rw [if_pos c4] at q
      refine w_iconst (Ev.cm _) rfl ?_
      refine w_ireturn (Ev.cm _) rfl (by first | exact rok_0 | exact rok_1 | exact rok_b) rf0 ?_
      cases q
      exact g
    · have c4 : ¬ (r6 < 0) := c4
      rw [if_neg c4] at q
      refine w_iconst (Ev.cm _) rfl ?_
      refine w_goto (Ev.cm _) rfl ?_
      refine w_ireturn (Ev.cm _) rfl (by first | exact rok_0 | exact rok_1 | exact rok_b) rf0 ?_
      cases q
      exact g
  · have c1_0 : ¬ I 334 p0.toNatClampNeg = 2 := sw_w c1_0 (by decide)
    have c1_1 : ¬ I 334 p0.toNatClampNeg = 3 := sw_w c1_1 (by decide)
    have c1_2 : ¬ I 334 p0.toNatClampNeg = 4 := sw_w c1_2 (by decide)
    have c1 : I 334 p0.toNatClampNeg = 5 := sw_v c1 (by decide)
    rw [if_neg c1_0, if_neg c1_1, if_neg c1_2, if_pos c1] at q
    show Wp _ _ _ _ _ _ _ 111 [(0, .ref 331), (1, .int p0), (2, .int (I 334 ((p0 + 1).toNatClampNeg))), (3, .int (I 334 ((p0 + 2).toNatClampNeg)))] [] (HS I L X)
    refine w_aload_n (Ev.cm _) rfl rfl ?_
    refine w_iload_n (Ev.cm _) rfl rfl ?_
    refine w_iconst (Ev.cm _) rfl ?_
    obtain ⟨⟨r7, I7, L7⟩, e7, q⟩ := obs q
    dsimp only at q
    refine w_cvirt (o := 331) (as := [.int (I 334 ((p0 + 1).toNatClampNeg)), .int 1]) (st := []) (Ev.cm _) rfl rfl rfl (Nat.le_of_ble_eq_true rfl) (Nat.le_of_ble_eq_true rfl) rfl (Nat.le_of_ble_eq_true rfl) (eo_M_hang (g := ?_) e7)
    show Wp _ _ _ _ _ _ _ 117 [(0, .ref 331), (1, .int p0), (2, .int (I 334 ((p0 + 1).toNatClampNeg))), (3, .int (I 334 ((p0 + 2).toNatClampNeg)))] [.int r7] (HS I7 L7 X)
    obtain ⟨b8, q⟩ := ois q
    refine w_ireturn (Ev.cm _) rfl (show rok (some .boolean) _ from b8) rf0 ?_
    cases q
    exact g
  · have c1_0 : ¬ I 334 p0.toNatClampNeg = 2 := sw_w c1_0 (by decide)
    have c1_1 : ¬ I 334 p0.toNatClampNeg = 3 := sw_w c1_1 (by decide)
    have c1_2 : ¬ I 334 p0.toNatClampNeg = 4 := sw_w c1_2 (by decide)
    have c1_3 : ¬ I 334 p0.toNatClampNeg = 5 := sw_w c1_3 (by decide)
    have c1 : I 334 p0.toNatClampNeg = 6 := sw_v c1 (by decide)
    rw [if_neg c1_0, if_neg c1_1, if_neg c1_2, if_neg c1_3, if_pos c1] at q
    show Wp _ _ _ _ _ _ _ 118 [(0, .ref 331), (1, .int p0), (2, .int (I 334 ((p0 + 1).toNatClampNeg))), (3, .int (I 334 ((p0 + 2).toNatClampNeg)))] [] (HS I L X)
    refine w_aload_n (Ev.cm _) rfl rfl ?_
    refine w_iload_n (Ev.cm _) rfl rfl ?_
    refine w_iconst (Ev.cm _) rfl ?_
    obtain ⟨⟨r9, I9, L9⟩, e9, q⟩ := obs q
    dsimp only at q
    refine w_cvirt (o := 331) (as := [.int (I 334 ((p0 + 1).toNatClampNeg)), .int 0]) (st := []) (Ev.cm _) rfl rfl rfl (Nat.le_of_ble_eq_true rfl) (Nat.le_of_ble_eq_true rfl) rfl (Nat.le_of_ble_eq_true rfl) (eo_M_hang (g := ?_) e9)
    show Wp _ _ _ _ _ _ _ 124 [(0, .ref 331), (1, .int p0), (2, .int (I 334 ((p0 + 1).toNatClampNeg))), (3, .int (I 334 ((p0 + 2).toNatClampNeg)))] [.int r9] (HS I9 L9 X)
    obtain ⟨b10, q⟩ := ois q
    refine w_ireturn (Ev.cm _) rfl (show rok (some .boolean) _ from b10) rf0 ?_
    cases q
    exact g
  · have c1_0 : ¬ I 334 p0.toNatClampNeg = 2 := sw_w c1_0 (by decide)
    have c1_1 : ¬ I 334 p0.toNatClampNeg = 3 := sw_w c1_1 (by decide)
    have c1_2 : ¬ I 334 p0.toNatClampNeg = 4 := sw_w c1_2 (by decide)
    have c1_3 : ¬ I 334 p0.toNatClampNeg = 5 := sw_w c1_3 (by decide)
    have c1_4 : ¬ I 334 p0.toNatClampNeg = 6 := sw_w c1_4 (by decide)
    have c1 : I 334 p0.toNatClampNeg = 7 := sw_v c1 (by decide)
    rw [if_neg c1_0, if_neg c1_1, if_neg c1_2, if_neg c1_3, if_neg c1_4, if_pos c1] at q
    show Wp _ _ _ _ _ _ _ 125 [(0, .ref 331), (1, .int p0), (2, .int (I 334 ((p0 + 1).toNatClampNeg))), (3, .int (I 334 ((p0 + 2).toNatClampNeg)))] [] (HS I L X)
    refine w_aload_n (Ev.cm _) rfl rfl ?_
    refine w_iload_n (Ev.cm _) rfl rfl ?_
    obtain ⟨⟨r11, I11, L11⟩, e11, q⟩ := obs q
    dsimp only at q
    refine w_cvirt (o := 331) (as := [.int (I 334 ((p0 + 1).toNatClampNeg))]) (st := []) (Ev.cm _) rfl rfl rfl (Nat.le_of_ble_eq_true rfl) (Nat.le_of_ble_eq_true rfl) rfl (Nat.le_of_ble_eq_true rfl) (eo_M_arePassed (g := ?_) e11)
    show Wp _ _ _ _ _ _ _ 130 [(0, .ref 331), (1, .int p0), (2, .int (I 334 ((p0 + 1).toNatClampNeg))), (3, .int (I 334 ((p0 + 2).toNatClampNeg)))] [.int r11] (HS I11 L11 X)
    obtain ⟨b12, q⟩ := ois q
    refine w_ireturn (Ev.cm _) rfl (show rok (some .boolean) _ from b12) rf0 ?_
    cases q
    exact g
  · have c1_0 : ¬ I 334 p0.toNatClampNeg = 2 := sw_w c1_0 (by decide)
    have c1_1 : ¬ I 334 p0.toNatClampNeg = 3 := sw_w c1_1 (by decide)
    have c1_2 : ¬ I 334 p0.toNatClampNeg = 4 := sw_w c1_2 (by decide)
    have c1_3 : ¬ I 334 p0.toNatClampNeg = 5 := sw_w c1_3 (by decide)
    have c1_4 : ¬ I 334 p0.toNatClampNeg = 6 := sw_w c1_4 (by decide)
    have c1_5 : ¬ I 334 p0.toNatClampNeg = 7 := sw_w c1_5 (by decide)
    rw [if_neg c1_0, if_neg c1_1, if_neg c1_2, if_neg c1_3, if_neg c1_4, if_neg c1_5] at q
    show Wp _ _ _ _ _ _ _ 131 [(0, .ref 331), (1, .int p0), (2, .int (I 334 ((p0 + 1).toNatClampNeg))), (3, .int (I 334 ((p0 + 2).toNatClampNeg)))] [] (HS I L X)
    refine w_iconst (Ev.cm _) rfl ?_
    refine w_ireturn (Ev.cm _) rfl (by first | exact rok_0 | exact rok_1 | exact rok_b) rf0 ?_
    cases q
    exact g
def LO_M_played_21 (fu : Nat) : Nat → Int32 → Int32 → (Nat → Nat → Int32) → (Nat → Nat → Int64) → Option (Int32 × (Nat → Nat → Int32) × (Nat → Nat → Int64))
  | 0, _, _, _, _ => none
  | n + 1, x1, x2, I, L => if 0 ≤ (681 : Int32) * x1 ∧ (681 : Int32) * x1 < 2724 then (if I 334 (((681 : Int32) * x1).toNatClampNeg) ≤ x2 then (some ((-1), I, L)) else ((FO_M_isPlayed fu ((((681 : Int32) * x1) + 1) + ((3 : Int32) * x2)) I L).bind (fun u2 => let r2 := u2.1; let I2 := u2.2.1; let L2 := u2.2.2; if r2 = 0 then (some (x2, I2, L2)) else (LO_M_played_21 fu n x1 (x2 + 1) I2 L2)))) else none
set_option maxHeartbeats 20000000 in
theorem lo_M_played_21 {d fu n0 s0 : Nat} {X : Nat × (Nat → Int32)} {Q : PQ} {res : Int32 × (Nat → Nat → Int32) × (Nat → Nat → Int64)} (g : Q (some (.int res.1)) (HS res.2.1 res.2.2 X)) : ∀ (n : Nat) (x1 : Int32) (x2 : Int32) (I : Nat → Nat → Int32) (L : Nat → Nat → Int64), LO_M_played_21 fu n x1 x2 I L = some res → Wp (Ev (d + 13)) cd_M_played (0, 0) (some .int) n0 s0 Q 21 [(0, .ref 331), (1, .int x1), (2, .int x2)] [] (HS I L X) := by
  intro n
  induction n with
  | zero => intro _ _ _ _ q; cases q
  | succ n ih =>
    intro x1 x2 I L q
    unfold LO_M_played_21 at q
    refine w_iload_n (Ev.cm _) rfl rfl ?_
    refine w_aload_n (Ev.cm _) rfl rfl ?_
    refine w_getR (q := 334) (Ev.cm _) rfl (Nat.le_of_ble_eq_true rfl) rfl rfl ?_
    refine w_sipush (Ev.cm _) rfl ?_
    refine w_iload_n (Ev.cm _) rfl rfl ?_
    refine w_imul (Ev.cm _) rfl ?_
    obtain ⟨b1, q⟩ := ois q
    refine w_iald (Ev.cm _) rfl (Nat.le_of_ble_eq_true rfl) rfl (show vp_in ((681 : Int32) * x1) 2724 from vpI 2724 (by decide) b1.1 b1.2) ?_
    refine w_icmp_ge (Ev.cm _) rfl (fun c1 => ?_) (fun c1 => ?_)
    · have c1 : I 334 (((681 : Int32) * x1).toNatClampNeg) ≤ x2 := c1
      rw [if_pos c1] at q
      refine w_iconst (Ev.cm _) rfl ?_
      refine w_ireturn (Ev.cm _) rfl trivial rf0 ?_
      cases q
      exact g
    · have c1 : ¬ (I 334 (((681 : Int32) * x1).toNatClampNeg) ≤ x2) := c1
      rw [if_neg c1] at q
      refine w_aload_n (Ev.cm _) rfl rfl ?_
      refine w_sipush (Ev.cm _) rfl ?_
      refine w_iload_n (Ev.cm _) rfl rfl ?_
      refine w_imul (Ev.cm _) rfl ?_
      refine w_iconst (Ev.cm _) rfl ?_
      refine w_iadd (Ev.cm _) rfl ?_
      refine w_iconst (Ev.cm _) rfl ?_
      refine w_iload_n (Ev.cm _) rfl rfl ?_
      refine w_imul (Ev.cm _) rfl ?_
      refine w_iadd (Ev.cm _) rfl ?_
      obtain ⟨⟨r2, I2, L2⟩, e2, q⟩ := obs q
      dsimp only at q
      refine w_cvirt (o := 331) (as := [.int ((((681 : Int32) * x1) + 1) + ((3 : Int32) * x2))]) (st := []) (Ev.cm _) rfl rfl rfl (Nat.le_of_ble_eq_true rfl) (Nat.le_of_ble_eq_true rfl) rfl (Nat.le_of_ble_eq_true rfl) (eo_M_isPlayed (g := ?_) e2)
      show Wp _ _ _ _ _ _ _ 50 [(0, .ref 331), (1, .int x1), (2, .int x2)] [.int r2] (HS I2 L2 X)
      refine w_if_ne (Ev.cm _) rfl (fun c2 => ?_) (fun c2 => ?_)
      · have c2 : ¬ (r2 = 0) := c2
        rw [if_neg c2] at q
        refine w_iinc (ls2 := [(0, .ref 331), (1, .int x1), (2, .int (x2 + 1))]) (Ev.cm _) rfl rfl rfl ?_
        refine w_goto (Ev.cm _) rfl ?_
        show Wp _ _ _ _ _ _ _ 21 [(0, .ref 331), (1, .int x1), (2, .int (x2 + 1))] [] (HS I2 L2 X)
        refine Wp.sub [0, 1, 2] (ls2 := [(0, .ref 331), (1, .int x1), (2, .int (x2 + 1))]) rfl ?_
        exact ih _ _ _ _ q
      · have c2 : r2 = 0 := c2
        rw [if_pos c2] at q
        refine w_iload_n (Ev.cm _) rfl rfl ?_
        refine w_ireturn (Ev.cm _) rfl trivial rf0 ?_
        cases q
        exact g
def FO_M_played (fu : Nat) (p0 : Int32) (I : Nat → Nat → Int32) (L : Nat → Nat → Int64) : Option (Int32 × (Nat → Nat → Int32) × (Nat → Nat → Int64)) := if (0 : Int32) ≤ p0 ∧ p0 ≤ ((I 332 1) - 1) then (LO_M_played_21 fu fu p0 0 I L) else (some ((-2), I, L))
set_option maxHeartbeats 20000000 in
theorem eo_M_played {d fu : Nat} {p0 : Int32} {I : Nat → Nat → Int32} {L : Nat → Nat → Int64} {X : Nat × (Nat → Int32)} {Q : PQ} {res : Int32 × (Nat → Nat → Int32) × (Nat → Nat → Int64)} (g : Q (some (.int res.1)) (HS res.2.1 res.2.2 X)) (q : FO_M_played fu p0 I L = some res) : Ev (d + 14) m_M_played [.ref 331, .int p0] (HS I L X) Q := by
  unfold FO_M_played at q
  refine ev_start (d := d + 13) rfl rfl rfl (Nat.le_of_ble_eq_true rfl) ?_
  show Wp (Ev (d + 13)) cd_M_played (0, 0) (some .int) _ _ Q 0 [(0, .ref 331), (1, .int p0)] [] (HS I L X)
  refine w_iload_n (Ev.cm _) rfl rfl ?_
  refine w_iconst (Ev.cm _) rfl ?_
  refine w_aload_n (Ev.cm _) rfl rfl ?_
  refine w_getR (q := 332) (Ev.cm _) rfl (Nat.le_of_ble_eq_true rfl) rfl rfl ?_
  refine w_iconst (Ev.cm _) rfl ?_
  refine w_iald (Ev.cm _) rfl (Nat.le_of_ble_eq_true rfl) rfl (show vp_in 1 1541 from vpI 1541 (by decide) (by decide) (by decide)) ?_
  refine w_iconst (Ev.cm _) rfl ?_
  refine w_isub (Ev.cm _) rfl ?_
  refine w_cstat (as := [.int p0, .int 0, .int ((I 332 1) - 1)]) (st := []) (Ev.cm _) rfl rfl rfl (Nat.le_of_ble_eq_true rfl) (Nat.le_of_ble_eq_true rfl) (m_isIn ?_)
  show Wp _ _ _ _ _ _ _ 13 [(0, .ref 331), (1, .int p0)] [.int (bI ((0 : Int32) ≤ p0 ∧ p0 ≤ ((I 332 1) - 1)))] (HS I L X)
  refine w_if_ne (Ev.cm _) rfl (fun c1 => ?_) (fun c1 => ?_)
  · have c1 : (0 : Int32) ≤ p0 ∧ p0 ≤ ((I 332 1) - 1) := bI_1.mp c1
    rw [if_pos c1] at q
    refine w_iconst (Ev.cm _) rfl ?_
    refine w_istore_n (ls2 := [(0, .ref 331), (1, .int p0), (2, .int 0)]) (Ev.cm _) rfl rfl ?_
    show Wp _ _ _ _ _ _ _ 21 [(0, .ref 331), (1, .int p0), (2, .int 0)] [] (HS I L X)
    refine Wp.sub [0, 1, 2] (ls2 := [(0, .ref 331), (1, .int p0), (2, .int 0)]) rfl ?_
    exact lo_M_played_21 g fu _ _ _ _ q
  · have c1 : ¬ ((0 : Int32) ≤ p0 ∧ p0 ≤ ((I 332 1) - 1)) := bI_0.mp c1
    rw [if_neg c1] at q
    refine w_bipush (Ev.cm _) rfl ?_
    refine w_ireturn (Ev.cm _) rfl trivial rf0 ?_
    cases q
    exact g
def FO_M_happens (fu : Nat) (p0 : Int32) (I : Nat → Nat → Int32) (L : Nat → Nat → Int64) : Option (Unit × (Nat → Nat → Int32) × (Nat → Nat → Int64)) := if iR p0 6 = 0 then (if I 332 0 ≤ 0 then (some ((), I, L)) else (if ¬ I 332 0 = 0 then (if iR p0 6 = 0 then ((FO_M_canTread fu (iR p0 (I 332 0)) 1 ((1 : Int32) + (iR p0 3)) I L).bind (fun u6 => let r6 := u6.1; let I6 := u6.2.1; let L6 := u6.2.2; if r6 = 0 then (some ((), I6, L6)) else (if ¬ I6 332 0 = 0 then (if iR p0 6 = 0 then ((FO_M_treadNow fu (iR p0 (I6 332 0)) 1 ((1 : Int32) + (iR p0 3)) I6 L6).bind (fun u9 => let r9 := u9.1; let I9 := u9.2.1; let L9 := u9.2.2; some ((), I9, L9))) else ((FO_M_treadNow fu (iR p0 (I6 332 0)) 0 ((1 : Int32) + (iR p0 3)) I6 L6).bind (fun u8 => let r8 := u8.1; let I8 := u8.2.1; let L8 := u8.2.2; some ((), I8, L8)))) else none))) else ((FO_M_canTread fu (iR p0 (I 332 0)) 0 ((1 : Int32) + (iR p0 3)) I L).bind (fun u2 => let r2 := u2.1; let I2 := u2.2.1; let L2 := u2.2.2; if r2 = 0 then (some ((), I2, L2)) else (if ¬ I2 332 0 = 0 then (if iR p0 6 = 0 then ((FO_M_treadNow fu (iR p0 (I2 332 0)) 1 ((1 : Int32) + (iR p0 3)) I2 L2).bind (fun u5 => let r5 := u5.1; let I5 := u5.2.1; let L5 := u5.2.2; some ((), I5, L5))) else ((FO_M_treadNow fu (iR p0 (I2 332 0)) 0 ((1 : Int32) + (iR p0 3)) I2 L2).bind (fun u4 => let r4 := u4.1; let I4 := u4.2.1; let L4 := u4.2.2; some ((), I4, L4)))) else none)))) else none)) else (if iR p0 6 = 1 then (if I 332 0 ≤ 0 then (some ((), I, L)) else (if ¬ I 332 0 = 0 then (if iR p0 6 = 0 then ((FO_M_canTread fu (iR p0 (I 332 0)) 1 ((1 : Int32) + (iR p0 3)) I L).bind (fun u15 => let r15 := u15.1; let I15 := u15.2.1; let L15 := u15.2.2; if r15 = 0 then (some ((), I15, L15)) else (if ¬ I15 332 0 = 0 then (if iR p0 6 = 0 then ((FO_M_treadNow fu (iR p0 (I15 332 0)) 1 ((1 : Int32) + (iR p0 3)) I15 L15).bind (fun u18 => let r18 := u18.1; let I18 := u18.2.1; let L18 := u18.2.2; some ((), I18, L18))) else ((FO_M_treadNow fu (iR p0 (I15 332 0)) 0 ((1 : Int32) + (iR p0 3)) I15 L15).bind (fun u17 => let r17 := u17.1; let I17 := u17.2.1; let L17 := u17.2.2; some ((), I17, L17)))) else none))) else ((FO_M_canTread fu (iR p0 (I 332 0)) 0 ((1 : Int32) + (iR p0 3)) I L).bind (fun u11 => let r11 := u11.1; let I11 := u11.2.1; let L11 := u11.2.2; if r11 = 0 then (some ((), I11, L11)) else (if ¬ I11 332 0 = 0 then (if iR p0 6 = 0 then ((FO_M_treadNow fu (iR p0 (I11 332 0)) 1 ((1 : Int32) + (iR p0 3)) I11 L11).bind (fun u14 => let r14 := u14.1; let I14 := u14.2.1; let L14 := u14.2.2; some ((), I14, L14))) else ((FO_M_treadNow fu (iR p0 (I11 332 0)) 0 ((1 : Int32) + (iR p0 3)) I11 L11).bind (fun u13 => let r13 := u13.1; let I13 := u13.2.1; let L13 := u13.2.2; some ((), I13, L13)))) else none)))) else none)) else (if iR p0 6 = 2 then (some ((), sI I 332 10 ((I 332 10) ||| ((1 : Int32) <<< (((1 : Int32) + (iR (p0 / 6) 12)) &&& 31))), L)) else (if iR p0 6 = 3 then (some ((), sI I 332 10 ((I 332 10) &&& (((1 : Int32) <<< (((1 : Int32) + (iR (p0 / 6) 12)) &&& 31)) ^^^ (-1))), L)) else (if 9999 ≤ I 332 7 then (some ((), I, L)) else ((FO_M_pass fu  I L).bind (fun u19 => let r19 := u19.1; let I19 := u19.2.1; let L19 := u19.2.2; some ((), I19, L19)))))))
set_option maxHeartbeats 20000000 in
theorem eo_M_happens {d fu : Nat} {p0 : Int32} {I : Nat → Nat → Int32} {L : Nat → Nat → Int64} {X : Nat × (Nat → Int32)} {Q : PQ} {res : Unit × (Nat → Nat → Int32) × (Nat → Nat → Int64)} (g : Q none (HS res.2.1 res.2.2 X)) (q : FO_M_happens fu p0 I L = some res) : Ev (d + 12) m_M_happens [.ref 331, .int p0] (HS I L X) Q := by
  unfold FO_M_happens at q
  refine ev_start (d := d + 11) rfl rfl rfl (Nat.le_of_ble_eq_true rfl) ?_
  show Wp (Ev (d + 11)) cd_M_happens (0, 0) none _ _ Q 0 [(0, .ref 331), (1, .int p0)] [] (HS I L X)
  refine w_iconst (Ev.cm _) rfl ?_
  refine w_iload_n (Ev.cm _) rfl rfl ?_
  refine w_bipush (Ev.cm _) rfl ?_
  refine w_idiv (Ev.cm _) rfl (by decide) ?_
  refine w_bipush (Ev.cm _) rfl ?_
  refine w_irem (Ev.cm _) rfl (by decide) ?_
  refine w_iadd (Ev.cm _) rfl ?_
  refine w_istore_n (ls2 := [(0, .ref 331), (1, .int p0), (2, .int ((1 : Int32) + (iR (p0 / 6) 12)))]) (Ev.cm _) rfl rfl ?_
  refine w_iload_n (Ev.cm _) rfl rfl ?_
  refine w_bipush (Ev.cm _) rfl ?_
  refine w_irem (Ev.cm _) rfl (by decide) ?_
  refine w_tswL (Ev.cm _) [(0, 30), (1, 30), (2, 104), (3, 120)] rfl (by decide) (by decide) ?_
  refine ⟨fun c1 => ?_, fun c1_0 => ⟨fun c1 => ?_, fun c1_1 => ⟨fun c1 => ?_, fun c1_2 => ⟨fun c1 => ?_, fun c1_3 => ?_⟩⟩⟩⟩
  · have c1 : iR p0 6 = 0 := sw_v c1 (by decide)
    rw [if_pos c1] at q
    show Wp _ _ _ _ _ _ _ 44 [(0, .ref 331), (1, .int p0), (2, .int ((1 : Int32) + (iR (p0 / 6) 12)))] [] (HS I L X)
    refine w_aload_n (Ev.cm _) rfl rfl ?_
    refine w_getR (q := 332) (Ev.cm _) rfl (Nat.le_of_ble_eq_true rfl) rfl rfl ?_
    refine w_iconst (Ev.cm _) rfl ?_
    refine w_iald (Ev.cm _) rfl (Nat.le_of_ble_eq_true rfl) rfl (show vp_in 0 1541 from vpI 1541 (by decide) (by decide) (by decide)) ?_
    refine w_if_le (Ev.cm _) rfl (fun c2 => ?_) (fun c2 => ?_)
    · have c2 : I 332 0 ≤ 0 := c2
      rw [if_pos c2] at q
      refine w_return (Ev.cm _) rfl rfl rf0 ?_
      cases q
      exact g
    · have c2 : ¬ (I 332 0 ≤ 0) := c2
      rw [if_neg c2] at q
      refine w_aload_n (Ev.cm _) rfl rfl ?_
      refine w_iload_n (Ev.cm _) rfl rfl ?_
      refine w_aload_n (Ev.cm _) rfl rfl ?_
      refine w_getR (q := 332) (Ev.cm _) rfl (Nat.le_of_ble_eq_true rfl) rfl rfl ?_
      refine w_iconst (Ev.cm _) rfl ?_
      refine w_iald (Ev.cm _) rfl (Nat.le_of_ble_eq_true rfl) rfl (show vp_in 0 1541 from vpI 1541 (by decide) (by decide) (by decide)) ?_
      obtain ⟨b1, q⟩ := ois q
      refine w_irem (Ev.cm _) rfl b1 ?_
      refine w_iload_n (Ev.cm _) rfl rfl ?_
      refine w_bipush (Ev.cm _) rfl ?_
      refine w_irem (Ev.cm _) rfl (by decide) ?_
      refine w_if_ne (Ev.cm _) rfl (fun c3 => ?_) (fun c3 => ?_)
      · have c3 : ¬ (iR p0 6 = 0) := c3
        rw [if_neg c3] at q
        refine w_iconst (Ev.cm _) rfl ?_
        refine w_iconst (Ev.cm _) rfl ?_
        refine w_iload_n (Ev.cm _) rfl rfl ?_
        refine w_iconst (Ev.cm _) rfl ?_
        refine w_irem (Ev.cm _) rfl (by decide) ?_
        refine w_iadd (Ev.cm _) rfl ?_
        obtain ⟨⟨r2, I2, L2⟩, e2, q⟩ := obs q
        dsimp only at q
        refine w_cvirt (o := 331) (as := [.int (iR p0 (I 332 0)), .int 0, .int ((1 : Int32) + (iR p0 3))]) (st := []) (Ev.cm _) rfl rfl rfl (Nat.le_of_ble_eq_true rfl) (Nat.le_of_ble_eq_true rfl) rfl (Nat.le_of_ble_eq_true rfl) (eo_M_canTread (g := ?_) e2)
        show Wp _ _ _ _ _ _ _ 82 [(0, .ref 331), (1, .int p0), (2, .int ((1 : Int32) + (iR (p0 / 6) 12)))] [.int r2] (HS I2 L2 X)
        refine w_if_eq (Ev.cm _) rfl (fun c4 => ?_) (fun c4 => ?_)
        · have c4 : r2 = 0 := c4
          rw [if_pos c4] at q
          refine w_return (Ev.cm _) rfl rfl rf0 ?_
          cases q
          exact g
        · have c4 : ¬ (r2 = 0) := c4
          rw [if_neg c4] at q
          refine w_aload_n (Ev.cm _) rfl rfl ?_
          refine w_iload_n (Ev.cm _) rfl rfl ?_
          refine w_aload_n (Ev.cm _) rfl rfl ?_
          refine w_getR (q := 332) (Ev.cm _) rfl (Nat.le_of_ble_eq_true rfl) rfl rfl ?_
          refine w_iconst (Ev.cm _) rfl ?_
          refine w_iald (Ev.cm _) rfl (Nat.le_of_ble_eq_true rfl) rfl (show vp_in 0 1541 from vpI 1541 (by decide) (by decide) (by decide)) ?_
          obtain ⟨b3, q⟩ := ois q
          refine w_irem (Ev.cm _) rfl b3 ?_
          refine w_iload_n (Ev.cm _) rfl rfl ?_
          refine w_bipush (Ev.cm _) rfl ?_
          refine w_irem (Ev.cm _) rfl (by decide) ?_
          refine w_if_ne (Ev.cm _) rfl (fun c5 => ?_) (fun c5 => ?_)
          · have c5 : ¬ (iR p0 6 = 0) := c5
            rw [if_neg c5] at q
            refine w_iconst (Ev.cm _) rfl ?_
            refine w_iconst (Ev.cm _) rfl ?_
            refine w_iload_n (Ev.cm _) rfl rfl ?_
            refine w_iconst (Ev.cm _) rfl ?_
            refine w_irem (Ev.cm _) rfl (by decide) ?_
            refine w_iadd (Ev.cm _) rfl ?_
            obtain ⟨⟨r4, I4, L4⟩, e4, q⟩ := obs q
            dsimp only at q
            refine w_cvirt (o := 331) (as := [.int (iR p0 (I2 332 0)), .int 0, .int ((1 : Int32) + (iR p0 3))]) (st := []) (Ev.cm _) rfl rfl rfl (Nat.le_of_ble_eq_true rfl) (Nat.le_of_ble_eq_true rfl) rfl (Nat.le_of_ble_eq_true rfl) (eo_M_treadNow (g := ?_) e4)
            show Wp _ _ _ _ _ _ _ 114 [(0, .ref 331), (1, .int p0), (2, .int ((1 : Int32) + (iR (p0 / 6) 12)))] [.int r4] (HS I4 L4 X)
            refine w_pop (Ev.cm _) rfl rfl ?_
            refine w_goto (Ev.cm _) rfl ?_
            refine w_return (Ev.cm _) rfl rfl rf0 ?_
            cases q
            exact g
          · have c5 : iR p0 6 = 0 := c5
            rw [if_pos c5] at q
            refine w_iconst (Ev.cm _) rfl ?_
            refine w_goto (Ev.cm _) rfl ?_
            refine w_iconst (Ev.cm _) rfl ?_
            refine w_iload_n (Ev.cm _) rfl rfl ?_
            refine w_iconst (Ev.cm _) rfl ?_
            refine w_irem (Ev.cm _) rfl (by decide) ?_
            refine w_iadd (Ev.cm _) rfl ?_
            obtain ⟨⟨r5, I5, L5⟩, e5, q⟩ := obs q
            dsimp only at q
            refine w_cvirt (o := 331) (as := [.int (iR p0 (I2 332 0)), .int 1, .int ((1 : Int32) + (iR p0 3))]) (st := []) (Ev.cm _) rfl rfl rfl (Nat.le_of_ble_eq_true rfl) (Nat.le_of_ble_eq_true rfl) rfl (Nat.le_of_ble_eq_true rfl) (eo_M_treadNow (g := ?_) e5)
            show Wp _ _ _ _ _ _ _ 114 [(0, .ref 331), (1, .int p0), (2, .int ((1 : Int32) + (iR (p0 / 6) 12)))] [.int r5] (HS I5 L5 X)
            refine w_pop (Ev.cm _) rfl rfl ?_
            refine w_goto (Ev.cm _) rfl ?_
            refine w_return (Ev.cm _) rfl rfl rf0 ?_
            cases q
            exact g
      · have c3 : iR p0 6 = 0 := c3
        rw [if_pos c3] at q
        refine w_iconst (Ev.cm _) rfl ?_
        refine w_goto (Ev.cm _) rfl ?_
        refine w_iconst (Ev.cm _) rfl ?_
        refine w_iload_n (Ev.cm _) rfl rfl ?_
        refine w_iconst (Ev.cm _) rfl ?_
        refine w_irem (Ev.cm _) rfl (by decide) ?_
        refine w_iadd (Ev.cm _) rfl ?_
        obtain ⟨⟨r6, I6, L6⟩, e6, q⟩ := obs q
        dsimp only at q
        refine w_cvirt (o := 331) (as := [.int (iR p0 (I 332 0)), .int 1, .int ((1 : Int32) + (iR p0 3))]) (st := []) (Ev.cm _) rfl rfl rfl (Nat.le_of_ble_eq_true rfl) (Nat.le_of_ble_eq_true rfl) rfl (Nat.le_of_ble_eq_true rfl) (eo_M_canTread (g := ?_) e6)
        show Wp _ _ _ _ _ _ _ 82 [(0, .ref 331), (1, .int p0), (2, .int ((1 : Int32) + (iR (p0 / 6) 12)))] [.int r6] (HS I6 L6 X)
        refine w_if_eq (Ev.cm _) rfl (fun c6 => ?_) (fun c6 => ?_)
        · have c6 : r6 = 0 := c6
          rw [if_pos c6] at q
          refine w_return (Ev.cm _) rfl rfl rf0 ?_
          cases q
          exact g
        · have c6 : ¬ (r6 = 0) := c6
          rw [if_neg c6] at q
          refine w_aload_n (Ev.cm _) rfl rfl ?_
          refine w_iload_n (Ev.cm _) rfl rfl ?_
          refine w_aload_n (Ev.cm _) rfl rfl ?_
          refine w_getR (q := 332) (Ev.cm _) rfl (Nat.le_of_ble_eq_true rfl) rfl rfl ?_
          refine w_iconst (Ev.cm _) rfl ?_
          refine w_iald (Ev.cm _) rfl (Nat.le_of_ble_eq_true rfl) rfl (show vp_in 0 1541 from vpI 1541 (by decide) (by decide) (by decide)) ?_
          obtain ⟨b7, q⟩ := ois q
          refine w_irem (Ev.cm _) rfl b7 ?_
          refine w_iload_n (Ev.cm _) rfl rfl ?_
          refine w_bipush (Ev.cm _) rfl ?_
          refine w_irem (Ev.cm _) rfl (by decide) ?_
          refine w_if_ne (Ev.cm _) rfl (fun c7 => ?_) (fun c7 => ?_)
          · have c7 : ¬ (iR p0 6 = 0) := c7
            rw [if_neg c7] at q
            refine w_iconst (Ev.cm _) rfl ?_
            refine w_iconst (Ev.cm _) rfl ?_
            refine w_iload_n (Ev.cm _) rfl rfl ?_
            refine w_iconst (Ev.cm _) rfl ?_
            refine w_irem (Ev.cm _) rfl (by decide) ?_
            refine w_iadd (Ev.cm _) rfl ?_
            obtain ⟨⟨r8, I8, L8⟩, e8, q⟩ := obs q
            dsimp only at q
            refine w_cvirt (o := 331) (as := [.int (iR p0 (I6 332 0)), .int 0, .int ((1 : Int32) + (iR p0 3))]) (st := []) (Ev.cm _) rfl rfl rfl (Nat.le_of_ble_eq_true rfl) (Nat.le_of_ble_eq_true rfl) rfl (Nat.le_of_ble_eq_true rfl) (eo_M_treadNow (g := ?_) e8)
            show Wp _ _ _ _ _ _ _ 114 [(0, .ref 331), (1, .int p0), (2, .int ((1 : Int32) + (iR (p0 / 6) 12)))] [.int r8] (HS I8 L8 X)
            refine w_pop (Ev.cm _) rfl rfl ?_
            refine w_goto (Ev.cm _) rfl ?_
            refine w_return (Ev.cm _) rfl rfl rf0 ?_
            cases q
            exact g
          · have c7 : iR p0 6 = 0 := c7
            rw [if_pos c7] at q
            refine w_iconst (Ev.cm _) rfl ?_
            refine w_goto (Ev.cm _) rfl ?_
            refine w_iconst (Ev.cm _) rfl ?_
            refine w_iload_n (Ev.cm _) rfl rfl ?_
            refine w_iconst (Ev.cm _) rfl ?_
            refine w_irem (Ev.cm _) rfl (by decide) ?_
            refine w_iadd (Ev.cm _) rfl ?_
            obtain ⟨⟨r9, I9, L9⟩, e9, q⟩ := obs q
            dsimp only at q
            refine w_cvirt (o := 331) (as := [.int (iR p0 (I6 332 0)), .int 1, .int ((1 : Int32) + (iR p0 3))]) (st := []) (Ev.cm _) rfl rfl rfl (Nat.le_of_ble_eq_true rfl) (Nat.le_of_ble_eq_true rfl) rfl (Nat.le_of_ble_eq_true rfl) (eo_M_treadNow (g := ?_) e9)
            show Wp _ _ _ _ _ _ _ 114 [(0, .ref 331), (1, .int p0), (2, .int ((1 : Int32) + (iR (p0 / 6) 12)))] [.int r9] (HS I9 L9 X)
            refine w_pop (Ev.cm _) rfl rfl ?_
            refine w_goto (Ev.cm _) rfl ?_
            refine w_return (Ev.cm _) rfl rfl rf0 ?_
            cases q
            exact g
  · have c1_0 : ¬ iR p0 6 = 0 := sw_w c1_0 (by decide)
    have c1 : iR p0 6 = 1 := sw_v c1 (by decide)
    rw [if_neg c1_0, if_pos c1] at q
    show Wp _ _ _ _ _ _ _ 44 [(0, .ref 331), (1, .int p0), (2, .int ((1 : Int32) + (iR (p0 / 6) 12)))] [] (HS I L X)
    refine w_aload_n (Ev.cm _) rfl rfl ?_
    refine w_getR (q := 332) (Ev.cm _) rfl (Nat.le_of_ble_eq_true rfl) rfl rfl ?_
    refine w_iconst (Ev.cm _) rfl ?_
    refine w_iald (Ev.cm _) rfl (Nat.le_of_ble_eq_true rfl) rfl (show vp_in 0 1541 from vpI 1541 (by decide) (by decide) (by decide)) ?_
    refine w_if_le (Ev.cm _) rfl (fun c8 => ?_) (fun c8 => ?_)
    · have c8 : I 332 0 ≤ 0 := c8
      rw [if_pos c8] at q
      refine w_return (Ev.cm _) rfl rfl rf0 ?_
      cases q
      exact g
    · have c8 : ¬ (I 332 0 ≤ 0) := c8
      rw [if_neg c8] at q
      refine w_aload_n (Ev.cm _) rfl rfl ?_
      refine w_iload_n (Ev.cm _) rfl rfl ?_
      refine w_aload_n (Ev.cm _) rfl rfl ?_
      refine w_getR (q := 332) (Ev.cm _) rfl (Nat.le_of_ble_eq_true rfl) rfl rfl ?_
      refine w_iconst (Ev.cm _) rfl ?_
      refine w_iald (Ev.cm _) rfl (Nat.le_of_ble_eq_true rfl) rfl (show vp_in 0 1541 from vpI 1541 (by decide) (by decide) (by decide)) ?_
      obtain ⟨b10, q⟩ := ois q
      refine w_irem (Ev.cm _) rfl b10 ?_
      refine w_iload_n (Ev.cm _) rfl rfl ?_
      refine w_bipush (Ev.cm _) rfl ?_
      refine w_irem (Ev.cm _) rfl (by decide) ?_
      refine w_if_ne (Ev.cm _) rfl (fun c9 => ?_) (fun c9 => ?_)
      · have c9 : ¬ (iR p0 6 = 0) := c9
        rw [if_neg c9] at q
        refine w_iconst (Ev.cm _) rfl ?_
        refine w_iconst (Ev.cm _) rfl ?_
        refine w_iload_n (Ev.cm _) rfl rfl ?_
        refine w_iconst (Ev.cm _) rfl ?_
        refine w_irem (Ev.cm _) rfl (by decide) ?_
        refine w_iadd (Ev.cm _) rfl ?_
        obtain ⟨⟨r11, I11, L11⟩, e11, q⟩ := obs q
        dsimp only at q
        refine w_cvirt (o := 331) (as := [.int (iR p0 (I 332 0)), .int 0, .int ((1 : Int32) + (iR p0 3))]) (st := []) (Ev.cm _) rfl rfl rfl (Nat.le_of_ble_eq_true rfl) (Nat.le_of_ble_eq_true rfl) rfl (Nat.le_of_ble_eq_true rfl) (eo_M_canTread (g := ?_) e11)
        show Wp _ _ _ _ _ _ _ 82 [(0, .ref 331), (1, .int p0), (2, .int ((1 : Int32) + (iR (p0 / 6) 12)))] [.int r11] (HS I11 L11 X)
        refine w_if_eq (Ev.cm _) rfl (fun c10 => ?_) (fun c10 => ?_)
        · have c10 : r11 = 0 := c10
          rw [if_pos c10] at q
          refine w_return (Ev.cm _) rfl rfl rf0 ?_
          cases q
          exact g
        · have c10 : ¬ (r11 = 0) := c10
          rw [if_neg c10] at q
          refine w_aload_n (Ev.cm _) rfl rfl ?_
          refine w_iload_n (Ev.cm _) rfl rfl ?_
          refine w_aload_n (Ev.cm _) rfl rfl ?_
          refine w_getR (q := 332) (Ev.cm _) rfl (Nat.le_of_ble_eq_true rfl) rfl rfl ?_
          refine w_iconst (Ev.cm _) rfl ?_
          refine w_iald (Ev.cm _) rfl (Nat.le_of_ble_eq_true rfl) rfl (show vp_in 0 1541 from vpI 1541 (by decide) (by decide) (by decide)) ?_
          obtain ⟨b12, q⟩ := ois q
          refine w_irem (Ev.cm _) rfl b12 ?_
          refine w_iload_n (Ev.cm _) rfl rfl ?_
          refine w_bipush (Ev.cm _) rfl ?_
          refine w_irem (Ev.cm _) rfl (by decide) ?_
          refine w_if_ne (Ev.cm _) rfl (fun c11 => ?_) (fun c11 => ?_)
          · have c11 : ¬ (iR p0 6 = 0) := c11
            rw [if_neg c11] at q
            refine w_iconst (Ev.cm _) rfl ?_
            refine w_iconst (Ev.cm _) rfl ?_
            refine w_iload_n (Ev.cm _) rfl rfl ?_
            refine w_iconst (Ev.cm _) rfl ?_
            refine w_irem (Ev.cm _) rfl (by decide) ?_
            refine w_iadd (Ev.cm _) rfl ?_
            obtain ⟨⟨r13, I13, L13⟩, e13, q⟩ := obs q
            dsimp only at q
            refine w_cvirt (o := 331) (as := [.int (iR p0 (I11 332 0)), .int 0, .int ((1 : Int32) + (iR p0 3))]) (st := []) (Ev.cm _) rfl rfl rfl (Nat.le_of_ble_eq_true rfl) (Nat.le_of_ble_eq_true rfl) rfl (Nat.le_of_ble_eq_true rfl) (eo_M_treadNow (g := ?_) e13)
            show Wp _ _ _ _ _ _ _ 114 [(0, .ref 331), (1, .int p0), (2, .int ((1 : Int32) + (iR (p0 / 6) 12)))] [.int r13] (HS I13 L13 X)
            refine w_pop (Ev.cm _) rfl rfl ?_
            refine w_goto (Ev.cm _) rfl ?_
            refine w_return (Ev.cm _) rfl rfl rf0 ?_
            cases q
            exact g
          · have c11 : iR p0 6 = 0 := c11
            rw [if_pos c11] at q
            refine w_iconst (Ev.cm _) rfl ?_
            refine w_goto (Ev.cm _) rfl ?_
            refine w_iconst (Ev.cm _) rfl ?_
            refine w_iload_n (Ev.cm _) rfl rfl ?_
            refine w_iconst (Ev.cm _) rfl ?_
            refine w_irem (Ev.cm _) rfl (by decide) ?_
            refine w_iadd (Ev.cm _) rfl ?_
            obtain ⟨⟨r14, I14, L14⟩, e14, q⟩ := obs q
            dsimp only at q
            refine w_cvirt (o := 331) (as := [.int (iR p0 (I11 332 0)), .int 1, .int ((1 : Int32) + (iR p0 3))]) (st := []) (Ev.cm _) rfl rfl rfl (Nat.le_of_ble_eq_true rfl) (Nat.le_of_ble_eq_true rfl) rfl (Nat.le_of_ble_eq_true rfl) (eo_M_treadNow (g := ?_) e14)
            show Wp _ _ _ _ _ _ _ 114 [(0, .ref 331), (1, .int p0), (2, .int ((1 : Int32) + (iR (p0 / 6) 12)))] [.int r14] (HS I14 L14 X)
            refine w_pop (Ev.cm _) rfl rfl ?_
            refine w_goto (Ev.cm _) rfl ?_
            refine w_return (Ev.cm _) rfl rfl rf0 ?_
            cases q
            exact g
      · have c9 : iR p0 6 = 0 := c9
        rw [if_pos c9] at q
        refine w_iconst (Ev.cm _) rfl ?_
        refine w_goto (Ev.cm _) rfl ?_
        refine w_iconst (Ev.cm _) rfl ?_
        refine w_iload_n (Ev.cm _) rfl rfl ?_
        refine w_iconst (Ev.cm _) rfl ?_
        refine w_irem (Ev.cm _) rfl (by decide) ?_
        refine w_iadd (Ev.cm _) rfl ?_
        obtain ⟨⟨r15, I15, L15⟩, e15, q⟩ := obs q
        dsimp only at q
        refine w_cvirt (o := 331) (as := [.int (iR p0 (I 332 0)), .int 1, .int ((1 : Int32) + (iR p0 3))]) (st := []) (Ev.cm _) rfl rfl rfl (Nat.le_of_ble_eq_true rfl) (Nat.le_of_ble_eq_true rfl) rfl (Nat.le_of_ble_eq_true rfl) (eo_M_canTread (g := ?_) e15)
        show Wp _ _ _ _ _ _ _ 82 [(0, .ref 331), (1, .int p0), (2, .int ((1 : Int32) + (iR (p0 / 6) 12)))] [.int r15] (HS I15 L15 X)
        refine w_if_eq (Ev.cm _) rfl (fun c12 => ?_) (fun c12 => ?_)
        · have c12 : r15 = 0 := c12
          rw [if_pos c12] at q
          refine w_return (Ev.cm _) rfl rfl rf0 ?_
          cases q
          exact g
        · have c12 : ¬ (r15 = 0) := c12
          rw [if_neg c12] at q
          refine w_aload_n (Ev.cm _) rfl rfl ?_
          refine w_iload_n (Ev.cm _) rfl rfl ?_
          refine w_aload_n (Ev.cm _) rfl rfl ?_
          refine w_getR (q := 332) (Ev.cm _) rfl (Nat.le_of_ble_eq_true rfl) rfl rfl ?_
          refine w_iconst (Ev.cm _) rfl ?_
          refine w_iald (Ev.cm _) rfl (Nat.le_of_ble_eq_true rfl) rfl (show vp_in 0 1541 from vpI 1541 (by decide) (by decide) (by decide)) ?_
          obtain ⟨b16, q⟩ := ois q
          refine w_irem (Ev.cm _) rfl b16 ?_
          refine w_iload_n (Ev.cm _) rfl rfl ?_
          refine w_bipush (Ev.cm _) rfl ?_
          refine w_irem (Ev.cm _) rfl (by decide) ?_
          refine w_if_ne (Ev.cm _) rfl (fun c13 => ?_) (fun c13 => ?_)
          · have c13 : ¬ (iR p0 6 = 0) := c13
            rw [if_neg c13] at q
            refine w_iconst (Ev.cm _) rfl ?_
            refine w_iconst (Ev.cm _) rfl ?_
            refine w_iload_n (Ev.cm _) rfl rfl ?_
            refine w_iconst (Ev.cm _) rfl ?_
            refine w_irem (Ev.cm _) rfl (by decide) ?_
            refine w_iadd (Ev.cm _) rfl ?_
            obtain ⟨⟨r17, I17, L17⟩, e17, q⟩ := obs q
            dsimp only at q
            refine w_cvirt (o := 331) (as := [.int (iR p0 (I15 332 0)), .int 0, .int ((1 : Int32) + (iR p0 3))]) (st := []) (Ev.cm _) rfl rfl rfl (Nat.le_of_ble_eq_true rfl) (Nat.le_of_ble_eq_true rfl) rfl (Nat.le_of_ble_eq_true rfl) (eo_M_treadNow (g := ?_) e17)
            show Wp _ _ _ _ _ _ _ 114 [(0, .ref 331), (1, .int p0), (2, .int ((1 : Int32) + (iR (p0 / 6) 12)))] [.int r17] (HS I17 L17 X)
            refine w_pop (Ev.cm _) rfl rfl ?_
            refine w_goto (Ev.cm _) rfl ?_
            refine w_return (Ev.cm _) rfl rfl rf0 ?_
            cases q
            exact g
          · have c13 : iR p0 6 = 0 := c13
            rw [if_pos c13] at q
            refine w_iconst (Ev.cm _) rfl ?_
            refine w_goto (Ev.cm _) rfl ?_
            refine w_iconst (Ev.cm _) rfl ?_
            refine w_iload_n (Ev.cm _) rfl rfl ?_
            refine w_iconst (Ev.cm _) rfl ?_
            refine w_irem (Ev.cm _) rfl (by decide) ?_
            refine w_iadd (Ev.cm _) rfl ?_
            obtain ⟨⟨r18, I18, L18⟩, e18, q⟩ := obs q
            dsimp only at q
            refine w_cvirt (o := 331) (as := [.int (iR p0 (I15 332 0)), .int 1, .int ((1 : Int32) + (iR p0 3))]) (st := []) (Ev.cm _) rfl rfl rfl (Nat.le_of_ble_eq_true rfl) (Nat.le_of_ble_eq_true rfl) rfl (Nat.le_of_ble_eq_true rfl) (eo_M_treadNow (g := ?_) e18)
            show Wp _ _ _ _ _ _ _ 114 [(0, .ref 331), (1, .int p0), (2, .int ((1 : Int32) + (iR (p0 / 6) 12)))] [.int r18] (HS I18 L18 X)
            refine w_pop (Ev.cm _) rfl rfl ?_
            refine w_goto (Ev.cm _) rfl ?_
            refine w_return (Ev.cm _) rfl rfl rf0 ?_
            cases q
            exact g
  · have c1_0 : ¬ iR p0 6 = 0 := sw_w c1_0 (by decide)
    have c1_1 : ¬ iR p0 6 = 1 := sw_w c1_1 (by decide)
    have c1 : iR p0 6 = 2 := sw_v c1 (by decide)
    rw [if_neg c1_0, if_neg c1_1, if_pos c1] at q
    show Wp _ _ _ _ _ _ _ 118 [(0, .ref 331), (1, .int p0), (2, .int ((1 : Int32) + (iR (p0 / 6) 12)))] [] (HS I L X)
    refine w_aload_n (Ev.cm _) rfl rfl ?_
    refine w_getR (q := 332) (Ev.cm _) rfl (Nat.le_of_ble_eq_true rfl) rfl rfl ?_
    refine w_bipush (Ev.cm _) rfl ?_
    refine w_dup2 (Ev.cm _) rfl rfl rfl ?_
    refine w_iald (Ev.cm _) rfl (Nat.le_of_ble_eq_true rfl) rfl (show vp_in 10 1541 from vpI 1541 (by decide) (by decide) (by decide)) ?_
    refine w_iconst (Ev.cm _) rfl ?_
    refine w_iload_n (Ev.cm _) rfl rfl ?_
    refine w_ishl (Ev.cm _) rfl ?_
    refine w_ior (Ev.cm _) rfl ?_
    refine w_iast (Ev.cm _) rfl (Nat.le_of_ble_eq_true rfl) rfl (show vp_in 10 1541 from vpI 1541 (by decide) (by decide) (by decide)) ?_
    refine w_goto (Ev.cm _) rfl ?_
    refine w_return (Ev.cm _) rfl rfl rf0 ?_
    cases q
    exact g
  · have c1_0 : ¬ iR p0 6 = 0 := sw_w c1_0 (by decide)
    have c1_1 : ¬ iR p0 6 = 1 := sw_w c1_1 (by decide)
    have c1_2 : ¬ iR p0 6 = 2 := sw_w c1_2 (by decide)
    have c1 : iR p0 6 = 3 := sw_v c1 (by decide)
    rw [if_neg c1_0, if_neg c1_1, if_neg c1_2, if_pos c1] at q
    show Wp _ _ _ _ _ _ _ 134 [(0, .ref 331), (1, .int p0), (2, .int ((1 : Int32) + (iR (p0 / 6) 12)))] [] (HS I L X)
    refine w_aload_n (Ev.cm _) rfl rfl ?_
    refine w_getR (q := 332) (Ev.cm _) rfl (Nat.le_of_ble_eq_true rfl) rfl rfl ?_
    refine w_bipush (Ev.cm _) rfl ?_
    refine w_dup2 (Ev.cm _) rfl rfl rfl ?_
    refine w_iald (Ev.cm _) rfl (Nat.le_of_ble_eq_true rfl) rfl (show vp_in 10 1541 from vpI 1541 (by decide) (by decide) (by decide)) ?_
    refine w_iconst (Ev.cm _) rfl ?_
    refine w_iload_n (Ev.cm _) rfl rfl ?_
    refine w_ishl (Ev.cm _) rfl ?_
    refine w_iconst (Ev.cm _) rfl ?_
    refine w_ixor (Ev.cm _) rfl ?_
    refine w_iand (Ev.cm _) rfl ?_
    refine w_iast (Ev.cm _) rfl (Nat.le_of_ble_eq_true rfl) rfl (show vp_in 10 1541 from vpI 1541 (by decide) (by decide) (by decide)) ?_
    refine w_goto (Ev.cm _) rfl ?_
    refine w_return (Ev.cm _) rfl rfl rf0 ?_
    cases q
    exact g
  · have c1_0 : ¬ iR p0 6 = 0 := sw_w c1_0 (by decide)
    have c1_1 : ¬ iR p0 6 = 1 := sw_w c1_1 (by decide)
    have c1_2 : ¬ iR p0 6 = 2 := sw_w c1_2 (by decide)
    have c1_3 : ¬ iR p0 6 = 3 := sw_w c1_3 (by decide)
    rw [if_neg c1_0, if_neg c1_1, if_neg c1_2, if_neg c1_3] at q
    show Wp _ _ _ _ _ _ _ 152 [(0, .ref 331), (1, .int p0), (2, .int ((1 : Int32) + (iR (p0 / 6) 12)))] [] (HS I L X)
    refine w_aload_n (Ev.cm _) rfl rfl ?_
    refine w_getR (q := 332) (Ev.cm _) rfl (Nat.le_of_ble_eq_true rfl) rfl rfl ?_
    refine w_bipush (Ev.cm _) rfl ?_
    refine w_iald (Ev.cm _) rfl (Nat.le_of_ble_eq_true rfl) rfl (show vp_in 7 1541 from vpI 1541 (by decide) (by decide) (by decide)) ?_
    refine w_sipush (Ev.cm _) rfl ?_
    refine w_icmp_ge (Ev.cm _) rfl (fun c14 => ?_) (fun c14 => ?_)
    · have c14 : 9999 ≤ I 332 7 := c14
      rw [if_pos c14] at q
      refine w_return (Ev.cm _) rfl rfl rf0 ?_
      cases q
      exact g
    · have c14 : ¬ (9999 ≤ I 332 7) := c14
      rw [if_neg c14] at q
      refine w_aload_n (Ev.cm _) rfl rfl ?_
      obtain ⟨⟨r19, I19, L19⟩, e19, q⟩ := obs q
      dsimp only at q
      refine w_cvirt (o := 331) (as := []) (st := []) (Ev.cm _) rfl rfl rfl (Nat.le_of_ble_eq_true rfl) (Nat.le_of_ble_eq_true rfl) rfl (Nat.le_of_ble_eq_true rfl) (eo_M_pass (g := ?_) e19)
      show Wp _ _ _ _ _ _ _ 169 [(0, .ref 331), (1, .int p0), (2, .int ((1 : Int32) + (iR (p0 / 6) 12)))] [] (HS I19 L19 X)
      refine w_return (Ev.cm _) rfl rfl rf0 ?_
      cases q
      exact g
def LO_M_nights_43 (fu : Nat) : Nat → Int32 → Int32 → Int32 → (Nat → Nat → Int32) → (Nat → Nat → Int64) → Option (Int32 × (Nat → Nat → Int32) × (Nat → Nat → Int64))
  | 0, _, _, _, _, _ => none
  | n + 1, x1, x2, x3, I, L => if x2 ≤ x3 then (some (I 332 7, I, L)) else ((FO_M_anew fu  I L).bind (fun u1 => let r1 := u1.1; let I1 := u1.2.1; let L1 := u1.2.2; (FO_M_happens fu (I 332 8) I1 L1).bind (fun u2 => let r2 := u2.1; let I2 := u2.2.1; let L2 := u2.2.2; LO_M_nights_43 fu n x1 x2 (x3 + 1) I2 L2)))
set_option maxHeartbeats 20000000 in
theorem lo_M_nights_43 {d fu n0 s0 : Nat} {X : Nat × (Nat → Int32)} {Q : PQ} {res : Int32 × (Nat → Nat → Int32) × (Nat → Nat → Int64)} (g : Q (some (.int res.1)) (HS res.2.1 res.2.2 X)) : ∀ (n : Nat) (x1 : Int32) (x2 : Int32) (x3 : Int32) (I : Nat → Nat → Int32) (L : Nat → Nat → Int64), LO_M_nights_43 fu n x1 x2 x3 I L = some res → Wp (Ev (d + 12)) cd_M_nights (0, 0) (some .int) n0 s0 Q 43 [(0, .ref 331), (1, .int x1), (2, .int x2), (3, .int x3)] [] (HS I L X) := by
  intro n
  induction n with
  | zero => intro _ _ _ _ _ q; cases q
  | succ n ih =>
    intro x1 x2 x3 I L q
    unfold LO_M_nights_43 at q
    refine w_iload_n (Ev.cm _) rfl rfl ?_
    refine w_iload_n (Ev.cm _) rfl rfl ?_
    refine w_icmp_ge (Ev.cm _) rfl (fun c1 => ?_) (fun c1 => ?_)
    · have c1 : x2 ≤ x3 := c1
      rw [if_pos c1] at q
      refine w_aload_n (Ev.cm _) rfl rfl ?_
      refine w_getR (q := 332) (Ev.cm _) rfl (Nat.le_of_ble_eq_true rfl) rfl rfl ?_
      refine w_bipush (Ev.cm _) rfl ?_
      refine w_iald (Ev.cm _) rfl (Nat.le_of_ble_eq_true rfl) rfl (show vp_in 7 1541 from vpI 1541 (by decide) (by decide) (by decide)) ?_
      refine w_ireturn (Ev.cm _) rfl trivial rf0 ?_
      cases q
      exact g
    · have c1 : ¬ (x2 ≤ x3) := c1
      rw [if_neg c1] at q
      refine w_aload_n (Ev.cm _) rfl rfl ?_
      refine w_getR (q := 332) (Ev.cm _) rfl (Nat.le_of_ble_eq_true rfl) rfl rfl ?_
      refine w_bipush (Ev.cm _) rfl ?_
      refine w_iald (Ev.cm _) rfl (Nat.le_of_ble_eq_true rfl) rfl (show vp_in 8 1541 from vpI 1541 (by decide) (by decide) (by decide)) ?_
      refine w_istore (ls2 := [(0, .ref 331), (1, .int x1), (2, .int x2), (3, .int x3), (4, .int (I 332 8))]) (Ev.cm _) rfl rfl ?_
      refine w_aload_n (Ev.cm _) rfl rfl ?_
      obtain ⟨⟨r1, I1, L1⟩, e1, q⟩ := obs q
      dsimp only at q
      refine w_cvirt (o := 331) (as := []) (st := []) (Ev.cm _) rfl rfl rfl (Nat.le_of_ble_eq_true rfl) (Nat.le_of_ble_eq_true rfl) rfl (Nat.le_of_ble_eq_true rfl) (eo_M_anew (g := ?_) e1)
      show Wp _ _ _ _ _ _ _ 61 [(0, .ref 331), (1, .int x1), (2, .int x2), (3, .int x3), (4, .int (I 332 8))] [] (HS I1 L1 X)
      refine w_aload_n (Ev.cm _) rfl rfl ?_
      refine w_iload (Ev.cm _) rfl rfl ?_
      obtain ⟨⟨r2, I2, L2⟩, e2, q⟩ := obs q
      dsimp only at q
      refine w_cvirt (o := 331) (as := [.int (I 332 8)]) (st := []) (Ev.cm _) rfl rfl rfl (Nat.le_of_ble_eq_true rfl) (Nat.le_of_ble_eq_true rfl) rfl (Nat.le_of_ble_eq_true rfl) (eo_M_happens (g := ?_) e2)
      show Wp _ _ _ _ _ _ _ 67 [(0, .ref 331), (1, .int x1), (2, .int x2), (3, .int x3), (4, .int (I 332 8))] [] (HS I2 L2 X)
      refine w_iinc (ls2 := [(0, .ref 331), (1, .int x1), (2, .int x2), (3, .int (x3 + 1)), (4, .int (I 332 8))]) (Ev.cm _) rfl rfl rfl ?_
      refine w_goto (Ev.cm _) rfl ?_
      show Wp _ _ _ _ _ _ _ 43 [(0, .ref 331), (1, .int x1), (2, .int x2), (3, .int (x3 + 1)), (4, .int (I 332 8))] [] (HS I2 L2 X)
      refine Wp.sub [0, 1, 2, 3] (ls2 := [(0, .ref 331), (1, .int x1), (2, .int x2), (3, .int (x3 + 1))]) rfl ?_
      exact ih _ _ _ _ _ q
def FO_M_nights (fu : Nat) (p0 : Int32) (p1 : Int32) (I : Nat → Nat → Int32) (L : Nat → Nat → Int64) : Option (Int32 × (Nat → Nat → Int32) × (Nat → Nat → Int64)) := if (0 : Int32) ≤ p0 ∧ p0 ≤ (9999 : Int32) then (if (1 : Int32) ≤ p1 ∧ p1 ≤ (40 : Int32) then ((FO_M_keep fu  I L).bind (fun u1 => let r1 := u1.1; let I1 := u1.2.1; let L1 := u1.2.2; LO_M_nights_43 fu fu p0 p1 0 (sI I1 332 8 ((p0 * 2) + 293)) L1)) else (some ((-1), I, L))) else (some ((-1), I, L))
set_option maxHeartbeats 20000000 in
theorem eo_M_nights {d fu : Nat} {p0 : Int32} {p1 : Int32} {I : Nat → Nat → Int32} {L : Nat → Nat → Int64} {X : Nat × (Nat → Int32)} {Q : PQ} {res : Int32 × (Nat → Nat → Int32) × (Nat → Nat → Int64)} (g : Q (some (.int res.1)) (HS res.2.1 res.2.2 X)) (q : FO_M_nights fu p0 p1 I L = some res) : Ev (d + 13) m_M_nights [.ref 331, .int p0, .int p1] (HS I L X) Q := by
  unfold FO_M_nights at q
  refine ev_start (d := d + 12) rfl rfl rfl (Nat.le_of_ble_eq_true rfl) ?_
  show Wp (Ev (d + 12)) cd_M_nights (0, 0) (some .int) _ _ Q 0 [(0, .ref 331), (1, .int p0), (2, .int p1)] [] (HS I L X)
  refine w_iload_n (Ev.cm _) rfl rfl ?_
  refine w_iconst (Ev.cm _) rfl ?_
  refine w_sipush (Ev.cm _) rfl ?_
  refine w_cstat (as := [.int p0, .int 0, .int 9999]) (st := []) (Ev.cm _) rfl rfl rfl (Nat.le_of_ble_eq_true rfl) (Nat.le_of_ble_eq_true rfl) (m_isIn ?_)
  show Wp _ _ _ _ _ _ _ 8 [(0, .ref 331), (1, .int p0), (2, .int p1)] [.int (bI ((0 : Int32) ≤ p0 ∧ p0 ≤ (9999 : Int32)))] (HS I L X)
  refine w_if_eq (Ev.cm _) rfl (fun c1 => ?_) (fun c1 => ?_)
  · have c1 : ¬ ((0 : Int32) ≤ p0 ∧ p0 ≤ (9999 : Int32)) := bI_0.mp c1
    rw [if_neg c1] at q
    refine w_iconst (Ev.cm _) rfl ?_
    refine w_ireturn (Ev.cm _) rfl trivial rf0 ?_
    cases q
    exact g
  · have c1 : (0 : Int32) ≤ p0 ∧ p0 ≤ (9999 : Int32) := bI_1.mp c1
    rw [if_pos c1] at q
    refine w_iload_n (Ev.cm _) rfl rfl ?_
    refine w_iconst (Ev.cm _) rfl ?_
    refine w_bipush (Ev.cm _) rfl ?_
    refine w_cstat (as := [.int p1, .int 1, .int 40]) (st := []) (Ev.cm _) rfl rfl rfl (Nat.le_of_ble_eq_true rfl) (Nat.le_of_ble_eq_true rfl) (m_isIn ?_)
    show Wp _ _ _ _ _ _ _ 18 [(0, .ref 331), (1, .int p0), (2, .int p1)] [.int (bI ((1 : Int32) ≤ p1 ∧ p1 ≤ (40 : Int32)))] (HS I L X)
    refine w_if_ne (Ev.cm _) rfl (fun c2 => ?_) (fun c2 => ?_)
    · have c2 : (1 : Int32) ≤ p1 ∧ p1 ≤ (40 : Int32) := bI_1.mp c2
      rw [if_pos c2] at q
      refine w_aload_n (Ev.cm _) rfl rfl ?_
      obtain ⟨⟨r1, I1, L1⟩, e1, q⟩ := obs q
      dsimp only at q
      refine w_cvirt (o := 331) (as := []) (st := []) (Ev.cm _) rfl rfl rfl (Nat.le_of_ble_eq_true rfl) (Nat.le_of_ble_eq_true rfl) rfl (Nat.le_of_ble_eq_true rfl) (eo_M_keep (g := ?_) e1)
      show Wp _ _ _ _ _ _ _ 27 [(0, .ref 331), (1, .int p0), (2, .int p1)] [] (HS I1 L1 X)
      refine w_aload_n (Ev.cm _) rfl rfl ?_
      refine w_getR (q := 332) (Ev.cm _) rfl (Nat.le_of_ble_eq_true rfl) rfl rfl ?_
      refine w_bipush (Ev.cm _) rfl ?_
      refine w_iload_n (Ev.cm _) rfl rfl ?_
      refine w_iconst (Ev.cm _) rfl ?_
      refine w_imul (Ev.cm _) rfl ?_
      refine w_sipush (Ev.cm _) rfl ?_
      refine w_iadd (Ev.cm _) rfl ?_
      refine w_iast (Ev.cm _) rfl (Nat.le_of_ble_eq_true rfl) rfl (show vp_in 8 1541 from vpI 1541 (by decide) (by decide) (by decide)) ?_
      refine w_iconst (Ev.cm _) rfl ?_
      refine w_istore_n (ls2 := [(0, .ref 331), (1, .int p0), (2, .int p1), (3, .int 0)]) (Ev.cm _) rfl rfl ?_
      show Wp _ _ _ _ _ _ _ 43 [(0, .ref 331), (1, .int p0), (2, .int p1), (3, .int 0)] [] (HS (sI I1 332 8 ((p0 * 2) + 293)) L1 X)
      refine Wp.sub [0, 1, 2, 3] (ls2 := [(0, .ref 331), (1, .int p0), (2, .int p1), (3, .int 0)]) rfl ?_
      exact lo_M_nights_43 g fu _ _ _ _ _ q
    · have c2 : ¬ ((1 : Int32) ≤ p1 ∧ p1 ≤ (40 : Int32)) := bI_0.mp c2
      rw [if_neg c2] at q
      refine w_iconst (Ev.cm _) rfl ?_
      refine w_ireturn (Ev.cm _) rfl trivial rf0 ?_
      cases q
      exact g
def LO_M_foretold_120 (fu : Nat) : Nat → Int32 → Int32 → Int32 → Int32 → Int32 → (Nat → Nat → Int32) → (Nat → Nat → Int64) → Option (Int32 × (Nat → Nat → Int32) × (Nat → Nat → Int64))
  | 0, _, _, _, _, _, _, _ => none
  | n + 1, x1, x2, x3, x4, x5, I, L => if 24 ≤ x5 then (some (x4, sI I 331 23 1, L)) else (if 0 ≤ x5 ∧ x5 < 24 then (if 0 ≤ x5 ∧ x5 < 1541 then (LO_M_foretold_120 fu n x1 x2 x3 x4 (x5 + 1) (sI I 332 x5.toNatClampNeg (I 340 x5.toNatClampNeg)) L) else none) else none)
set_option maxHeartbeats 20000000 in
theorem lo_M_foretold_120 {d fu n0 s0 : Nat} {X : Nat × (Nat → Int32)} {Q : PQ} {res : Int32 × (Nat → Nat → Int32) × (Nat → Nat → Int64)} (g : Q (some (.int res.1)) (HS res.2.1 res.2.2 X)) : ∀ (n : Nat) (x1 : Int32) (x2 : Int32) (x3 : Int32) (x4 : Int32) (x5 : Int32) (I : Nat → Nat → Int32) (L : Nat → Nat → Int64), LO_M_foretold_120 fu n x1 x2 x3 x4 x5 I L = some res → Wp (Ev (d + 11)) cd_M_foretold (0, 0) (some .int) n0 s0 Q 120 [(0, .ref 331), (1, .int x1), (2, .int x2), (3, .int x3), (4, .int x4), (5, .int x5)] [] (HS I L X) := by
  intro n
  induction n with
  | zero => intro _ _ _ _ _ _ _ q; cases q
  | succ n ih =>
    intro x1 x2 x3 x4 x5 I L q
    unfold LO_M_foretold_120 at q
    refine w_iload (Ev.cm _) rfl rfl ?_
    refine w_bipush (Ev.cm _) rfl ?_
    refine w_icmp_ge (Ev.cm _) rfl (fun c1 => ?_) (fun c1 => ?_)
    · have c1 : 24 ≤ x5 := c1
      rw [if_pos c1] at q
      refine w_aload_n (Ev.cm _) rfl rfl ?_
      refine w_iconst (Ev.cm _) rfl ?_
      refine w_putZ (Ev.cm _) rfl (Nat.le_of_ble_eq_true rfl) rfl (by first | decide | exact bI_b) ?_
      refine w_iload (Ev.cm _) rfl rfl ?_
      refine w_ireturn (Ev.cm _) rfl trivial rf0 ?_
      cases q
      exact g
    · have c1 : ¬ (24 ≤ x5) := c1
      rw [if_neg c1] at q
      refine w_aload_n (Ev.cm _) rfl rfl ?_
      refine w_getR (q := 332) (Ev.cm _) rfl (Nat.le_of_ble_eq_true rfl) rfl rfl ?_
      refine w_iload (Ev.cm _) rfl rfl ?_
      refine w_aload_n (Ev.cm _) rfl rfl ?_
      refine w_getR (q := 340) (Ev.cm _) rfl (Nat.le_of_ble_eq_true rfl) rfl rfl ?_
      refine w_iload (Ev.cm _) rfl rfl ?_
      obtain ⟨b1, q⟩ := ois q
      refine w_iald (Ev.cm _) rfl (Nat.le_of_ble_eq_true rfl) rfl (show vp_in x5 24 from vpI 24 (by decide) b1.1 b1.2) ?_
      obtain ⟨b2, q⟩ := ois q
      refine w_iast (Ev.cm _) rfl (Nat.le_of_ble_eq_true rfl) rfl (show vp_in x5 1541 from vpI 1541 (by decide) b2.1 b2.2) ?_
      refine w_iinc (ls2 := [(0, .ref 331), (1, .int x1), (2, .int x2), (3, .int x3), (4, .int x4), (5, .int (x5 + 1))]) (Ev.cm _) rfl rfl rfl ?_
      refine w_goto (Ev.cm _) rfl ?_
      show Wp _ _ _ _ _ _ _ 120 [(0, .ref 331), (1, .int x1), (2, .int x2), (3, .int x3), (4, .int x4), (5, .int (x5 + 1))] [] (HS (sI I 332 x5.toNatClampNeg (I 340 x5.toNatClampNeg)) L X)
      refine Wp.sub [0, 1, 2, 3, 4, 5] (ls2 := [(0, .ref 331), (1, .int x1), (2, .int x2), (3, .int x3), (4, .int x4), (5, .int (x5 + 1))]) rfl ?_
      exact ih _ _ _ _ _ _ _ q
def LO_M_foretold_68 (fu : Nat) : Nat → Int32 → Int32 → Int32 → Int32 → (Nat → Nat → Int32) → (Nat → Nat → Int64) → Option (Int32 × (Nat → Nat → Int32) × (Nat → Nat → Int64))
  | 0, _, _, _, _, _, _ => none
  | n + 1, x1, x2, x3, x4, I, L => if x1 ≤ x4 then (if x3 = 0 then ((FO_M_placeOf fu x2 I L).bind (fun u2 => let r2 := u2.1; let I2 := u2.2.1; let L2 := u2.2.2; LO_M_foretold_120 fu fu x1 x2 x3 r2 7 I2 L2)) else ((FO_M_trod fu x2 I L).bind (fun u1 => let r1 := u1.1; let I1 := u1.2.1; let L1 := u1.2.2; LO_M_foretold_120 fu fu x1 x2 x3 r1 7 I1 L1))) else (if 9999 ≤ I 332 7 then (LO_M_foretold_68 fu n x1 x2 x3 (x4 + 1) I L) else ((FO_M_pass fu  I L).bind (fun u3 => let r3 := u3.1; let I3 := u3.2.1; let L3 := u3.2.2; LO_M_foretold_68 fu n x1 x2 x3 (x4 + 1) I3 L3)))
set_option maxHeartbeats 20000000 in
theorem lo_M_foretold_68 {d fu n0 s0 : Nat} {X : Nat × (Nat → Int32)} {Q : PQ} {res : Int32 × (Nat → Nat → Int32) × (Nat → Nat → Int64)} (g : Q (some (.int res.1)) (HS res.2.1 res.2.2 X)) : ∀ (n : Nat) (x1 : Int32) (x2 : Int32) (x3 : Int32) (x4 : Int32) (I : Nat → Nat → Int32) (L : Nat → Nat → Int64), LO_M_foretold_68 fu n x1 x2 x3 x4 I L = some res → Wp (Ev (d + 11)) cd_M_foretold (0, 0) (some .int) n0 s0 Q 68 [(0, .ref 331), (1, .int x1), (2, .int x2), (3, .int x3), (4, .int x4)] [] (HS I L X) := by
  intro n
  induction n with
  | zero => intro _ _ _ _ _ _ q; cases q
  | succ n ih =>
    intro x1 x2 x3 x4 I L q
    unfold LO_M_foretold_68 at q
    refine w_iload (Ev.cm _) rfl rfl ?_
    refine w_iload_n (Ev.cm _) rfl rfl ?_
    refine w_icmp_ge (Ev.cm _) rfl (fun c1 => ?_) (fun c1 => ?_)
    · have c1 : x1 ≤ x4 := c1
      rw [if_pos c1] at q
      refine w_iload_n (Ev.cm _) rfl rfl ?_
      refine w_if_ne (Ev.cm _) rfl (fun c2 => ?_) (fun c2 => ?_)
      · have c2 : ¬ (x3 = 0) := c2
        rw [if_neg c2] at q
        refine w_aload_n (Ev.cm _) rfl rfl ?_
        refine w_iload_n (Ev.cm _) rfl rfl ?_
        obtain ⟨⟨r1, I1, L1⟩, e1, q⟩ := obs q
        dsimp only at q
        refine w_cvirt (o := 331) (as := [.int x2]) (st := []) (Ev.cm _) rfl rfl rfl (Nat.le_of_ble_eq_true rfl) (Nat.le_of_ble_eq_true rfl) rfl (Nat.le_of_ble_eq_true rfl) (eo_M_trod (g := ?_) e1)
        show Wp _ _ _ _ _ _ _ 114 [(0, .ref 331), (1, .int x1), (2, .int x2), (3, .int x3), (4, .int x4)] [.int r1] (HS I1 L1 X)
        refine w_istore (ls2 := [(0, .ref 331), (1, .int x1), (2, .int x2), (3, .int x3), (4, .int r1)]) (Ev.cm _) rfl rfl ?_
        refine w_bipush (Ev.cm _) rfl ?_
        refine w_istore (ls2 := [(0, .ref 331), (1, .int x1), (2, .int x2), (3, .int x3), (4, .int r1), (5, .int 7)]) (Ev.cm _) rfl rfl ?_
        show Wp _ _ _ _ _ _ _ 120 [(0, .ref 331), (1, .int x1), (2, .int x2), (3, .int x3), (4, .int r1), (5, .int 7)] [] (HS I1 L1 X)
        refine Wp.sub [0, 1, 2, 3, 4, 5] (ls2 := [(0, .ref 331), (1, .int x1), (2, .int x2), (3, .int x3), (4, .int r1), (5, .int 7)]) rfl ?_
        exact lo_M_foretold_120 g fu _ _ _ _ _ _ _ q
      · have c2 : x3 = 0 := c2
        rw [if_pos c2] at q
        refine w_aload_n (Ev.cm _) rfl rfl ?_
        refine w_iload_n (Ev.cm _) rfl rfl ?_
        obtain ⟨⟨r2, I2, L2⟩, e2, q⟩ := obs q
        dsimp only at q
        refine w_cvirt (o := 331) (as := [.int x2]) (st := []) (Ev.cm _) rfl rfl rfl (Nat.le_of_ble_eq_true rfl) (Nat.le_of_ble_eq_true rfl) rfl (Nat.le_of_ble_eq_true rfl) (eo_M_placeOf (g := ?_) e2)
        show Wp _ _ _ _ _ _ _ 106 [(0, .ref 331), (1, .int x1), (2, .int x2), (3, .int x3), (4, .int x4)] [.int r2] (HS I2 L2 X)
        refine w_goto (Ev.cm _) rfl ?_
        refine w_istore (ls2 := [(0, .ref 331), (1, .int x1), (2, .int x2), (3, .int x3), (4, .int r2)]) (Ev.cm _) rfl rfl ?_
        refine w_bipush (Ev.cm _) rfl ?_
        refine w_istore (ls2 := [(0, .ref 331), (1, .int x1), (2, .int x2), (3, .int x3), (4, .int r2), (5, .int 7)]) (Ev.cm _) rfl rfl ?_
        show Wp _ _ _ _ _ _ _ 120 [(0, .ref 331), (1, .int x1), (2, .int x2), (3, .int x3), (4, .int r2), (5, .int 7)] [] (HS I2 L2 X)
        refine Wp.sub [0, 1, 2, 3, 4, 5] (ls2 := [(0, .ref 331), (1, .int x1), (2, .int x2), (3, .int x3), (4, .int r2), (5, .int 7)]) rfl ?_
        exact lo_M_foretold_120 g fu _ _ _ _ _ _ _ q
    · have c1 : ¬ (x1 ≤ x4) := c1
      rw [if_neg c1] at q
      refine w_aload_n (Ev.cm _) rfl rfl ?_
      refine w_getR (q := 332) (Ev.cm _) rfl (Nat.le_of_ble_eq_true rfl) rfl rfl ?_
      refine w_bipush (Ev.cm _) rfl ?_
      refine w_iald (Ev.cm _) rfl (Nat.le_of_ble_eq_true rfl) rfl (show vp_in 7 1541 from vpI 1541 (by decide) (by decide) (by decide)) ?_
      refine w_sipush (Ev.cm _) rfl ?_
      refine w_icmp_ge (Ev.cm _) rfl (fun c3 => ?_) (fun c3 => ?_)
      · have c3 : 9999 ≤ I 332 7 := c3
        rw [if_pos c3] at q
        refine w_iinc (ls2 := [(0, .ref 331), (1, .int x1), (2, .int x2), (3, .int x3), (4, .int (x4 + 1))]) (Ev.cm _) rfl rfl rfl ?_
        refine w_goto (Ev.cm _) rfl ?_
        show Wp _ _ _ _ _ _ _ 68 [(0, .ref 331), (1, .int x1), (2, .int x2), (3, .int x3), (4, .int (x4 + 1))] [] (HS I L X)
        refine Wp.sub [0, 1, 2, 3, 4] (ls2 := [(0, .ref 331), (1, .int x1), (2, .int x2), (3, .int x3), (4, .int (x4 + 1))]) rfl ?_
        exact ih _ _ _ _ _ _ q
      · have c3 : ¬ (9999 ≤ I 332 7) := c3
        rw [if_neg c3] at q
        refine w_aload_n (Ev.cm _) rfl rfl ?_
        obtain ⟨⟨r3, I3, L3⟩, e3, q⟩ := obs q
        dsimp only at q
        refine w_cvirt (o := 331) (as := []) (st := []) (Ev.cm _) rfl rfl rfl (Nat.le_of_ble_eq_true rfl) (Nat.le_of_ble_eq_true rfl) rfl (Nat.le_of_ble_eq_true rfl) (eo_M_pass (g := ?_) e3)
        show Wp _ _ _ _ _ _ _ 91 [(0, .ref 331), (1, .int x1), (2, .int x2), (3, .int x3), (4, .int x4)] [] (HS I3 L3 X)
        refine w_iinc (ls2 := [(0, .ref 331), (1, .int x1), (2, .int x2), (3, .int x3), (4, .int (x4 + 1))]) (Ev.cm _) rfl rfl rfl ?_
        refine w_goto (Ev.cm _) rfl ?_
        show Wp _ _ _ _ _ _ _ 68 [(0, .ref 331), (1, .int x1), (2, .int x2), (3, .int x3), (4, .int (x4 + 1))] [] (HS I3 L3 X)
        refine Wp.sub [0, 1, 2, 3, 4] (ls2 := [(0, .ref 331), (1, .int x1), (2, .int x2), (3, .int x3), (4, .int (x4 + 1))]) rfl ?_
        exact ih _ _ _ _ _ _ q
def LO_M_foretold_33 (fu : Nat) : Nat → Int32 → Int32 → Int32 → Int32 → (Nat → Nat → Int32) → (Nat → Nat → Int64) → Option (Int32 × (Nat → Nat → Int32) × (Nat → Nat → Int64))
  | 0, _, _, _, _, _, _ => none
  | n + 1, x1, x2, x3, x4, I, L => if 24 ≤ x4 then (LO_M_foretold_68 fu fu x1 x2 x3 0 (sI I 331 23 0) L) else (if 0 ≤ x4 ∧ x4 < 1541 then (if 0 ≤ x4 ∧ x4 < 24 then (LO_M_foretold_33 fu n x1 x2 x3 (x4 + 1) (sI I 340 x4.toNatClampNeg (I 332 x4.toNatClampNeg)) L) else none) else none)
set_option maxHeartbeats 20000000 in
theorem lo_M_foretold_33 {d fu n0 s0 : Nat} {X : Nat × (Nat → Int32)} {Q : PQ} {res : Int32 × (Nat → Nat → Int32) × (Nat → Nat → Int64)} (g : Q (some (.int res.1)) (HS res.2.1 res.2.2 X)) : ∀ (n : Nat) (x1 : Int32) (x2 : Int32) (x3 : Int32) (x4 : Int32) (I : Nat → Nat → Int32) (L : Nat → Nat → Int64), LO_M_foretold_33 fu n x1 x2 x3 x4 I L = some res → Wp (Ev (d + 11)) cd_M_foretold (0, 0) (some .int) n0 s0 Q 33 [(0, .ref 331), (1, .int x1), (2, .int x2), (3, .int x3), (4, .int x4)] [] (HS I L X) := by
  intro n
  induction n with
  | zero => intro _ _ _ _ _ _ q; cases q
  | succ n ih =>
    intro x1 x2 x3 x4 I L q
    unfold LO_M_foretold_33 at q
    refine w_iload (Ev.cm _) rfl rfl ?_
    refine w_bipush (Ev.cm _) rfl ?_
    refine w_icmp_ge (Ev.cm _) rfl (fun c1 => ?_) (fun c1 => ?_)
    · have c1 : 24 ≤ x4 := c1
      rw [if_pos c1] at q
      refine w_aload_n (Ev.cm _) rfl rfl ?_
      refine w_iconst (Ev.cm _) rfl ?_
      refine w_putZ (Ev.cm _) rfl (Nat.le_of_ble_eq_true rfl) rfl (by first | decide | exact bI_b) ?_
      refine w_iconst (Ev.cm _) rfl ?_
      refine w_istore (ls2 := [(0, .ref 331), (1, .int x1), (2, .int x2), (3, .int x3), (4, .int 0)]) (Ev.cm _) rfl rfl ?_
      show Wp _ _ _ _ _ _ _ 68 [(0, .ref 331), (1, .int x1), (2, .int x2), (3, .int x3), (4, .int 0)] [] (HS (sI I 331 23 0) L X)
      refine Wp.sub [0, 1, 2, 3, 4] (ls2 := [(0, .ref 331), (1, .int x1), (2, .int x2), (3, .int x3), (4, .int 0)]) rfl ?_
      exact lo_M_foretold_68 g fu _ _ _ _ _ _ q
    · have c1 : ¬ (24 ≤ x4) := c1
      rw [if_neg c1] at q
      refine w_aload_n (Ev.cm _) rfl rfl ?_
      refine w_getR (q := 340) (Ev.cm _) rfl (Nat.le_of_ble_eq_true rfl) rfl rfl ?_
      refine w_iload (Ev.cm _) rfl rfl ?_
      refine w_aload_n (Ev.cm _) rfl rfl ?_
      refine w_getR (q := 332) (Ev.cm _) rfl (Nat.le_of_ble_eq_true rfl) rfl rfl ?_
      refine w_iload (Ev.cm _) rfl rfl ?_
      obtain ⟨b1, q⟩ := ois q
      refine w_iald (Ev.cm _) rfl (Nat.le_of_ble_eq_true rfl) rfl (show vp_in x4 1541 from vpI 1541 (by decide) b1.1 b1.2) ?_
      obtain ⟨b2, q⟩ := ois q
      refine w_iast (Ev.cm _) rfl (Nat.le_of_ble_eq_true rfl) rfl (show vp_in x4 24 from vpI 24 (by decide) b2.1 b2.2) ?_
      refine w_iinc (ls2 := [(0, .ref 331), (1, .int x1), (2, .int x2), (3, .int x3), (4, .int (x4 + 1))]) (Ev.cm _) rfl rfl rfl ?_
      refine w_goto (Ev.cm _) rfl ?_
      show Wp _ _ _ _ _ _ _ 33 [(0, .ref 331), (1, .int x1), (2, .int x2), (3, .int x3), (4, .int (x4 + 1))] [] (HS (sI I 340 x4.toNatClampNeg (I 332 x4.toNatClampNeg)) L X)
      refine Wp.sub [0, 1, 2, 3, 4] (ls2 := [(0, .ref 331), (1, .int x1), (2, .int x2), (3, .int x3), (4, .int (x4 + 1))]) rfl ?_
      exact ih _ _ _ _ _ _ q
def FO_M_foretold (fu : Nat) (p0 : Int32) (p1 : Int32) (p2 : Int32) (I : Nat → Nat → Int32) (L : Nat → Nat → Int64) : Option (Int32 × (Nat → Nat → Int32) × (Nat → Nat → Int64)) := if (1 : Int32) ≤ p0 ∧ p0 ≤ (60 : Int32) then (if F_M_isLodger I p1 = 0 then (some ((-1), I, L)) else (if (0 : Int32) ≤ p2 ∧ p2 ≤ (1 : Int32) then (LO_M_foretold_33 fu fu p0 p1 p2 7 I L) else (some ((-1), I, L)))) else (some ((-1), I, L))
set_option maxHeartbeats 20000000 in
theorem eo_M_foretold {d fu : Nat} {p0 : Int32} {p1 : Int32} {p2 : Int32} {I : Nat → Nat → Int32} {L : Nat → Nat → Int64} {X : Nat × (Nat → Int32)} {Q : PQ} {res : Int32 × (Nat → Nat → Int32) × (Nat → Nat → Int64)} (g : Q (some (.int res.1)) (HS res.2.1 res.2.2 X)) (q : FO_M_foretold fu p0 p1 p2 I L = some res) : Ev (d + 12) m_M_foretold [.ref 331, .int p0, .int p1, .int p2] (HS I L X) Q := by
  unfold FO_M_foretold at q
  refine ev_start (d := d + 11) rfl rfl rfl (Nat.le_of_ble_eq_true rfl) ?_
  show Wp (Ev (d + 11)) cd_M_foretold (0, 0) (some .int) _ _ Q 0 [(0, .ref 331), (1, .int p0), (2, .int p1), (3, .int p2)] [] (HS I L X)
  refine w_iload_n (Ev.cm _) rfl rfl ?_
  refine w_iconst (Ev.cm _) rfl ?_
  refine w_bipush (Ev.cm _) rfl ?_
  refine w_cstat (as := [.int p0, .int 1, .int 60]) (st := []) (Ev.cm _) rfl rfl rfl (Nat.le_of_ble_eq_true rfl) (Nat.le_of_ble_eq_true rfl) (m_isIn ?_)
  show Wp _ _ _ _ _ _ _ 7 [(0, .ref 331), (1, .int p0), (2, .int p1), (3, .int p2)] [.int (bI ((1 : Int32) ≤ p0 ∧ p0 ≤ (60 : Int32)))] (HS I L X)
  refine w_if_eq (Ev.cm _) rfl (fun c1 => ?_) (fun c1 => ?_)
  · have c1 : ¬ ((1 : Int32) ≤ p0 ∧ p0 ≤ (60 : Int32)) := bI_0.mp c1
    rw [if_neg c1] at q
    refine w_iconst (Ev.cm _) rfl ?_
    refine w_ireturn (Ev.cm _) rfl trivial rf0 ?_
    cases q
    exact g
  · have c1 : (1 : Int32) ≤ p0 ∧ p0 ≤ (60 : Int32) := bI_1.mp c1
    rw [if_pos c1] at q
    refine w_aload_n (Ev.cm _) rfl rfl ?_
    refine w_iload_n (Ev.cm _) rfl rfl ?_
    refine w_cvirt (o := 331) (as := [.int p1]) (st := []) (Ev.cm _) rfl rfl rfl (Nat.le_of_ble_eq_true rfl) (Nat.le_of_ble_eq_true rfl) rfl (Nat.le_of_ble_eq_true rfl) (e_M_isLodger ?_)
    show Wp _ _ _ _ _ _ _ 15 [(0, .ref 331), (1, .int p0), (2, .int p1), (3, .int p2)] [.int (F_M_isLodger I p1)] (HS I L X)
    refine w_if_eq (Ev.cm _) rfl (fun c2 => ?_) (fun c2 => ?_)
    · have c2 : F_M_isLodger I p1 = 0 := c2
      rw [if_pos c2] at q
      refine w_iconst (Ev.cm _) rfl ?_
      refine w_ireturn (Ev.cm _) rfl trivial rf0 ?_
      cases q
      exact g
    · have c2 : ¬ (F_M_isLodger I p1 = 0) := c2
      rw [if_neg c2] at q
      refine w_iload_n (Ev.cm _) rfl rfl ?_
      refine w_iconst (Ev.cm _) rfl ?_
      refine w_iconst (Ev.cm _) rfl ?_
      refine w_cstat (as := [.int p2, .int 0, .int 1]) (st := []) (Ev.cm _) rfl rfl rfl (Nat.le_of_ble_eq_true rfl) (Nat.le_of_ble_eq_true rfl) (m_isIn ?_)
      show Wp _ _ _ _ _ _ _ 24 [(0, .ref 331), (1, .int p0), (2, .int p1), (3, .int p2)] [.int (bI ((0 : Int32) ≤ p2 ∧ p2 ≤ (1 : Int32)))] (HS I L X)
      refine w_if_ne (Ev.cm _) rfl (fun c3 => ?_) (fun c3 => ?_)
      · have c3 : (0 : Int32) ≤ p2 ∧ p2 ≤ (1 : Int32) := bI_1.mp c3
        rw [if_pos c3] at q
        refine w_bipush (Ev.cm _) rfl ?_
        refine w_istore (ls2 := [(0, .ref 331), (1, .int p0), (2, .int p1), (3, .int p2), (4, .int 7)]) (Ev.cm _) rfl rfl ?_
        show Wp _ _ _ _ _ _ _ 33 [(0, .ref 331), (1, .int p0), (2, .int p1), (3, .int p2), (4, .int 7)] [] (HS I L X)
        refine Wp.sub [0, 1, 2, 3, 4] (ls2 := [(0, .ref 331), (1, .int p0), (2, .int p1), (3, .int p2), (4, .int 7)]) rfl ?_
        exact lo_M_foretold_33 g fu _ _ _ _ _ _ q
      · have c3 : ¬ ((0 : Int32) ≤ p2 ∧ p2 ≤ (1 : Int32)) := bI_0.mp c3
        rw [if_neg c3] at q
        refine w_iconst (Ev.cm _) rfl ?_
        refine w_ireturn (Ev.cm _) rfl trivial rf0 ?_
        cases q
        exact g
def LO_O_weighFromBack_45 (fu : Nat) (k_15 : Int32 → Int32 → Int32 → (Nat → Nat → Int32) → (Nat → Nat → Int64) → Option (Unit × (Nat → Nat → Int32) × (Nat → Nat → Int64))) (k_23 : Int32 → Int32 → Int32 → Int32 → (Nat → Nat → Int32) → (Nat → Nat → Int64) → Option (Unit × (Nat → Nat → Int32) × (Nat → Nat → Int64))) : Nat → Int32 → Int32 → Int32 → Int32 → Int64 → Int32 → (Nat → Nat → Int32) → (Nat → Nat → Int64) → Option (Unit × (Nat → Nat → Int32) × (Nat → Nat → Int64))
  | 0, _, _, _, _, _, _, _, _ => none
  | n + 1, x2, x3, x4, x5, x6, x8, I, L => if 3 ≤ x8 then (if 0 ≤ (x4 * 3) + x5 ∧ (x4 * 3) + x5 < 18 then (k_23 x2 x3 x4 (x5 + 1) I (sL L 324 (((x4 * 3) + x5).toNatClampNeg) x6)) else none) else (if x3 ≤ x4 then (if 0 ≤ (x4 * 3) + x5 ∧ (x4 * 3) + x5 < 18 then (k_23 x2 x3 x4 (x5 + 1) I (sL L 324 (((x4 * 3) + x5).toNatClampNeg) x6)) else none) else ((FO_O_goesOn fu x4 x5 x8 I L).bind (fun u3 => let r3 := u3.1; let I3 := u3.2.1; let L3 := u3.2.2; if x2 = 0 then (LO_O_weighFromBack_45 fu k_15 k_23 n x2 x3 x4 x5 (x6 + r3) (x8 + 1) I3 L3) else (LO_O_weighFromBack_45 fu k_15 k_23 n x2 x3 x4 x5 (F_J_maxL I3 x6 r3) (x8 + 1) I3 L3))))
set_option maxHeartbeats 20000000 in
theorem lo_O_weighFromBack_45 {d fu n0 s0 : Nat} {X : Nat × (Nat → Int32)} {Q : PQ} {k_15 : Int32 → Int32 → Int32 → (Nat → Nat → Int32) → (Nat → Nat → Int64) → Option (Unit × (Nat → Nat → Int32) × (Nat → Nat → Int64))} {k_23 : Int32 → Int32 → Int32 → Int32 → (Nat → Nat → Int32) → (Nat → Nat → Int64) → Option (Unit × (Nat → Nat → Int32) × (Nat → Nat → Int64))} {res : Unit × (Nat → Nat → Int32) × (Nat → Nat → Int64)} (g : Q none (HS res.2.1 res.2.2 X)) (hk_15 : ∀ (x2 : Int32) (x3 : Int32) (x4 : Int32) (I : Nat → Nat → Int32) (L : Nat → Nat → Int64), k_15 x2 x3 x4 I L = some res → Wp (Ev (d + 4)) cd_O_weighFromBack (0, 0) none n0 s0 Q 15 [(0, .ref 322), (1, .ref 1), (2, .int x2), (3, .int x3), (4, .int x4)] [] (HS I L X)) (hk_23 : ∀ (x2 : Int32) (x3 : Int32) (x4 : Int32) (x5 : Int32) (I : Nat → Nat → Int32) (L : Nat → Nat → Int64), k_23 x2 x3 x4 x5 I L = some res → Wp (Ev (d + 4)) cd_O_weighFromBack (0, 0) none n0 s0 Q 23 [(0, .ref 322), (1, .ref 1), (2, .int x2), (3, .int x3), (4, .int x4), (5, .int x5)] [] (HS I L X)) : ∀ (n : Nat) (x2 : Int32) (x3 : Int32) (x4 : Int32) (x5 : Int32) (x6 : Int64) (x8 : Int32) (I : Nat → Nat → Int32) (L : Nat → Nat → Int64), LO_O_weighFromBack_45 fu k_15 k_23 n x2 x3 x4 x5 x6 x8 I L = some res → Wp (Ev (d + 4)) cd_O_weighFromBack (0, 0) none n0 s0 Q 45 [(0, .ref 322), (1, .ref 1), (2, .int x2), (3, .int x3), (4, .int x4), (5, .int x5), (6, .long x6), (8, .int x8)] [] (HS I L X) := by
  intro n
  induction n with
  | zero => intro _ _ _ _ _ _ _ _ q; cases q
  | succ n ih =>
    intro x2 x3 x4 x5 x6 x8 I L q
    unfold LO_O_weighFromBack_45 at q
    refine w_iload (Ev.cm _) rfl rfl ?_
    refine w_iconst (Ev.cm _) rfl ?_
    refine w_icmp_ge (Ev.cm _) rfl (fun c1 => ?_) (fun c1 => ?_)
    · have c1 : 3 ≤ x8 := c1
      rw [if_pos c1] at q
      refine w_aload_n (Ev.cm _) rfl rfl ?_
      refine w_getR (q := 324) (Ev.cm _) rfl (Nat.le_of_ble_eq_true rfl) rfl rfl ?_
      refine w_iload (Ev.cm _) rfl rfl ?_
      refine w_iconst (Ev.cm _) rfl ?_
      refine w_imul (Ev.cm _) rfl ?_
      refine w_iload (Ev.cm _) rfl rfl ?_
      refine w_iadd (Ev.cm _) rfl ?_
      refine w_lload (Ev.cm _) rfl rfl ?_
      obtain ⟨b1, q⟩ := ois q
      refine w_last (Ev.cm _) rfl (Nat.le_of_ble_eq_true rfl) rfl (show vp_in ((x4 * 3) + x5) 18 from vpI 18 (by decide) b1.1 b1.2) ?_
      refine w_iinc (ls2 := [(0, .ref 322), (1, .ref 1), (2, .int x2), (3, .int x3), (4, .int x4), (5, .int (x5 + 1)), (6, .long x6), (8, .int x8)]) (Ev.cm _) rfl rfl rfl ?_
      refine w_goto (Ev.cm _) rfl ?_
      show Wp _ _ _ _ _ _ _ 23 [(0, .ref 322), (1, .ref 1), (2, .int x2), (3, .int x3), (4, .int x4), (5, .int (x5 + 1)), (6, .long x6), (8, .int x8)] [] (HS I (sL L 324 (((x4 * 3) + x5).toNatClampNeg) x6) X)
      refine Wp.sub [0, 1, 2, 3, 4, 5] (ls2 := [(0, .ref 322), (1, .ref 1), (2, .int x2), (3, .int x3), (4, .int x4), (5, .int (x5 + 1))]) rfl ?_
      exact hk_23 _ _ _ _ _ _ q
    · have c1 : ¬ (3 ≤ x8) := c1
      rw [if_neg c1] at q
      refine w_iload (Ev.cm _) rfl rfl ?_
      refine w_iload_n (Ev.cm _) rfl rfl ?_
      refine w_icmp_ge (Ev.cm _) rfl (fun c2 => ?_) (fun c2 => ?_)
      · have c2 : x3 ≤ x4 := c2
        rw [if_pos c2] at q
        refine w_aload_n (Ev.cm _) rfl rfl ?_
        refine w_getR (q := 324) (Ev.cm _) rfl (Nat.le_of_ble_eq_true rfl) rfl rfl ?_
        refine w_iload (Ev.cm _) rfl rfl ?_
        refine w_iconst (Ev.cm _) rfl ?_
        refine w_imul (Ev.cm _) rfl ?_
        refine w_iload (Ev.cm _) rfl rfl ?_
        refine w_iadd (Ev.cm _) rfl ?_
        refine w_lload (Ev.cm _) rfl rfl ?_
        obtain ⟨b2, q⟩ := ois q
        refine w_last (Ev.cm _) rfl (Nat.le_of_ble_eq_true rfl) rfl (show vp_in ((x4 * 3) + x5) 18 from vpI 18 (by decide) b2.1 b2.2) ?_
        refine w_iinc (ls2 := [(0, .ref 322), (1, .ref 1), (2, .int x2), (3, .int x3), (4, .int x4), (5, .int (x5 + 1)), (6, .long x6), (8, .int x8)]) (Ev.cm _) rfl rfl rfl ?_
        refine w_goto (Ev.cm _) rfl ?_
        show Wp _ _ _ _ _ _ _ 23 [(0, .ref 322), (1, .ref 1), (2, .int x2), (3, .int x3), (4, .int x4), (5, .int (x5 + 1)), (6, .long x6), (8, .int x8)] [] (HS I (sL L 324 (((x4 * 3) + x5).toNatClampNeg) x6) X)
        refine Wp.sub [0, 1, 2, 3, 4, 5] (ls2 := [(0, .ref 322), (1, .ref 1), (2, .int x2), (3, .int x3), (4, .int x4), (5, .int (x5 + 1))]) rfl ?_
        exact hk_23 _ _ _ _ _ _ q
      · have c2 : ¬ (x3 ≤ x4) := c2
        rw [if_neg c2] at q
        refine w_aload_n (Ev.cm _) rfl rfl ?_
        refine w_aload_n (Ev.cm _) rfl rfl ?_
        refine w_iload (Ev.cm _) rfl rfl ?_
        refine w_iload (Ev.cm _) rfl rfl ?_
        refine w_iload (Ev.cm _) rfl rfl ?_
        obtain ⟨⟨r3, I3, L3⟩, e3, q⟩ := obs q
        dsimp only at q
        refine w_cvirt (o := 322) (as := [.ref 1, .int x4, .int x5, .int x8]) (st := []) (Ev.cm _) rfl rfl rfl (Nat.le_of_ble_eq_true rfl) (Nat.le_of_ble_eq_true rfl) rfl (Nat.le_of_ble_eq_true rfl) (eo_O_goesOn (g := ?_) e3)
        show Wp _ _ _ _ _ _ _ 68 [(0, .ref 322), (1, .ref 1), (2, .int x2), (3, .int x3), (4, .int x4), (5, .int x5), (6, .long x6), (8, .int x8)] [.long r3] (HS I3 L3 X)
        refine w_lstore (ls2 := [(0, .ref 322), (1, .ref 1), (2, .int x2), (3, .int x3), (4, .int x4), (5, .int x5), (6, .long x6), (8, .int x8), (9, .long r3)]) (Ev.cm _) rfl rfl ?_
        refine w_iload_n (Ev.cm _) rfl rfl ?_
        refine w_if_eq (Ev.cm _) rfl (fun c3 => ?_) (fun c3 => ?_)
        · have c3 : x2 = 0 := c3
          rw [if_pos c3] at q
          refine w_lload (Ev.cm _) rfl rfl ?_
          refine w_lload (Ev.cm _) rfl rfl ?_
          refine w_ladd (Ev.cm _) rfl ?_
          refine w_lstore (ls2 := [(0, .ref 322), (1, .ref 1), (2, .int x2), (3, .int x3), (4, .int x4), (5, .int x5), (6, .long (x6 + r3)), (8, .int x8), (9, .long r3)]) (Ev.cm _) rfl rfl ?_
          refine w_iinc (ls2 := [(0, .ref 322), (1, .ref 1), (2, .int x2), (3, .int x3), (4, .int x4), (5, .int x5), (6, .long (x6 + r3)), (8, .int (x8 + 1)), (9, .long r3)]) (Ev.cm _) rfl rfl rfl ?_
          refine w_goto (Ev.cm _) rfl ?_
          show Wp _ _ _ _ _ _ _ 45 [(0, .ref 322), (1, .ref 1), (2, .int x2), (3, .int x3), (4, .int x4), (5, .int x5), (6, .long (x6 + r3)), (8, .int (x8 + 1)), (9, .long r3)] [] (HS I3 L3 X)
          refine Wp.sub [0, 1, 2, 3, 4, 5, 6, 7] (ls2 := [(0, .ref 322), (1, .ref 1), (2, .int x2), (3, .int x3), (4, .int x4), (5, .int x5), (6, .long (x6 + r3)), (8, .int (x8 + 1))]) rfl ?_
          exact ih _ _ _ _ _ _ _ _ q
        · have c3 : ¬ (x2 = 0) := c3
          rw [if_neg c3] at q
          refine w_lload (Ev.cm _) rfl rfl ?_
          refine w_lload (Ev.cm _) rfl rfl ?_
          refine w_cstat (as := [.long x6, .long r3]) (st := []) (Ev.cm _) rfl rfl rfl (Nat.le_of_ble_eq_true rfl) (Nat.le_of_ble_eq_true rfl) (e_J_maxL ?_)
          show Wp _ _ _ _ _ _ _ 81 [(0, .ref 322), (1, .ref 1), (2, .int x2), (3, .int x3), (4, .int x4), (5, .int x5), (6, .long x6), (8, .int x8), (9, .long r3)] [.long (F_J_maxL I3 x6 r3)] (HS I3 L3 X)
          refine w_goto (Ev.cm _) rfl ?_
          refine w_lstore (ls2 := [(0, .ref 322), (1, .ref 1), (2, .int x2), (3, .int x3), (4, .int x4), (5, .int x5), (6, .long (F_J_maxL I3 x6 r3)), (8, .int x8), (9, .long r3)]) (Ev.cm _) rfl rfl ?_
          refine w_iinc (ls2 := [(0, .ref 322), (1, .ref 1), (2, .int x2), (3, .int x3), (4, .int x4), (5, .int x5), (6, .long (F_J_maxL I3 x6 r3)), (8, .int (x8 + 1)), (9, .long r3)]) (Ev.cm _) rfl rfl rfl ?_
          refine w_goto (Ev.cm _) rfl ?_
          show Wp _ _ _ _ _ _ _ 45 [(0, .ref 322), (1, .ref 1), (2, .int x2), (3, .int x3), (4, .int x4), (5, .int x5), (6, .long (F_J_maxL I3 x6 r3)), (8, .int (x8 + 1)), (9, .long r3)] [] (HS I3 L3 X)
          refine Wp.sub [0, 1, 2, 3, 4, 5, 6, 7] (ls2 := [(0, .ref 322), (1, .ref 1), (2, .int x2), (3, .int x3), (4, .int x4), (5, .int x5), (6, .long (F_J_maxL I3 x6 r3)), (8, .int (x8 + 1))]) rfl ?_
          exact ih _ _ _ _ _ _ _ _ q
def LO_O_weighFromBack_23 (fu : Nat) (k_15 : Int32 → Int32 → Int32 → (Nat → Nat → Int32) → (Nat → Nat → Int64) → Option (Unit × (Nat → Nat → Int32) × (Nat → Nat → Int64))) : Nat → Int32 → Int32 → Int32 → Int32 → (Nat → Nat → Int32) → (Nat → Nat → Int64) → Option (Unit × (Nat → Nat → Int32) × (Nat → Nat → Int64))
  | 0, _, _, _, _, _, _ => none
  | n + 1, x2, x3, x4, x5, I, L => if 3 ≤ x5 then (k_15 x2 x3 (x4 + (-1)) I L) else (if x4 = x3 then (LO_O_weighFromBack_45 fu k_15 (fun x2 x3 x4 x5 I L => LO_O_weighFromBack_23 fu k_15 n x2 x3 x4 x5 I L) fu x2 x3 x4 x5 1 0 I L) else (LO_O_weighFromBack_45 fu k_15 (fun x2 x3 x4 x5 I L => LO_O_weighFromBack_23 fu k_15 n x2 x3 x4 x5 I L) fu x2 x3 x4 x5 0 0 I L))
set_option maxHeartbeats 20000000 in
theorem lo_O_weighFromBack_23 {d fu n0 s0 : Nat} {X : Nat × (Nat → Int32)} {Q : PQ} {k_15 : Int32 → Int32 → Int32 → (Nat → Nat → Int32) → (Nat → Nat → Int64) → Option (Unit × (Nat → Nat → Int32) × (Nat → Nat → Int64))} {res : Unit × (Nat → Nat → Int32) × (Nat → Nat → Int64)} (g : Q none (HS res.2.1 res.2.2 X)) (hk_15 : ∀ (x2 : Int32) (x3 : Int32) (x4 : Int32) (I : Nat → Nat → Int32) (L : Nat → Nat → Int64), k_15 x2 x3 x4 I L = some res → Wp (Ev (d + 4)) cd_O_weighFromBack (0, 0) none n0 s0 Q 15 [(0, .ref 322), (1, .ref 1), (2, .int x2), (3, .int x3), (4, .int x4)] [] (HS I L X)) : ∀ (n : Nat) (x2 : Int32) (x3 : Int32) (x4 : Int32) (x5 : Int32) (I : Nat → Nat → Int32) (L : Nat → Nat → Int64), LO_O_weighFromBack_23 fu k_15 n x2 x3 x4 x5 I L = some res → Wp (Ev (d + 4)) cd_O_weighFromBack (0, 0) none n0 s0 Q 23 [(0, .ref 322), (1, .ref 1), (2, .int x2), (3, .int x3), (4, .int x4), (5, .int x5)] [] (HS I L X) := by
  intro n
  induction n with
  | zero => intro _ _ _ _ _ _ q; cases q
  | succ n ih =>
    intro x2 x3 x4 x5 I L q
    unfold LO_O_weighFromBack_23 at q
    refine w_iload (Ev.cm _) rfl rfl ?_
    refine w_iconst (Ev.cm _) rfl ?_
    refine w_icmp_ge (Ev.cm _) rfl (fun c1 => ?_) (fun c1 => ?_)
    · have c1 : 3 ≤ x5 := c1
      rw [if_pos c1] at q
      refine w_iinc (ls2 := [(0, .ref 322), (1, .ref 1), (2, .int x2), (3, .int x3), (4, .int (x4 + (-1))), (5, .int x5)]) (Ev.cm _) rfl rfl rfl ?_
      refine w_goto (Ev.cm _) rfl ?_
      show Wp _ _ _ _ _ _ _ 15 [(0, .ref 322), (1, .ref 1), (2, .int x2), (3, .int x3), (4, .int (x4 + (-1))), (5, .int x5)] [] (HS I L X)
      refine Wp.sub [0, 1, 2, 3, 4] (ls2 := [(0, .ref 322), (1, .ref 1), (2, .int x2), (3, .int x3), (4, .int (x4 + (-1)))]) rfl ?_
      exact hk_15 _ _ _ _ _ q
    · have c1 : ¬ (3 ≤ x5) := c1
      rw [if_neg c1] at q
      refine w_iload (Ev.cm _) rfl rfl ?_
      refine w_iload_n (Ev.cm _) rfl rfl ?_
      refine w_icmp_ne (Ev.cm _) rfl (fun c2 => ?_) (fun c2 => ?_)
      · have c2 : ¬ (x4 = x3) := c2
        rw [if_neg c2] at q
        refine w_lconst (Ev.cm _) rfl ?_
        refine w_lstore (ls2 := [(0, .ref 322), (1, .ref 1), (2, .int x2), (3, .int x3), (4, .int x4), (5, .int x5), (6, .long 0)]) (Ev.cm _) rfl rfl ?_
        refine w_iconst (Ev.cm _) rfl ?_
        refine w_istore (ls2 := [(0, .ref 322), (1, .ref 1), (2, .int x2), (3, .int x3), (4, .int x4), (5, .int x5), (6, .long 0), (8, .int 0)]) (Ev.cm _) rfl rfl ?_
        show Wp _ _ _ _ _ _ _ 45 [(0, .ref 322), (1, .ref 1), (2, .int x2), (3, .int x3), (4, .int x4), (5, .int x5), (6, .long 0), (8, .int 0)] [] (HS I L X)
        refine Wp.sub [0, 1, 2, 3, 4, 5, 6, 7] (ls2 := [(0, .ref 322), (1, .ref 1), (2, .int x2), (3, .int x3), (4, .int x4), (5, .int x5), (6, .long 0), (8, .int 0)]) rfl ?_
        exact lo_O_weighFromBack_45 g hk_15 (fun x2 x3 x4 x5 I L q => ih x2 x3 x4 x5 I L q) fu _ _ _ _ _ _ _ _ q
      · have c2 : x4 = x3 := c2
        rw [if_pos c2] at q
        refine w_lconst (Ev.cm _) rfl ?_
        refine w_goto (Ev.cm _) rfl ?_
        refine w_lstore (ls2 := [(0, .ref 322), (1, .ref 1), (2, .int x2), (3, .int x3), (4, .int x4), (5, .int x5), (6, .long 1)]) (Ev.cm _) rfl rfl ?_
        refine w_iconst (Ev.cm _) rfl ?_
        refine w_istore (ls2 := [(0, .ref 322), (1, .ref 1), (2, .int x2), (3, .int x3), (4, .int x4), (5, .int x5), (6, .long 1), (8, .int 0)]) (Ev.cm _) rfl rfl ?_
        show Wp _ _ _ _ _ _ _ 45 [(0, .ref 322), (1, .ref 1), (2, .int x2), (3, .int x3), (4, .int x4), (5, .int x5), (6, .long 1), (8, .int 0)] [] (HS I L X)
        refine Wp.sub [0, 1, 2, 3, 4, 5, 6, 7] (ls2 := [(0, .ref 322), (1, .ref 1), (2, .int x2), (3, .int x3), (4, .int x4), (5, .int x5), (6, .long 1), (8, .int 0)]) rfl ?_
        exact lo_O_weighFromBack_45 g hk_15 (fun x2 x3 x4 x5 I L q => ih x2 x3 x4 x5 I L q) fu _ _ _ _ _ _ _ _ q
def LO_O_weighFromBack_15 (fu : Nat) : Nat → Int32 → Int32 → Int32 → (Nat → Nat → Int32) → (Nat → Nat → Int64) → Option (Unit × (Nat → Nat → Int32) × (Nat → Nat → Int64))
  | 0, _, _, _, _, _ => none
  | n + 1, x2, x3, x4, I, L => if x4 < 0 then (some ((), I, L)) else (LO_O_weighFromBack_23 fu (fun x2 x3 x4 I L => LO_O_weighFromBack_15 fu n x2 x3 x4 I L) fu x2 x3 x4 0 I L)
set_option maxHeartbeats 20000000 in
theorem lo_O_weighFromBack_15 {d fu n0 s0 : Nat} {X : Nat × (Nat → Int32)} {Q : PQ} {res : Unit × (Nat → Nat → Int32) × (Nat → Nat → Int64)} (g : Q none (HS res.2.1 res.2.2 X)) : ∀ (n : Nat) (x2 : Int32) (x3 : Int32) (x4 : Int32) (I : Nat → Nat → Int32) (L : Nat → Nat → Int64), LO_O_weighFromBack_15 fu n x2 x3 x4 I L = some res → Wp (Ev (d + 4)) cd_O_weighFromBack (0, 0) none n0 s0 Q 15 [(0, .ref 322), (1, .ref 1), (2, .int x2), (3, .int x3), (4, .int x4)] [] (HS I L X) := by
  intro n
  induction n with
  | zero => intro _ _ _ _ _ q; cases q
  | succ n ih =>
    intro x2 x3 x4 I L q
    unfold LO_O_weighFromBack_15 at q
    refine w_iload (Ev.cm _) rfl rfl ?_
    refine w_if_lt (Ev.cm _) rfl (fun c1 => ?_) (fun c1 => ?_)
    · have c1 : x4 < 0 := c1
      rw [if_pos c1] at q
      refine w_return (Ev.cm _) rfl rfl rf0 ?_
      cases q
      exact g
    · have c1 : ¬ (x4 < 0) := c1
      rw [if_neg c1] at q
      refine w_iconst (Ev.cm _) rfl ?_
      refine w_istore (ls2 := [(0, .ref 322), (1, .ref 1), (2, .int x2), (3, .int x3), (4, .int x4), (5, .int 0)]) (Ev.cm _) rfl rfl ?_
      show Wp _ _ _ _ _ _ _ 23 [(0, .ref 322), (1, .ref 1), (2, .int x2), (3, .int x3), (4, .int x4), (5, .int 0)] [] (HS I L X)
      refine Wp.sub [0, 1, 2, 3, 4, 5] (ls2 := [(0, .ref 322), (1, .ref 1), (2, .int x2), (3, .int x3), (4, .int x4), (5, .int 0)]) rfl ?_
      exact lo_O_weighFromBack_23 g (fun x2 x3 x4 I L q => ih x2 x3 x4 I L q) fu _ _ _ _ _ _ q
def FO_O_weighFromBack (fu : Nat) (p1 : Int32) (I : Nat → Nat → Int32) (L : Nat → Nat → Int64) : Option (Unit × (Nat → Nat → Int32) × (Nat → Nat → Int64)) := LO_O_weighFromBack_15 fu fu p1 ((F_J_min I (I 1 11) 6) - 1) ((F_J_min I (I 1 11) 6) - 1) I L
set_option maxHeartbeats 20000000 in
theorem eo_O_weighFromBack {d fu : Nat} {p1 : Int32} {I : Nat → Nat → Int32} {L : Nat → Nat → Int64} {X : Nat × (Nat → Int32)} {Q : PQ} {res : Unit × (Nat → Nat → Int32) × (Nat → Nat → Int64)} (g : Q none (HS res.2.1 res.2.2 X)) (q : FO_O_weighFromBack fu p1 I L = some res) : Ev (d + 5) m_O_weighFromBack [.ref 322, .ref 1, .int p1] (HS I L X) Q := by
  unfold FO_O_weighFromBack at q
  refine ev_start (d := d + 4) rfl rfl rfl (Nat.le_of_ble_eq_true rfl) ?_
  show Wp (Ev (d + 4)) cd_O_weighFromBack (0, 0) none _ _ Q 0 [(0, .ref 322), (1, .ref 1), (2, .int p1)] [] (HS I L X)
  refine w_aload_n (Ev.cm _) rfl rfl ?_
  refine w_getI (Ev.cm _) rfl (Nat.le_of_ble_eq_true rfl) rfl ?_
  refine w_bipush (Ev.cm _) rfl ?_
  refine w_cstat (as := [.int (I 1 11), .int 6]) (st := []) (Ev.cm _) rfl rfl rfl (Nat.le_of_ble_eq_true rfl) (Nat.le_of_ble_eq_true rfl) (e_J_min ?_)
  show Wp _ _ _ _ _ _ _ 9 [(0, .ref 322), (1, .ref 1), (2, .int p1)] [.int (F_J_min I (I 1 11) 6)] (HS I L X)
  refine w_iconst (Ev.cm _) rfl ?_
  refine w_isub (Ev.cm _) rfl ?_
  refine w_istore_n (ls2 := [(0, .ref 322), (1, .ref 1), (2, .int p1), (3, .int ((F_J_min I (I 1 11) 6) - 1))]) (Ev.cm _) rfl rfl ?_
  refine w_iload_n (Ev.cm _) rfl rfl ?_
  refine w_istore (ls2 := [(0, .ref 322), (1, .ref 1), (2, .int p1), (3, .int ((F_J_min I (I 1 11) 6) - 1)), (4, .int ((F_J_min I (I 1 11) 6) - 1))]) (Ev.cm _) rfl rfl ?_
  show Wp _ _ _ _ _ _ _ 15 [(0, .ref 322), (1, .ref 1), (2, .int p1), (3, .int ((F_J_min I (I 1 11) 6) - 1)), (4, .int ((F_J_min I (I 1 11) 6) - 1))] [] (HS I L X)
  refine Wp.sub [0, 1, 2, 3, 4] (ls2 := [(0, .ref 322), (1, .ref 1), (2, .int p1), (3, .int ((F_J_min I (I 1 11) 6) - 1)), (4, .int ((F_J_min I (I 1 11) 6) - 1))]) rfl ?_
  exact lo_O_weighFromBack_15 g fu _ _ _ _ _ q
def FO_R_readDeed (fu : Nat) (p0 : Int32) (I : Nat → Nat → Int32) (L : Nat → Nat → Int64) : Option (Int32 × (Nat → Nat → Int32) × (Nat → Nat → Int64)) := if p0 = 30 then ((FO_R_readSingle fu p0 60 I L).bind (fun u1 => let r1 := u1.1; let I1 := u1.2.1; let L1 := u1.2.2; if r1 = 0 ∨ r1 = 1 then (some (r1, I1, L1)) else none)) else (if p0 = 40 then ((FO_R_readPair fu p0 9 34 1 12 I L).bind (fun u3 => let r3 := u3.1; let I3 := u3.2.1; let L3 := u3.2.2; if r3 = 0 ∨ r3 = 1 then (some (r3, I3, L3)) else none)) else (if p0 = 41 then ((FO_R_readPair fu p0 3 55 0 5 I L).bind (fun u5 => let r5 := u5.1; let I5 := u5.2.1; let L5 := u5.2.2; if r5 = 0 ∨ r5 = 1 then (some (r5, I5, L5)) else none)) else (if p0 = 42 then ((FO_R_readPair fu p0 3 55 0 5 I L).bind (fun u7 => let r7 := u7.1; let I7 := u7.2.1; let L7 := u7.2.2; if r7 = 0 ∨ r7 = 1 then (some (r7, I7, L7)) else none)) else ((FO_R_readSingle fu p0 12 I L).bind (fun u9 => let r9 := u9.1; let I9 := u9.2.1; let L9 := u9.2.2; if r9 = 0 ∨ r9 = 1 then (some (r9, I9, L9)) else none)))))
set_option maxHeartbeats 20000000 in
theorem eo_R_readDeed {d fu : Nat} {p0 : Int32} {I : Nat → Nat → Int32} {L : Nat → Nat → Int64} {X : Nat × (Nat → Int32)} {Q : PQ} {res : Int32 × (Nat → Nat → Int32) × (Nat → Nat → Int64)} (g : Q (some (.int res.1)) (HS res.2.1 res.2.2 X)) (q : FO_R_readDeed fu p0 I L = some res) : Ev (d + 5) m_R_readDeed [.ref 307, .int p0] (HS I L X) Q := by
  unfold FO_R_readDeed at q
  refine ev_start (d := d + 4) rfl rfl rfl (Nat.le_of_ble_eq_true rfl) ?_
  show Wp (Ev (d + 4)) cd_R_readDeed (0, 0) (some .boolean) _ _ Q 0 [(0, .ref 307), (1, .int p0)] [] (HS I L X)
  refine w_iload_n (Ev.cm _) rfl rfl ?_
  refine w_lsw (Ev.cm _) rfl ?_
  refine ⟨fun c1 => ?_, fun c1_0 => ⟨fun c1 => ?_, fun c1_1 => ⟨fun c1 => ?_, fun c1_2 => ⟨fun c1 => ?_, fun c1_3 => ?_⟩⟩⟩⟩
  · have c1 : p0 = 30 := sw_v c1 (by decide)
    rw [if_pos c1] at q
    show Wp _ _ _ _ _ _ _ 68 [(0, .ref 307), (1, .int p0)] [] (HS I L X)
    refine w_aload_n (Ev.cm _) rfl rfl ?_
    refine w_iload_n (Ev.cm _) rfl rfl ?_
    refine w_bipush (Ev.cm _) rfl ?_
    obtain ⟨⟨r1, I1, L1⟩, e1, q⟩ := obs q
    dsimp only at q
    refine w_cvirt (o := 307) (as := [.int p0, .int 60]) (st := []) (Ev.cm _) rfl rfl rfl (Nat.le_of_ble_eq_true rfl) (Nat.le_of_ble_eq_true rfl) rfl (Nat.le_of_ble_eq_true rfl) (eo_R_readSingle (g := ?_) e1)
    show Wp _ _ _ _ _ _ _ 75 [(0, .ref 307), (1, .int p0)] [.int r1] (HS I1 L1 X)
    obtain ⟨b2, q⟩ := ois q
    refine w_ireturn (Ev.cm _) rfl (show rok (some .boolean) _ from b2) rf0 ?_
    cases q
    exact g
  · have c1_0 : ¬ p0 = 30 := sw_w c1_0 (by decide)
    have c1 : p0 = 40 := sw_v c1 (by decide)
    rw [if_neg c1_0, if_pos c1] at q
    show Wp _ _ _ _ _ _ _ 44 [(0, .ref 307), (1, .int p0)] [] (HS I L X)
    refine w_aload_n (Ev.cm _) rfl rfl ?_
    refine w_iload_n (Ev.cm _) rfl rfl ?_
    refine w_bipush (Ev.cm _) rfl ?_
    refine w_bipush (Ev.cm _) rfl ?_
    refine w_iconst (Ev.cm _) rfl ?_
    refine w_bipush (Ev.cm _) rfl ?_
    obtain ⟨⟨r3, I3, L3⟩, e3, q⟩ := obs q
    dsimp only at q
    refine w_cvirt (o := 307) (as := [.int p0, .int 9, .int 34, .int 1, .int 12]) (st := []) (Ev.cm _) rfl rfl rfl (Nat.le_of_ble_eq_true rfl) (Nat.le_of_ble_eq_true rfl) rfl (Nat.le_of_ble_eq_true rfl) (eo_R_readPair (g := ?_) e3)
    show Wp _ _ _ _ _ _ _ 56 [(0, .ref 307), (1, .int p0)] [.int r3] (HS I3 L3 X)
    obtain ⟨b4, q⟩ := ois q
    refine w_ireturn (Ev.cm _) rfl (show rok (some .boolean) _ from b4) rf0 ?_
    cases q
    exact g
  · have c1_0 : ¬ p0 = 30 := sw_w c1_0 (by decide)
    have c1_1 : ¬ p0 = 40 := sw_w c1_1 (by decide)
    have c1 : p0 = 41 := sw_v c1 (by decide)
    rw [if_neg c1_0, if_neg c1_1, if_pos c1] at q
    show Wp _ _ _ _ _ _ _ 57 [(0, .ref 307), (1, .int p0)] [] (HS I L X)
    refine w_aload_n (Ev.cm _) rfl rfl ?_
    refine w_iload_n (Ev.cm _) rfl rfl ?_
    refine w_iconst (Ev.cm _) rfl ?_
    refine w_bipush (Ev.cm _) rfl ?_
    refine w_iconst (Ev.cm _) rfl ?_
    refine w_iconst (Ev.cm _) rfl ?_
    obtain ⟨⟨r5, I5, L5⟩, e5, q⟩ := obs q
    dsimp only at q
    refine w_cvirt (o := 307) (as := [.int p0, .int 3, .int 55, .int 0, .int 5]) (st := []) (Ev.cm _) rfl rfl rfl (Nat.le_of_ble_eq_true rfl) (Nat.le_of_ble_eq_true rfl) rfl (Nat.le_of_ble_eq_true rfl) (eo_R_readPair (g := ?_) e5)
    show Wp _ _ _ _ _ _ _ 67 [(0, .ref 307), (1, .int p0)] [.int r5] (HS I5 L5 X)
    obtain ⟨b6, q⟩ := ois q
    refine w_ireturn (Ev.cm _) rfl (show rok (some .boolean) _ from b6) rf0 ?_
    cases q
    exact g
  · have c1_0 : ¬ p0 = 30 := sw_w c1_0 (by decide)
    have c1_1 : ¬ p0 = 40 := sw_w c1_1 (by decide)
    have c1_2 : ¬ p0 = 41 := sw_w c1_2 (by decide)
    have c1 : p0 = 42 := sw_v c1 (by decide)
    rw [if_neg c1_0, if_neg c1_1, if_neg c1_2, if_pos c1] at q
    show Wp _ _ _ _ _ _ _ 57 [(0, .ref 307), (1, .int p0)] [] (HS I L X)
    refine w_aload_n (Ev.cm _) rfl rfl ?_
    refine w_iload_n (Ev.cm _) rfl rfl ?_
    refine w_iconst (Ev.cm _) rfl ?_
    refine w_bipush (Ev.cm _) rfl ?_
    refine w_iconst (Ev.cm _) rfl ?_
    refine w_iconst (Ev.cm _) rfl ?_
    obtain ⟨⟨r7, I7, L7⟩, e7, q⟩ := obs q
    dsimp only at q
    refine w_cvirt (o := 307) (as := [.int p0, .int 3, .int 55, .int 0, .int 5]) (st := []) (Ev.cm _) rfl rfl rfl (Nat.le_of_ble_eq_true rfl) (Nat.le_of_ble_eq_true rfl) rfl (Nat.le_of_ble_eq_true rfl) (eo_R_readPair (g := ?_) e7)
    show Wp _ _ _ _ _ _ _ 67 [(0, .ref 307), (1, .int p0)] [.int r7] (HS I7 L7 X)
    obtain ⟨b8, q⟩ := ois q
    refine w_ireturn (Ev.cm _) rfl (show rok (some .boolean) _ from b8) rf0 ?_
    cases q
    exact g
  · have c1_0 : ¬ p0 = 30 := sw_w c1_0 (by decide)
    have c1_1 : ¬ p0 = 40 := sw_w c1_1 (by decide)
    have c1_2 : ¬ p0 = 41 := sw_w c1_2 (by decide)
    have c1_3 : ¬ p0 = 42 := sw_w c1_3 (by decide)
    rw [if_neg c1_0, if_neg c1_1, if_neg c1_2, if_neg c1_3] at q
    show Wp _ _ _ _ _ _ _ 76 [(0, .ref 307), (1, .int p0)] [] (HS I L X)
    refine w_aload_n (Ev.cm _) rfl rfl ?_
    refine w_iload_n (Ev.cm _) rfl rfl ?_
    refine w_bipush (Ev.cm _) rfl ?_
    obtain ⟨⟨r9, I9, L9⟩, e9, q⟩ := obs q
    dsimp only at q
    refine w_cvirt (o := 307) (as := [.int p0, .int 12]) (st := []) (Ev.cm _) rfl rfl rfl (Nat.le_of_ble_eq_true rfl) (Nat.le_of_ble_eq_true rfl) rfl (Nat.le_of_ble_eq_true rfl) (eo_R_readSingle (g := ?_) e9)
    show Wp _ _ _ _ _ _ _ 83 [(0, .ref 307), (1, .int p0)] [.int r9] (HS I9 L9 X)
    obtain ⟨b10, q⟩ := ois q
    refine w_ireturn (Ev.cm _) rfl (show rok (some .boolean) _ from b10) rf0 ?_
    cases q
    exact g
def FO_X_mood (fu : Nat) (p0 : Int32) (p1 : Int32) (p2 : Int32) (I : Nat → Nat → Int32) (L : Nat → Nat → Int64) : Option (Int64 × (Nat → Nat → Int32) × (Nat → Nat → Int64)) := if (0 : Int32) ≤ p0 ∧ p0 ≤ ((I 1 11) - 1) then (if 0 ≤ p1 ∧ p1 ≤ 2 then ((FO_O_weighFromFront fu  I L).bind (fun u1 => let r1 := u1.1; let I1 := u1.2.1; let L1 := u1.2.2; (FO_O_weighFromBack fu 0 I1 L1).bind (fun u2 => let r2 := u2.1; let I2 := u2.2.1; let L2 := u2.2.2; (FO_O_through fu p0 p1 I2 L2).bind (fun u3 => let r3 := u3.1; let I3 := u3.2.1; let L3 := u3.2.2; (FO_O_all fu (I3 1 11) I3 L3).bind (fun u4 => let r4 := u4.1; let I4 := u4.2.1; let L4 := u4.2.2; (FO_X_part fu r3 r4 p2 I4 L4).bind (fun u5 => let r5 := u5.1; let I5 := u5.2.1; let L5 := u5.2.2; some (r5, I5, L5))))))) else (some ((-1), I, L))) else (some ((-1), I, L))
set_option maxHeartbeats 20000000 in
theorem eo_X_mood {d fu : Nat} {p0 : Int32} {p1 : Int32} {p2 : Int32} {I : Nat → Nat → Int32} {L : Nat → Nat → Int64} {X : Nat × (Nat → Int32)} {Q : PQ} {res : Int64 × (Nat → Nat → Int32) × (Nat → Nat → Int64)} (g : Q (some (.long res.1)) (HS res.2.1 res.2.2 X)) (q : FO_X_mood fu p0 p1 p2 I L = some res) : Ev (d + 6) m_X_mood [.ref 0, .int p0, .int p1, .int p2] (HS I L X) Q := by
  unfold FO_X_mood at q
  refine ev_start (d := d + 5) rfl rfl rfl (Nat.le_of_ble_eq_true rfl) ?_
  show Wp (Ev (d + 5)) cd_X_mood (0, 0) (some .long) _ _ Q 0 [(0, .ref 0), (1, .int p0), (2, .int p1), (3, .int p2)] [] (HS I L X)
  refine w_iload_n (Ev.cm _) rfl rfl ?_
  refine w_iconst (Ev.cm _) rfl ?_
  refine w_aload_n (Ev.cm _) rfl rfl ?_
  refine w_getR (q := 1) (Ev.cm _) rfl (Nat.le_of_ble_eq_true rfl) rfl rfl ?_
  refine w_getI (Ev.cm _) rfl (Nat.le_of_ble_eq_true rfl) rfl ?_
  refine w_iconst (Ev.cm _) rfl ?_
  refine w_isub (Ev.cm _) rfl ?_
  refine w_cstat (as := [.int p0, .int 0, .int ((I 1 11) - 1)]) (st := []) (Ev.cm _) rfl rfl rfl (Nat.le_of_ble_eq_true rfl) (Nat.le_of_ble_eq_true rfl) (x_within ?_)
  show Wp _ _ _ _ _ _ _ 14 [(0, .ref 0), (1, .int p0), (2, .int p1), (3, .int p2)] [.int (bI ((0 : Int32) ≤ p0 ∧ p0 ≤ ((I 1 11) - 1)))] (HS I L X)
  refine w_if_eq (Ev.cm _) rfl (fun c1 => ?_) (fun c1 => ?_)
  · have c1 : ¬ ((0 : Int32) ≤ p0 ∧ p0 ≤ ((I 1 11) - 1)) := bI_0.mp c1
    rw [if_neg c1] at q
    refine w_ldc2_w (Ev.cm _) rfl ?_
    refine w_lreturn (Ev.cm _) rfl rfl rf0 ?_
    cases q
    exact g
  · have c1 : (0 : Int32) ≤ p0 ∧ p0 ≤ ((I 1 11) - 1) := bI_1.mp c1
    rw [if_pos c1] at q
    refine w_iload_n (Ev.cm _) rfl rfl ?_
    refine w_cstat (as := [.int p1]) (st := []) (Ev.cm _) rfl rfl rfl (Nat.le_of_ble_eq_true rfl) (Nat.le_of_ble_eq_true rfl) (x_isMood ?_)
    show Wp _ _ _ _ _ _ _ 21 [(0, .ref 0), (1, .int p0), (2, .int p1), (3, .int p2)] [.int (bI (0 ≤ p1 ∧ p1 ≤ 2))] (HS I L X)
    refine w_if_ne (Ev.cm _) rfl (fun c2 => ?_) (fun c2 => ?_)
    · have c2 : 0 ≤ p1 ∧ p1 ≤ 2 := bI_1.mp c2
      rw [if_pos c2] at q
      refine w_aload_n (Ev.cm _) rfl rfl ?_
      refine w_getR (q := 322) (Ev.cm _) rfl (Nat.le_of_ble_eq_true rfl) rfl rfl ?_
      refine w_aload_n (Ev.cm _) rfl rfl ?_
      refine w_getR (q := 1) (Ev.cm _) rfl (Nat.le_of_ble_eq_true rfl) rfl rfl ?_
      obtain ⟨⟨r1, I1, L1⟩, e1, q⟩ := obs q
      dsimp only at q
      refine w_cvirt (o := 322) (as := [.ref 1]) (st := []) (Ev.cm _) rfl rfl rfl (Nat.le_of_ble_eq_true rfl) (Nat.le_of_ble_eq_true rfl) rfl (Nat.le_of_ble_eq_true rfl) (eo_O_weighFromFront (g := ?_) e1)
      show Wp _ _ _ _ _ _ _ 39 [(0, .ref 0), (1, .int p0), (2, .int p1), (3, .int p2)] [] (HS I1 L1 X)
      refine w_aload_n (Ev.cm _) rfl rfl ?_
      refine w_getR (q := 322) (Ev.cm _) rfl (Nat.le_of_ble_eq_true rfl) rfl rfl ?_
      refine w_aload_n (Ev.cm _) rfl rfl ?_
      refine w_getR (q := 1) (Ev.cm _) rfl (Nat.le_of_ble_eq_true rfl) rfl rfl ?_
      refine w_iconst (Ev.cm _) rfl ?_
      obtain ⟨⟨r2, I2, L2⟩, e2, q⟩ := obs q
      dsimp only at q
      refine w_cvirt (o := 322) (as := [.ref 1, .int 0]) (st := []) (Ev.cm _) rfl rfl rfl (Nat.le_of_ble_eq_true rfl) (Nat.le_of_ble_eq_true rfl) rfl (Nat.le_of_ble_eq_true rfl) (eo_O_weighFromBack (g := ?_) e2)
      show Wp _ _ _ _ _ _ _ 51 [(0, .ref 0), (1, .int p0), (2, .int p1), (3, .int p2)] [] (HS I2 L2 X)
      refine w_aload_n (Ev.cm _) rfl rfl ?_
      refine w_getR (q := 322) (Ev.cm _) rfl (Nat.le_of_ble_eq_true rfl) rfl rfl ?_
      refine w_iload_n (Ev.cm _) rfl rfl ?_
      refine w_iload_n (Ev.cm _) rfl rfl ?_
      obtain ⟨⟨r3, I3, L3⟩, e3, q⟩ := obs q
      dsimp only at q
      refine w_cvirt (o := 322) (as := [.int p0, .int p1]) (st := []) (Ev.cm _) rfl rfl rfl (Nat.le_of_ble_eq_true rfl) (Nat.le_of_ble_eq_true rfl) rfl (Nat.le_of_ble_eq_true rfl) (eo_O_through (g := ?_) e3)
      show Wp _ _ _ _ _ _ _ 60 [(0, .ref 0), (1, .int p0), (2, .int p1), (3, .int p2)] [.long r3] (HS I3 L3 X)
      refine w_aload_n (Ev.cm _) rfl rfl ?_
      refine w_getR (q := 322) (Ev.cm _) rfl (Nat.le_of_ble_eq_true rfl) rfl rfl ?_
      refine w_aload_n (Ev.cm _) rfl rfl ?_
      refine w_getR (q := 1) (Ev.cm _) rfl (Nat.le_of_ble_eq_true rfl) rfl rfl ?_
      refine w_getI (Ev.cm _) rfl (Nat.le_of_ble_eq_true rfl) rfl ?_
      obtain ⟨⟨r4, I4, L4⟩, e4, q⟩ := obs q
      dsimp only at q
      refine w_cvirt (o := 322) (as := [.int (I3 1 11)]) (st := [.long r3]) (Ev.cm _) rfl rfl rfl (Nat.le_of_ble_eq_true rfl) (Nat.le_of_ble_eq_true rfl) rfl (Nat.le_of_ble_eq_true rfl) (eo_O_all (g := ?_) e4)
      show Wp _ _ _ _ _ _ _ 74 [(0, .ref 0), (1, .int p0), (2, .int p1), (3, .int p2)] [.long r4, .long r3] (HS I4 L4 X)
      refine w_iload_n (Ev.cm _) rfl rfl ?_
      obtain ⟨⟨r5, I5, L5⟩, e5, q⟩ := obs q
      dsimp only at q
      refine w_cstat (as := [.long r3, .long r4, .int p2]) (st := []) (Ev.cm _) rfl rfl rfl (Nat.le_of_ble_eq_true rfl) (Nat.le_of_ble_eq_true rfl) (eo_X_part (g := ?_) e5)
      show Wp _ _ _ _ _ _ _ 78 [(0, .ref 0), (1, .int p0), (2, .int p1), (3, .int p2)] [.long r5] (HS I5 L5 X)
      refine w_lreturn (Ev.cm _) rfl rfl rf0 ?_
      cases q
      exact g
    · have c2 : ¬ (0 ≤ p1 ∧ p1 ≤ 2) := bI_0.mp c2
      rw [if_neg c2] at q
      refine w_ldc2_w (Ev.cm _) rfl ?_
      refine w_lreturn (Ev.cm _) rfl rfl rf0 ?_
      cases q
      exact g
def LO_X_moods_46 (fu : Nat) : Nat → Int32 → Int32 → Int32 → (Nat → Nat → Int32) → (Nat → Nat → Int64) → Option (Int32 × (Nat → Nat → Int32) × (Nat → Nat → Int64))
  | 0, _, _, _, _, _ => none
  | n + 1, x1, x2, x3, I, L => if 3 ≤ x3 then (some (x2, I, L)) else ((FO_O_through fu x1 x3 I L).bind (fun u1 => let r1 := u1.1; let I1 := u1.2.1; let L1 := u1.2.2; if lg_cmp r1 0 ≤ 0 then (LO_X_moods_46 fu n x1 x2 (x3 + 1) I1 L1) else (LO_X_moods_46 fu n x1 (x2 ||| ((1 : Int32) <<< (x3 &&& 31))) (x3 + 1) I1 L1)))
set_option maxHeartbeats 20000000 in
theorem lo_X_moods_46 {d fu n0 s0 : Nat} {X : Nat × (Nat → Int32)} {Q : PQ} {res : Int32 × (Nat → Nat → Int32) × (Nat → Nat → Int64)} (g : Q (some (.int res.1)) (HS res.2.1 res.2.2 X)) : ∀ (n : Nat) (x1 : Int32) (x2 : Int32) (x3 : Int32) (I : Nat → Nat → Int32) (L : Nat → Nat → Int64), LO_X_moods_46 fu n x1 x2 x3 I L = some res → Wp (Ev (d + 5)) cd_X_moods (0, 0) (some .int) n0 s0 Q 46 [(0, .ref 0), (1, .int x1), (2, .int x2), (3, .int x3)] [] (HS I L X) := by
  intro n
  induction n with
  | zero => intro _ _ _ _ _ q; cases q
  | succ n ih =>
    intro x1 x2 x3 I L q
    unfold LO_X_moods_46 at q
    refine w_iload_n (Ev.cm _) rfl rfl ?_
    refine w_iconst (Ev.cm _) rfl ?_
    refine w_icmp_ge (Ev.cm _) rfl (fun c1 => ?_) (fun c1 => ?_)
    · have c1 : 3 ≤ x3 := c1
      rw [if_pos c1] at q
      refine w_iload_n (Ev.cm _) rfl rfl ?_
      refine w_ireturn (Ev.cm _) rfl trivial rf0 ?_
      cases q
      exact g
    · have c1 : ¬ (3 ≤ x3) := c1
      rw [if_neg c1] at q
      refine w_aload_n (Ev.cm _) rfl rfl ?_
      refine w_getR (q := 322) (Ev.cm _) rfl (Nat.le_of_ble_eq_true rfl) rfl rfl ?_
      refine w_iload_n (Ev.cm _) rfl rfl ?_
      refine w_iload_n (Ev.cm _) rfl rfl ?_
      obtain ⟨⟨r1, I1, L1⟩, e1, q⟩ := obs q
      dsimp only at q
      refine w_cvirt (o := 322) (as := [.int x1, .int x3]) (st := []) (Ev.cm _) rfl rfl rfl (Nat.le_of_ble_eq_true rfl) (Nat.le_of_ble_eq_true rfl) rfl (Nat.le_of_ble_eq_true rfl) (eo_O_through (g := ?_) e1)
      show Wp _ _ _ _ _ _ _ 60 [(0, .ref 0), (1, .int x1), (2, .int x2), (3, .int x3)] [.long r1] (HS I1 L1 X)
      refine w_lconst (Ev.cm _) rfl ?_
      refine w_lcmp (Ev.cm _) rfl ?_
      refine w_if_le (Ev.cm _) rfl (fun c2 => ?_) (fun c2 => ?_)
      · have c2 : lg_cmp r1 0 ≤ 0 := c2
        rw [if_pos c2] at q
        refine w_iinc (ls2 := [(0, .ref 0), (1, .int x1), (2, .int x2), (3, .int (x3 + 1))]) (Ev.cm _) rfl rfl rfl ?_
        refine w_goto (Ev.cm _) rfl ?_
        show Wp _ _ _ _ _ _ _ 46 [(0, .ref 0), (1, .int x1), (2, .int x2), (3, .int (x3 + 1))] [] (HS I1 L1 X)
        refine Wp.sub [0, 1, 2, 3] (ls2 := [(0, .ref 0), (1, .int x1), (2, .int x2), (3, .int (x3 + 1))]) rfl ?_
        exact ih _ _ _ _ _ q
      · have c2 : ¬ (lg_cmp r1 0 ≤ 0) := c2
        rw [if_neg c2] at q
        refine w_iload_n (Ev.cm _) rfl rfl ?_
        refine w_iconst (Ev.cm _) rfl ?_
        refine w_iload_n (Ev.cm _) rfl rfl ?_
        refine w_ishl (Ev.cm _) rfl ?_
        refine w_ior (Ev.cm _) rfl ?_
        refine w_istore_n (ls2 := [(0, .ref 0), (1, .int x1), (2, .int (x2 ||| ((1 : Int32) <<< (x3 &&& 31)))), (3, .int x3)]) (Ev.cm _) rfl rfl ?_
        refine w_iinc (ls2 := [(0, .ref 0), (1, .int x1), (2, .int (x2 ||| ((1 : Int32) <<< (x3 &&& 31)))), (3, .int (x3 + 1))]) (Ev.cm _) rfl rfl rfl ?_
        refine w_goto (Ev.cm _) rfl ?_
        show Wp _ _ _ _ _ _ _ 46 [(0, .ref 0), (1, .int x1), (2, .int (x2 ||| ((1 : Int32) <<< (x3 &&& 31)))), (3, .int (x3 + 1))] [] (HS I1 L1 X)
        refine Wp.sub [0, 1, 2, 3] (ls2 := [(0, .ref 0), (1, .int x1), (2, .int (x2 ||| ((1 : Int32) <<< (x3 &&& 31)))), (3, .int (x3 + 1))]) rfl ?_
        exact ih _ _ _ _ _ q
def FO_X_moods (fu : Nat) (p0 : Int32) (I : Nat → Nat → Int32) (L : Nat → Nat → Int64) : Option (Int32 × (Nat → Nat → Int32) × (Nat → Nat → Int64)) := if (0 : Int32) ≤ p0 ∧ p0 ≤ ((I 1 11) - 1) then ((FO_O_weighFromFront fu  I L).bind (fun u1 => let r1 := u1.1; let I1 := u1.2.1; let L1 := u1.2.2; (FO_O_weighFromBack fu 0 I1 L1).bind (fun u2 => let r2 := u2.1; let I2 := u2.2.1; let L2 := u2.2.2; LO_X_moods_46 fu fu p0 0 0 I2 L2))) else (some ((-1), I, L))
set_option maxHeartbeats 20000000 in
theorem eo_X_moods {d fu : Nat} {p0 : Int32} {I : Nat → Nat → Int32} {L : Nat → Nat → Int64} {X : Nat × (Nat → Int32)} {Q : PQ} {res : Int32 × (Nat → Nat → Int32) × (Nat → Nat → Int64)} (g : Q (some (.int res.1)) (HS res.2.1 res.2.2 X)) (q : FO_X_moods fu p0 I L = some res) : Ev (d + 6) m_X_moods [.ref 0, .int p0] (HS I L X) Q := by
  unfold FO_X_moods at q
  refine ev_start (d := d + 5) rfl rfl rfl (Nat.le_of_ble_eq_true rfl) ?_
  show Wp (Ev (d + 5)) cd_X_moods (0, 0) (some .int) _ _ Q 0 [(0, .ref 0), (1, .int p0)] [] (HS I L X)
  refine w_iload_n (Ev.cm _) rfl rfl ?_
  refine w_iconst (Ev.cm _) rfl ?_
  refine w_aload_n (Ev.cm _) rfl rfl ?_
  refine w_getR (q := 1) (Ev.cm _) rfl (Nat.le_of_ble_eq_true rfl) rfl rfl ?_
  refine w_getI (Ev.cm _) rfl (Nat.le_of_ble_eq_true rfl) rfl ?_
  refine w_iconst (Ev.cm _) rfl ?_
  refine w_isub (Ev.cm _) rfl ?_
  refine w_cstat (as := [.int p0, .int 0, .int ((I 1 11) - 1)]) (st := []) (Ev.cm _) rfl rfl rfl (Nat.le_of_ble_eq_true rfl) (Nat.le_of_ble_eq_true rfl) (x_within ?_)
  show Wp _ _ _ _ _ _ _ 14 [(0, .ref 0), (1, .int p0)] [.int (bI ((0 : Int32) ≤ p0 ∧ p0 ≤ ((I 1 11) - 1)))] (HS I L X)
  refine w_if_ne (Ev.cm _) rfl (fun c1 => ?_) (fun c1 => ?_)
  · have c1 : (0 : Int32) ≤ p0 ∧ p0 ≤ ((I 1 11) - 1) := bI_1.mp c1
    rw [if_pos c1] at q
    refine w_aload_n (Ev.cm _) rfl rfl ?_
    refine w_getR (q := 322) (Ev.cm _) rfl (Nat.le_of_ble_eq_true rfl) rfl rfl ?_
    refine w_aload_n (Ev.cm _) rfl rfl ?_
    refine w_getR (q := 1) (Ev.cm _) rfl (Nat.le_of_ble_eq_true rfl) rfl rfl ?_
    obtain ⟨⟨r1, I1, L1⟩, e1, q⟩ := obs q
    dsimp only at q
    refine w_cvirt (o := 322) (as := [.ref 1]) (st := []) (Ev.cm _) rfl rfl rfl (Nat.le_of_ble_eq_true rfl) (Nat.le_of_ble_eq_true rfl) rfl (Nat.le_of_ble_eq_true rfl) (eo_O_weighFromFront (g := ?_) e1)
    show Wp _ _ _ _ _ _ _ 30 [(0, .ref 0), (1, .int p0)] [] (HS I1 L1 X)
    refine w_aload_n (Ev.cm _) rfl rfl ?_
    refine w_getR (q := 322) (Ev.cm _) rfl (Nat.le_of_ble_eq_true rfl) rfl rfl ?_
    refine w_aload_n (Ev.cm _) rfl rfl ?_
    refine w_getR (q := 1) (Ev.cm _) rfl (Nat.le_of_ble_eq_true rfl) rfl rfl ?_
    refine w_iconst (Ev.cm _) rfl ?_
    obtain ⟨⟨r2, I2, L2⟩, e2, q⟩ := obs q
    dsimp only at q
    refine w_cvirt (o := 322) (as := [.ref 1, .int 0]) (st := []) (Ev.cm _) rfl rfl rfl (Nat.le_of_ble_eq_true rfl) (Nat.le_of_ble_eq_true rfl) rfl (Nat.le_of_ble_eq_true rfl) (eo_O_weighFromBack (g := ?_) e2)
    show Wp _ _ _ _ _ _ _ 42 [(0, .ref 0), (1, .int p0)] [] (HS I2 L2 X)
    refine w_iconst (Ev.cm _) rfl ?_
    refine w_istore_n (ls2 := [(0, .ref 0), (1, .int p0), (2, .int 0)]) (Ev.cm _) rfl rfl ?_
    refine w_iconst (Ev.cm _) rfl ?_
    refine w_istore_n (ls2 := [(0, .ref 0), (1, .int p0), (2, .int 0), (3, .int 0)]) (Ev.cm _) rfl rfl ?_
    show Wp _ _ _ _ _ _ _ 46 [(0, .ref 0), (1, .int p0), (2, .int 0), (3, .int 0)] [] (HS I2 L2 X)
    refine Wp.sub [0, 1, 2, 3] (ls2 := [(0, .ref 0), (1, .int p0), (2, .int 0), (3, .int 0)]) rfl ?_
    exact lo_X_moods_46 g fu _ _ _ _ _ q
  · have c1 : ¬ ((0 : Int32) ≤ p0 ∧ p0 ≤ ((I 1 11) - 1)) := bI_0.mp c1
    rw [if_neg c1] at q
    refine w_iconst (Ev.cm _) rfl ?_
    refine w_ireturn (Ev.cm _) rfl trivial rf0 ?_
    cases q
    exact g
def LO_X_likeliest_35 (fu : Nat) : Nat → Int32 → Int32 → Int32 → (Nat → Nat → Int32) → (Nat → Nat → Int64) → Option (Int32 × (Nat → Nat → Int32) × (Nat → Nat → Int64))
  | 0, _, _, _, _, _ => none
  | n + 1, x1, x2, x3, I, L => if x1 < x3 then (some (x2, I, L)) else ((FO_O_heaviestBehind fu x3 x2 I L).bind (fun u1 => let r1 := u1.1; let I1 := u1.2.1; let L1 := u1.2.2; LO_X_likeliest_35 fu n x1 r1 (x3 + 1) I1 L1))
set_option maxHeartbeats 20000000 in
theorem lo_X_likeliest_35 {d fu n0 s0 : Nat} {X : Nat × (Nat → Int32)} {Q : PQ} {res : Int32 × (Nat → Nat → Int32) × (Nat → Nat → Int64)} (g : Q (some (.int res.1)) (HS res.2.1 res.2.2 X)) : ∀ (n : Nat) (x1 : Int32) (x2 : Int32) (x3 : Int32) (I : Nat → Nat → Int32) (L : Nat → Nat → Int64), LO_X_likeliest_35 fu n x1 x2 x3 I L = some res → Wp (Ev (d + 5)) cd_X_likeliest (0, 0) (some .int) n0 s0 Q 35 [(0, .ref 0), (1, .int x1), (2, .int x2), (3, .int x3)] [] (HS I L X) := by
  intro n
  induction n with
  | zero => intro _ _ _ _ _ q; cases q
  | succ n ih =>
    intro x1 x2 x3 I L q
    unfold LO_X_likeliest_35 at q
    refine w_iload_n (Ev.cm _) rfl rfl ?_
    refine w_iload_n (Ev.cm _) rfl rfl ?_
    refine w_icmp_gt (Ev.cm _) rfl (fun c1 => ?_) (fun c1 => ?_)
    · have c1 : x1 < x3 := c1
      rw [if_pos c1] at q
      refine w_iload_n (Ev.cm _) rfl rfl ?_
      refine w_ireturn (Ev.cm _) rfl trivial rf0 ?_
      cases q
      exact g
    · have c1 : ¬ (x1 < x3) := c1
      rw [if_neg c1] at q
      refine w_aload_n (Ev.cm _) rfl rfl ?_
      refine w_getR (q := 322) (Ev.cm _) rfl (Nat.le_of_ble_eq_true rfl) rfl rfl ?_
      refine w_aload_n (Ev.cm _) rfl rfl ?_
      refine w_getR (q := 1) (Ev.cm _) rfl (Nat.le_of_ble_eq_true rfl) rfl rfl ?_
      refine w_iload_n (Ev.cm _) rfl rfl ?_
      refine w_iload_n (Ev.cm _) rfl rfl ?_
      obtain ⟨⟨r1, I1, L1⟩, e1, q⟩ := obs q
      dsimp only at q
      refine w_cvirt (o := 322) (as := [.ref 1, .int x3, .int x2]) (st := []) (Ev.cm _) rfl rfl rfl (Nat.le_of_ble_eq_true rfl) (Nat.le_of_ble_eq_true rfl) rfl (Nat.le_of_ble_eq_true rfl) (eo_O_heaviestBehind (g := ?_) e1)
      show Wp _ _ _ _ _ _ _ 53 [(0, .ref 0), (1, .int x1), (2, .int x2), (3, .int x3)] [.int r1] (HS I1 L1 X)
      refine w_istore_n (ls2 := [(0, .ref 0), (1, .int x1), (2, .int r1), (3, .int x3)]) (Ev.cm _) rfl rfl ?_
      refine w_iinc (ls2 := [(0, .ref 0), (1, .int x1), (2, .int r1), (3, .int (x3 + 1))]) (Ev.cm _) rfl rfl rfl ?_
      refine w_goto (Ev.cm _) rfl ?_
      show Wp _ _ _ _ _ _ _ 35 [(0, .ref 0), (1, .int x1), (2, .int r1), (3, .int (x3 + 1))] [] (HS I1 L1 X)
      refine Wp.sub [0, 1, 2, 3] (ls2 := [(0, .ref 0), (1, .int x1), (2, .int r1), (3, .int (x3 + 1))]) rfl ?_
      exact ih _ _ _ _ _ q
def FO_X_likeliest (fu : Nat) (p0 : Int32) (I : Nat → Nat → Int32) (L : Nat → Nat → Int64) : Option (Int32 × (Nat → Nat → Int32) × (Nat → Nat → Int64)) := if (0 : Int32) ≤ p0 ∧ p0 ≤ ((I 1 11) - 1) then ((FO_O_weighFromBack fu 1 I L).bind (fun u1 => let r1 := u1.1; let I1 := u1.2.1; let L1 := u1.2.2; LO_X_likeliest_35 fu fu p0 (-1) 0 I1 L1)) else (some ((-1), I, L))
set_option maxHeartbeats 20000000 in
theorem eo_X_likeliest {d fu : Nat} {p0 : Int32} {I : Nat → Nat → Int32} {L : Nat → Nat → Int64} {X : Nat × (Nat → Int32)} {Q : PQ} {res : Int32 × (Nat → Nat → Int32) × (Nat → Nat → Int64)} (g : Q (some (.int res.1)) (HS res.2.1 res.2.2 X)) (q : FO_X_likeliest fu p0 I L = some res) : Ev (d + 6) m_X_likeliest [.ref 0, .int p0] (HS I L X) Q := by
  unfold FO_X_likeliest at q
  refine ev_start (d := d + 5) rfl rfl rfl (Nat.le_of_ble_eq_true rfl) ?_
  show Wp (Ev (d + 5)) cd_X_likeliest (0, 0) (some .int) _ _ Q 0 [(0, .ref 0), (1, .int p0)] [] (HS I L X)
  refine w_iload_n (Ev.cm _) rfl rfl ?_
  refine w_iconst (Ev.cm _) rfl ?_
  refine w_aload_n (Ev.cm _) rfl rfl ?_
  refine w_getR (q := 1) (Ev.cm _) rfl (Nat.le_of_ble_eq_true rfl) rfl rfl ?_
  refine w_getI (Ev.cm _) rfl (Nat.le_of_ble_eq_true rfl) rfl ?_
  refine w_iconst (Ev.cm _) rfl ?_
  refine w_isub (Ev.cm _) rfl ?_
  refine w_cstat (as := [.int p0, .int 0, .int ((I 1 11) - 1)]) (st := []) (Ev.cm _) rfl rfl rfl (Nat.le_of_ble_eq_true rfl) (Nat.le_of_ble_eq_true rfl) (x_within ?_)
  show Wp _ _ _ _ _ _ _ 14 [(0, .ref 0), (1, .int p0)] [.int (bI ((0 : Int32) ≤ p0 ∧ p0 ≤ ((I 1 11) - 1)))] (HS I L X)
  refine w_if_ne (Ev.cm _) rfl (fun c1 => ?_) (fun c1 => ?_)
  · have c1 : (0 : Int32) ≤ p0 ∧ p0 ≤ ((I 1 11) - 1) := bI_1.mp c1
    rw [if_pos c1] at q
    refine w_aload_n (Ev.cm _) rfl rfl ?_
    refine w_getR (q := 322) (Ev.cm _) rfl (Nat.le_of_ble_eq_true rfl) rfl rfl ?_
    refine w_aload_n (Ev.cm _) rfl rfl ?_
    refine w_getR (q := 1) (Ev.cm _) rfl (Nat.le_of_ble_eq_true rfl) rfl rfl ?_
    refine w_iconst (Ev.cm _) rfl ?_
    obtain ⟨⟨r1, I1, L1⟩, e1, q⟩ := obs q
    dsimp only at q
    refine w_cvirt (o := 322) (as := [.ref 1, .int 1]) (st := []) (Ev.cm _) rfl rfl rfl (Nat.le_of_ble_eq_true rfl) (Nat.le_of_ble_eq_true rfl) rfl (Nat.le_of_ble_eq_true rfl) (eo_O_weighFromBack (g := ?_) e1)
    show Wp _ _ _ _ _ _ _ 31 [(0, .ref 0), (1, .int p0)] [] (HS I1 L1 X)
    refine w_iconst (Ev.cm _) rfl ?_
    refine w_istore_n (ls2 := [(0, .ref 0), (1, .int p0), (2, .int (-1))]) (Ev.cm _) rfl rfl ?_
    refine w_iconst (Ev.cm _) rfl ?_
    refine w_istore_n (ls2 := [(0, .ref 0), (1, .int p0), (2, .int (-1)), (3, .int 0)]) (Ev.cm _) rfl rfl ?_
    show Wp _ _ _ _ _ _ _ 35 [(0, .ref 0), (1, .int p0), (2, .int (-1)), (3, .int 0)] [] (HS I1 L1 X)
    refine Wp.sub [0, 1, 2, 3] (ls2 := [(0, .ref 0), (1, .int p0), (2, .int (-1)), (3, .int 0)]) rfl ?_
    exact lo_X_likeliest_35 g fu _ _ _ _ _ q
  · have c1 : ¬ ((0 : Int32) ≤ p0 ∧ p0 ≤ ((I 1 11) - 1)) := bI_0.mp c1
    rw [if_neg c1] at q
    refine w_iconst (Ev.cm _) rfl ?_
    refine w_ireturn (Ev.cm _) rfl trivial rf0 ?_
    cases q
    exact g
