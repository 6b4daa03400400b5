/-! methods, read back by program -/
def LO_M_nextToken_168 (fu : Nat) : Nat → Int32 → (Nat → Nat → Int32) → (Nat → Nat → Int64) → Option (Unit × (Nat → Nat → Int32) × (Nat → Nat → Int64))
  | 0, _, _, _ => none
  | n + 1, x1, I, L => (FO_M_byteAt fu (I 331 7) I L).bind (fun u1 => let r1 := u1.1; let I1 := u1.2.1; let L1 := u1.2.2; (FO_M_isLetterByte fu r1 I1 L1).bind (fun u2 => let r2 := u2.1; let I2 := u2.2.1; let L2 := u2.2.2; if r2 = 0 then (some ((), I2, L2)) else (if lg_cmp ((L2 331 11) >>> ((48 : Int32).toInt64 &&& 63)) 0 = 0 then ((FO_M_byteAt fu (I2 331 7) I2 L2).bind (fun u3 => let r3 := u3.1; let I3 := u3.2.1; let L3 := u3.2.2; LO_M_nextToken_168 fu n x1 (sI I3 331 7 ((I3 331 7) + 1)) (sL L3 331 11 (((L2 331 11) <<< ((8 : Int32).toInt64 &&& 63)) ||| ((r3 : Int32).toInt64))))) else (LO_M_nextToken_168 fu n x1 (sI I2 331 7 ((I2 331 7) + 1)) (sL L2 331 11 1152921504606846976)))))
set_option maxHeartbeats 20000000 in
set_option maxRecDepth 20000 in
theorem lo_M_nextToken_168 {d fu n0 s0 : Nat} {X : Nat × (Nat → Int32)} {Q : PQ} {res : Unit × (Nat → Nat → Int32) × (Nat → Nat → Int64)}  (g : Q none (HS res.2.1 res.2.2 X)) : ∀ (n : Nat) (x1 : Int32) (I : Nat → Nat → Int32) (L : Nat → Nat → Int64), LO_M_nextToken_168 fu n x1 I L = some res → Wp (Ev (d + 1)) cd_M_nextToken (0, 0) none n0 s0 Q 168 [(0, .ref 331), (1, .int x1)] [] (HS I L X) := by
  intro n
  induction n with
  | zero => intro _ _ _ q; cases q
  | succ n ih =>
    intro x1 I L q
    unfold LO_M_nextToken_168 at q
    refine w_aload_n (Ev.cm _) rfl rfl ?_
    refine w_aload_n (Ev.cm _) rfl rfl ?_
    refine w_getI (Ev.cm _) rfl (Nat.le_of_ble_eq_true rfl) rfl ?_
    obtain ⟨⟨r1, I1, L1⟩, e1, q⟩ := obs q
    dsimp only at q
    refine w_cvirt (o := 331) (as := [.int (I 331 7)]) (st := []) (Ev.cm _) rfl rfl rfl (Nat.le_of_ble_eq_true rfl) (Nat.le_of_ble_eq_true rfl) rfl (Nat.le_of_ble_eq_true rfl) (eo_M_byteAt (g := ?_) e1)
    show Wp _ _ _ _ _ _ _ 176 [(0, .ref 331), (1, .int x1)] [.int r1] (HS I1 L1 X)
    obtain ⟨⟨r2, I2, L2⟩, e2, q⟩ := obs q
    dsimp only at q
    refine w_cstat (as := [.int r1]) (st := []) (Ev.cm _) rfl rfl rfl (Nat.le_of_ble_eq_true rfl) (Nat.le_of_ble_eq_true rfl) (eo_M_isLetterByte (g := ?_) e2)
    show Wp _ _ _ _ _ _ _ 179 [(0, .ref 331), (1, .int x1)] [.int r2] (HS I2 L2 X)
    refine w_if_eq (Ev.cm _) rfl (fun c1 => ?_) (fun c1 => ?_)
    · have c1 : r2 = 0 := c1
      rw [if_pos c1] at q
      refine w_return (Ev.cm _) rfl rfl rf0 ?_
      cases q
      exact g
    · have c1 : ¬ (r2 = 0) := c1
      rw [if_neg c1] at q
      refine w_aload_n (Ev.cm _) rfl rfl ?_
      refine w_aload_n (Ev.cm _) rfl rfl ?_
      refine w_getL (Ev.cm _) rfl (Nat.le_of_ble_eq_true rfl) rfl ?_
      refine w_bipush (Ev.cm _) rfl ?_
      refine w_lshr (Ev.cm _) rfl ?_
      refine w_lconst (Ev.cm _) rfl ?_
      refine w_lcmp (Ev.cm _) rfl ?_
      refine w_if_eq (Ev.cm _) rfl (fun c2 => ?_) (fun c2 => ?_)
      · have c2 : lg_cmp ((L2 331 11) >>> ((48 : Int32).toInt64 &&& 63)) 0 = 0 := c2
        rw [if_pos c2] at q
        refine w_aload_n (Ev.cm _) rfl rfl ?_
        refine w_getL (Ev.cm _) rfl (Nat.le_of_ble_eq_true rfl) rfl ?_
        refine w_bipush (Ev.cm _) rfl ?_
        refine w_lshl (Ev.cm _) rfl ?_
        refine w_aload_n (Ev.cm _) rfl rfl ?_
        refine w_aload_n (Ev.cm _) rfl rfl ?_
        refine w_getI (Ev.cm _) rfl (Nat.le_of_ble_eq_true rfl) rfl ?_
        obtain ⟨⟨r3, I3, L3⟩, e3, q⟩ := obs q
        dsimp only at q
        refine w_cvirt (o := 331) (as := [.int (I2 331 7)]) (st := [.long ((L2 331 11) <<< ((8 : Int32).toInt64 &&& 63)), .ref 331]) (Ev.cm _) rfl rfl rfl (Nat.le_of_ble_eq_true rfl) (Nat.le_of_ble_eq_true rfl) rfl (Nat.le_of_ble_eq_true rfl) (eo_M_byteAt (g := ?_) e3)
        show Wp _ _ _ _ _ _ _ 216 [(0, .ref 331), (1, .int x1)] [.int r3, .long ((L2 331 11) <<< ((8 : Int32).toInt64 &&& 63)), .ref 331] (HS I3 L3 X)
        refine w_i2l (Ev.cm _) rfl ?_
        refine w_lor (Ev.cm _) rfl ?_
        refine w_putL (Ev.cm _) rfl (Nat.le_of_ble_eq_true rfl) rfl ?_
        refine w_aload_n (Ev.cm _) rfl rfl ?_
        refine w_dup (Ev.cm _) rfl rfl ?_
        refine w_getI (Ev.cm _) rfl (Nat.le_of_ble_eq_true rfl) rfl ?_
        refine w_iconst (Ev.cm _) rfl ?_
        refine w_iadd (Ev.cm _) rfl ?_
        refine w_putI (Ev.cm _) rfl (Nat.le_of_ble_eq_true rfl) rfl ?_
        refine w_goto (Ev.cm _) rfl ?_
        show Wp _ _ _ _ _ _ _ 168 [(0, .ref 331), (1, .int x1)] [] (HS (sI I3 331 7 ((I3 331 7) + 1)) (sL L3 331 11 (((L2 331 11) <<< ((8 : Int32).toInt64 &&& 63)) ||| ((r3 : Int32).toInt64))) X)
        refine Wp.sub [0, 1] (ls2 := [(0, .ref 331), (1, .int x1)]) rfl ?_
        exact ih _ _ _ q
      · have c2 : ¬ (lg_cmp ((L2 331 11) >>> ((48 : Int32).toInt64 &&& 63)) 0 = 0) := c2
        rw [if_neg c2] at q
        refine w_ldc2_w (Ev.cm _) rfl ?_
        refine w_goto (Ev.cm _) rfl ?_
        refine w_putL (Ev.cm _) rfl (Nat.le_of_ble_eq_true rfl) rfl ?_
        refine w_aload_n (Ev.cm _) rfl rfl ?_
        refine w_dup (Ev.cm _) rfl rfl ?_
        refine w_getI (Ev.cm _) rfl (Nat.le_of_ble_eq_true rfl) rfl ?_
        refine w_iconst (Ev.cm _) rfl ?_
        refine w_iadd (Ev.cm _) rfl ?_
        refine w_putI (Ev.cm _) rfl (Nat.le_of_ble_eq_true rfl) rfl ?_
        refine w_goto (Ev.cm _) rfl ?_
        show Wp _ _ _ _ _ _ _ 168 [(0, .ref 331), (1, .int x1)] [] (HS (sI I2 331 7 ((I2 331 7) + 1)) (sL L2 331 11 1152921504606846976) X)
        refine Wp.sub [0, 1] (ls2 := [(0, .ref 331), (1, .int x1)]) rfl ?_
        exact ih _ _ _ q
def LO_M_nextToken_85 (fu : Nat) : Nat → Int32 → (Nat → Nat → Int32) → (Nat → Nat → Int64) → Option (Unit × (Nat → Nat → Int32) × (Nat → Nat → Int64))
  | 0, _, _, _ => none
  | n + 1, x1, I, L => (FO_M_byteAt fu (I 331 7) I L).bind (fun u1 => let r1 := u1.1; let I1 := u1.2.1; let L1 := u1.2.2; (FO_M_isFigure fu r1 I1 L1).bind (fun u2 => let r2 := u2.1; let I2 := u2.2.1; let L2 := u2.2.2; if r2 = 0 then (some ((), I2, L2)) else (if I2 331 10 ≤ 99999 then ((FO_M_byteAt fu (I2 331 7) I2 L2).bind (fun u3 => let r3 := u3.1; let I3 := u3.2.1; let L3 := u3.2.2; LO_M_nextToken_85 fu n x1 (sI (sI I3 331 10 ((((10 : Int32) * (I2 331 10)) + r3) - 48)) 331 7 ((I3 331 7) + 1)) L3)) else (LO_M_nextToken_85 fu n x1 (sI (sI I2 331 10 (I2 331 10)) 331 7 ((I2 331 7) + 1)) L2))))
set_option maxHeartbeats 20000000 in
set_option maxRecDepth 20000 in
theorem lo_M_nextToken_85 {d fu n0 s0 : Nat} {X : Nat × (Nat → Int32)} {Q : PQ} {res : Unit × (Nat → Nat → Int32) × (Nat → Nat → Int64)}  (g : Q none (HS res.2.1 res.2.2 X)) : ∀ (n : Nat) (x1 : Int32) (I : Nat → Nat → Int32) (L : Nat → Nat → Int64), LO_M_nextToken_85 fu n x1 I L = some res → Wp (Ev (d + 1)) cd_M_nextToken (0, 0) none n0 s0 Q 85 [(0, .ref 331), (1, .int x1)] [] (HS I L X) := by
  intro n
  induction n with
  | zero => intro _ _ _ q; cases q
  | succ n ih =>
    intro x1 I L q
    unfold LO_M_nextToken_85 at q
    refine w_aload_n (Ev.cm _) rfl rfl ?_
    refine w_aload_n (Ev.cm _) rfl rfl ?_
    refine w_getI (Ev.cm _) rfl (Nat.le_of_ble_eq_true rfl) rfl ?_
    obtain ⟨⟨r1, I1, L1⟩, e1, q⟩ := obs q
    dsimp only at q
    refine w_cvirt (o := 331) (as := [.int (I 331 7)]) (st := []) (Ev.cm _) rfl rfl rfl (Nat.le_of_ble_eq_true rfl) (Nat.le_of_ble_eq_true rfl) rfl (Nat.le_of_ble_eq_true rfl) (eo_M_byteAt (g := ?_) e1)
    show Wp _ _ _ _ _ _ _ 93 [(0, .ref 331), (1, .int x1)] [.int r1] (HS I1 L1 X)
    obtain ⟨⟨r2, I2, L2⟩, e2, q⟩ := obs q
    dsimp only at q
    refine w_cstat (as := [.int r1]) (st := []) (Ev.cm _) rfl rfl rfl (Nat.le_of_ble_eq_true rfl) (Nat.le_of_ble_eq_true rfl) (eo_M_isFigure (g := ?_) e2)
    show Wp _ _ _ _ _ _ _ 96 [(0, .ref 331), (1, .int x1)] [.int r2] (HS I2 L2 X)
    refine w_if_eq (Ev.cm _) rfl (fun c1 => ?_) (fun c1 => ?_)
    · have c1 : r2 = 0 := c1
      rw [if_pos c1] at q
      refine w_return (Ev.cm _) rfl rfl rf0 ?_
      cases q
      exact g
    · have c1 : ¬ (r2 = 0) := c1
      rw [if_neg c1] at q
      refine w_aload_n (Ev.cm _) rfl rfl ?_
      refine w_aload_n (Ev.cm _) rfl rfl ?_
      refine w_getI (Ev.cm _) rfl (Nat.le_of_ble_eq_true rfl) rfl ?_
      refine w_ldc (Ev.cm _) rfl ?_
      refine w_icmp_le (Ev.cm _) rfl (fun c2 => ?_) (fun c2 => ?_)
      · have c2 : I2 331 10 ≤ 99999 := c2
        rw [if_pos c2] at q
        refine w_bipush (Ev.cm _) rfl ?_
        refine w_aload_n (Ev.cm _) rfl rfl ?_
        refine w_getI (Ev.cm _) rfl (Nat.le_of_ble_eq_true rfl) rfl ?_
        refine w_imul (Ev.cm _) rfl ?_
        refine w_aload_n (Ev.cm _) rfl rfl ?_
        refine w_aload_n (Ev.cm _) rfl rfl ?_
        refine w_getI (Ev.cm _) rfl (Nat.le_of_ble_eq_true rfl) rfl ?_
        obtain ⟨⟨r3, I3, L3⟩, e3, q⟩ := obs q
        dsimp only at q
        refine w_cvirt (o := 331) (as := [.int (I2 331 7)]) (st := [.int ((10 : Int32) * (I2 331 10)), .ref 331]) (Ev.cm _) rfl rfl rfl (Nat.le_of_ble_eq_true rfl) (Nat.le_of_ble_eq_true rfl) rfl (Nat.le_of_ble_eq_true rfl) (eo_M_byteAt (g := ?_) e3)
        show Wp _ _ _ _ _ _ _ 131 [(0, .ref 331), (1, .int x1)] [.int r3, .int ((10 : Int32) * (I2 331 10)), .ref 331] (HS I3 L3 X)
        refine w_iadd (Ev.cm _) rfl ?_
        refine w_bipush (Ev.cm _) rfl ?_
        refine w_isub (Ev.cm _) rfl ?_
        refine w_putI (Ev.cm _) rfl (Nat.le_of_ble_eq_true rfl) rfl ?_
        refine w_aload_n (Ev.cm _) rfl rfl ?_
        refine w_dup (Ev.cm _) rfl rfl ?_
        refine w_getI (Ev.cm _) rfl (Nat.le_of_ble_eq_true rfl) rfl ?_
        refine w_iconst (Ev.cm _) rfl ?_
        refine w_iadd (Ev.cm _) rfl ?_
        refine w_putI (Ev.cm _) rfl (Nat.le_of_ble_eq_true rfl) rfl ?_
        refine w_goto (Ev.cm _) rfl ?_
        show Wp _ _ _ _ _ _ _ 85 [(0, .ref 331), (1, .int x1)] [] (HS (sI (sI I3 331 10 ((((10 : Int32) * (I2 331 10)) + r3) - 48)) 331 7 ((I3 331 7) + 1)) L3 X)
        refine Wp.sub [0, 1] (ls2 := [(0, .ref 331), (1, .int x1)]) rfl ?_
        exact ih _ _ _ q
      · have c2 : ¬ (I2 331 10 ≤ 99999) := c2
        rw [if_neg c2] at q
        refine w_aload_n (Ev.cm _) rfl rfl ?_
        refine w_getI (Ev.cm _) rfl (Nat.le_of_ble_eq_true rfl) rfl ?_
        refine w_goto (Ev.cm _) rfl ?_
        refine w_putI (Ev.cm _) rfl (Nat.le_of_ble_eq_true rfl) rfl ?_
        refine w_aload_n (Ev.cm _) rfl rfl ?_
        refine w_dup (Ev.cm _) rfl rfl ?_
        refine w_getI (Ev.cm _) rfl (Nat.le_of_ble_eq_true rfl) rfl ?_
        refine w_iconst (Ev.cm _) rfl ?_
        refine w_iadd (Ev.cm _) rfl ?_
        refine w_putI (Ev.cm _) rfl (Nat.le_of_ble_eq_true rfl) rfl ?_
        refine w_goto (Ev.cm _) rfl ?_
        show Wp _ _ _ _ _ _ _ 85 [(0, .ref 331), (1, .int x1)] [] (HS (sI (sI I2 331 10 (I2 331 10)) 331 7 ((I2 331 7) + 1)) L2 X)
        refine Wp.sub [0, 1] (ls2 := [(0, .ref 331), (1, .int x1)]) rfl ?_
        exact ih _ _ _ q
def LO_M_nextToken_0 (fu : Nat) : Nat → (Nat → Nat → Int32) → (Nat → Nat → Int64) → Option (Unit × (Nat → Nat → Int32) × (Nat → Nat → Int64))
  | 0, _, _ => none
  | n + 1, I, L => (FO_M_byteAt fu (I 331 7) I L).bind (fun u1 => let r1 := u1.1; let I1 := u1.2.1; let L1 := u1.2.2; if r1 = 32 then (LO_M_nextToken_0 fu n  (sI I1 331 7 ((I1 331 7) + 1)) L1) else ((FO_M_byteAt fu (I1 331 7) I1 L1).bind (fun u2 => let r2 := u2.1; let I2 := u2.2.1; let L2 := u2.2.2; if r2 = 10 then (LO_M_nextToken_0 fu n  (sI I2 331 7 ((I2 331 7) + 1)) L2) else ((FO_M_byteAt fu (I2 331 7) (sI I2 331 8 (I2 331 7)) L2).bind (fun u3 => let r3 := u3.1; let I3 := u3.2.1; let L3 := u3.2.2; if 0 ≤ r3 then ((FO_M_isFigure fu r3 I3 L3).bind (fun u4 => let r4 := u4.1; let I4 := u4.2.1; let L4 := u4.2.2; if r4 = 0 then ((FO_M_isLetterByte fu r3 I4 L4).bind (fun u5 => let r5 := u5.1; let I5 := u5.2.1; let L5 := u5.2.2; if r5 = 0 then ((FO_M_isSign fu r3 I5 L5).bind (fun u6 => let r6 := u6.1; let I6 := u6.2.1; let L6 := u6.2.2; if r6 = 0 then (if r3 = 60 then ((FO_M_byteAt fu ((I6 331 7) + 1) (sI (sI I6 331 9 3) 331 7 ((I6 331 7) + 1)) L6).bind (fun u7 => let r7 := u7.1; let I7 := u7.2.1; let L7 := u7.2.2; if r7 = 61 then (if r3 = 60 then (some ((), sI (sI I7 331 9 4) 331 7 ((I7 331 7) + 1), L7)) else (some ((), sI (sI I7 331 9 5) 331 7 ((I7 331 7) + 1), L7))) else (some ((), I7, L7)))) else (if r3 = 62 then ((FO_M_byteAt fu ((I6 331 7) + 1) (sI (sI I6 331 9 3) 331 7 ((I6 331 7) + 1)) L6).bind (fun u8 => let r8 := u8.1; let I8 := u8.2.1; let L8 := u8.2.2; if r8 = 61 then (if r3 = 60 then (some ((), sI (sI I8 331 9 4) 331 7 ((I8 331 7) + 1), L8)) else (some ((), sI (sI I8 331 9 5) 331 7 ((I8 331 7) + 1), L8))) else (some ((), I8, L8)))) else (some ((), sI (sI I6 331 9 3) 331 7 ((I6 331 7) + 1), L6)))) else (if r3 = 60 then ((FO_M_byteAt fu ((I6 331 7) + 1) (sI (sI I6 331 9 r3) 331 7 ((I6 331 7) + 1)) L6).bind (fun u9 => let r9 := u9.1; let I9 := u9.2.1; let L9 := u9.2.2; if r9 = 61 then (if r3 = 60 then (some ((), sI (sI I9 331 9 4) 331 7 ((I9 331 7) + 1), L9)) else (some ((), sI (sI I9 331 9 5) 331 7 ((I9 331 7) + 1), L9))) else (some ((), I9, L9)))) else (if r3 = 62 then ((FO_M_byteAt fu ((I6 331 7) + 1) (sI (sI I6 331 9 r3) 331 7 ((I6 331 7) + 1)) L6).bind (fun u10 => let r10 := u10.1; let I10 := u10.2.1; let L10 := u10.2.2; if r10 = 61 then (if r3 = 60 then (some ((), sI (sI I10 331 9 4) 331 7 ((I10 331 7) + 1), L10)) else (some ((), sI (sI I10 331 9 5) 331 7 ((I10 331 7) + 1), L10))) else (some ((), I10, L10)))) else (some ((), sI (sI I6 331 9 r3) 331 7 ((I6 331 7) + 1), L6)))))) else (LO_M_nextToken_168 fu fu r3 (sI I5 331 9 2) (sL L5 331 11 0)))) else (LO_M_nextToken_85 fu fu r3 (sI (sI I4 331 9 1) 331 10 0) L4))) else (some ((), sI I3 331 9 0, L3)))))))
set_option maxHeartbeats 20000000 in
set_option maxRecDepth 20000 in
theorem lo_M_nextToken_0 {d fu n0 s0 : Nat} {X : Nat × (Nat → Int32)} {Q : PQ} {res : Unit × (Nat → Nat → Int32) × (Nat → Nat → Int64)}  (g : Q none (HS res.2.1 res.2.2 X)) : ∀ (n : Nat) (I : Nat → Nat → Int32) (L : Nat → Nat → Int64), LO_M_nextToken_0 fu n  I L = some res → Wp (Ev (d + 1)) cd_M_nextToken (0, 0) none n0 s0 Q 0 [(0, .ref 331)] [] (HS I L X) := by
  intro n
  induction n with
  | zero => intro  _ _ q; cases q
  | succ n ih =>
    intro  I L q
    unfold LO_M_nextToken_0 at q
    refine w_aload_n (Ev.cm _) rfl rfl ?_
    refine w_aload_n (Ev.cm _) rfl rfl ?_
    refine w_getI (Ev.cm _) rfl (Nat.le_of_ble_eq_true rfl) rfl ?_
    obtain ⟨⟨r1, I1, L1⟩, e1, q⟩ := obs q
    dsimp only at q
    refine w_cvirt (o := 331) (as := [.int (I 331 7)]) (st := []) (Ev.cm _) rfl rfl rfl (Nat.le_of_ble_eq_true rfl) (Nat.le_of_ble_eq_true rfl) rfl (Nat.le_of_ble_eq_true rfl) (eo_M_byteAt (g := ?_) e1)
    show Wp _ _ _ _ _ _ _ 8 [(0, .ref 331)] [.int r1] (HS I1 L1 X)
    refine w_bipush (Ev.cm _) rfl ?_
    refine w_icmp_eq (Ev.cm _) rfl (fun c1 => ?_) (fun c1 => ?_)
    · have c1 : r1 = 32 := c1
      rw [if_pos c1] at q
      refine w_aload_n (Ev.cm _) rfl rfl ?_
      refine w_dup (Ev.cm _) rfl rfl ?_
      refine w_getI (Ev.cm _) rfl (Nat.le_of_ble_eq_true rfl) rfl ?_
      refine w_iconst (Ev.cm _) rfl ?_
      refine w_iadd (Ev.cm _) rfl ?_
      refine w_putI (Ev.cm _) rfl (Nat.le_of_ble_eq_true rfl) rfl ?_
      refine w_goto (Ev.cm _) rfl ?_
      show Wp _ _ _ _ _ _ _ 0 [(0, .ref 331)] [] (HS (sI I1 331 7 ((I1 331 7) + 1)) L1 X)
      refine Wp.sub [0] (ls2 := [(0, .ref 331)]) rfl ?_
      exact ih _ _ q
    · have c1 : ¬ (r1 = 32) := c1
      rw [if_neg c1] at q
      refine w_aload_n (Ev.cm _) rfl rfl ?_
      refine w_aload_n (Ev.cm _) rfl rfl ?_
      refine w_getI (Ev.cm _) rfl (Nat.le_of_ble_eq_true rfl) rfl ?_
      obtain ⟨⟨r2, I2, L2⟩, e2, q⟩ := obs q
      dsimp only at q
      refine w_cvirt (o := 331) (as := [.int (I1 331 7)]) (st := []) (Ev.cm _) rfl rfl rfl (Nat.le_of_ble_eq_true rfl) (Nat.le_of_ble_eq_true rfl) rfl (Nat.le_of_ble_eq_true rfl) (eo_M_byteAt (g := ?_) e2)
      show Wp _ _ _ _ _ _ _ 21 [(0, .ref 331)] [.int r2] (HS I2 L2 X)
      refine w_bipush (Ev.cm _) rfl ?_
      refine w_icmp_ne (Ev.cm _) rfl (fun c2 => ?_) (fun c2 => ?_)
      · have c2 : ¬ (r2 = 10) := c2
        rw [if_neg c2] at q
        refine w_aload_n (Ev.cm _) rfl rfl ?_
        refine w_aload_n (Ev.cm _) rfl rfl ?_
        refine w_getI (Ev.cm _) rfl (Nat.le_of_ble_eq_true rfl) rfl ?_
        refine w_putI (Ev.cm _) rfl (Nat.le_of_ble_eq_true rfl) rfl ?_
        refine w_aload_n (Ev.cm _) rfl rfl ?_
        refine w_aload_n (Ev.cm _) rfl rfl ?_
        refine w_getI (Ev.cm _) rfl (Nat.le_of_ble_eq_true rfl) rfl ?_
        obtain ⟨⟨r3, I3, L3⟩, e3, q⟩ := obs q
        dsimp only at q
        refine w_cvirt (o := 331) (as := [.int (I2 331 7)]) (st := []) (Ev.cm _) rfl rfl rfl (Nat.le_of_ble_eq_true rfl) (Nat.le_of_ble_eq_true rfl) rfl (Nat.le_of_ble_eq_true rfl) (eo_M_byteAt (g := ?_) e3)
        show Wp _ _ _ _ _ _ _ 55 [(0, .ref 331)] [.int r3] (HS I3 L3 X)
        refine w_istore_n (ls2 := [(0, .ref 331), (1, .int r3)]) (Ev.cm _) rfl rfl ?_
        refine w_iload_n (Ev.cm _) rfl rfl ?_
        refine w_if_ge (Ev.cm _) rfl (fun c3 => ?_) (fun c3 => ?_)
        · have c3 : 0 ≤ r3 := c3
          rw [if_pos c3] at q
          refine w_iload_n (Ev.cm _) rfl rfl ?_
          obtain ⟨⟨r4, I4, L4⟩, e4, q⟩ := obs q
          dsimp only at q
          refine w_cstat (as := [.int r3]) (st := []) (Ev.cm _) rfl rfl rfl (Nat.le_of_ble_eq_true rfl) (Nat.le_of_ble_eq_true rfl) (eo_M_isFigure (g := ?_) e4)
          show Wp _ _ _ _ _ _ _ 72 [(0, .ref 331), (1, .int r3)] [.int r4] (HS I4 L4 X)
          refine w_if_eq (Ev.cm _) rfl (fun c4 => ?_) (fun c4 => ?_)
          · have c4 : r4 = 0 := c4
            rw [if_pos c4] at q
            refine w_iload_n (Ev.cm _) rfl rfl ?_
            obtain ⟨⟨r5, I5, L5⟩, e5, q⟩ := obs q
            dsimp only at q
            refine w_cstat (as := [.int r3]) (st := []) (Ev.cm _) rfl rfl rfl (Nat.le_of_ble_eq_true rfl) (Nat.le_of_ble_eq_true rfl) (eo_M_isLetterByte (g := ?_) e5)
            show Wp _ _ _ _ _ _ _ 155 [(0, .ref 331), (1, .int r3)] [.int r5] (HS I5 L5 X)
            refine w_if_eq (Ev.cm _) rfl (fun c5 => ?_) (fun c5 => ?_)
            · have c5 : r5 = 0 := c5
              rw [if_pos c5] at q
              refine w_aload_n (Ev.cm _) rfl rfl ?_
              refine w_iload_n (Ev.cm _) rfl rfl ?_
              obtain ⟨⟨r6, I6, L6⟩, e6, q⟩ := obs q
              dsimp only at q
              refine w_cstat (as := [.int r3]) (st := [.ref 331]) (Ev.cm _) rfl rfl rfl (Nat.le_of_ble_eq_true rfl) (Nat.le_of_ble_eq_true rfl) (eo_M_isSign (g := ?_) e6)
              show Wp _ _ _ _ _ _ _ 239 [(0, .ref 331), (1, .int r3)] [.int r6, .ref 331] (HS I6 L6 X)
              refine w_if_eq (Ev.cm _) rfl (fun c6 => ?_) (fun c6 => ?_)
              · have c6 : r6 = 0 := c6
                rw [if_pos c6] at q
                refine w_iconst (Ev.cm _) rfl ?_
                refine w_putI (Ev.cm _) rfl (Nat.le_of_ble_eq_true rfl) rfl ?_
                refine w_aload_n (Ev.cm _) rfl rfl ?_
                refine w_dup (Ev.cm _) rfl rfl ?_
                refine w_getI (Ev.cm _) rfl (Nat.le_of_ble_eq_true rfl) rfl ?_
                refine w_iconst (Ev.cm _) rfl ?_
                refine w_iadd (Ev.cm _) rfl ?_
                refine w_putI (Ev.cm _) rfl (Nat.le_of_ble_eq_true rfl) rfl ?_
                refine w_iload_n (Ev.cm _) rfl rfl ?_
                refine w_bipush (Ev.cm _) rfl ?_
                refine w_icmp_eq (Ev.cm _) rfl (fun c7 => ?_) (fun c7 => ?_)
                · have c7 : r3 = 60 := c7
                  rw [if_pos c7] at q
                  refine w_aload_n (Ev.cm _) rfl rfl ?_
                  refine w_aload_n (Ev.cm _) rfl rfl ?_
                  refine w_getI (Ev.cm _) rfl (Nat.le_of_ble_eq_true rfl) rfl ?_
                  obtain ⟨⟨r7, I7, L7⟩, e7, q⟩ := obs q
                  dsimp only at q
                  refine w_cvirt (o := 331) (as := [.int ((I6 331 7) + 1)]) (st := []) (Ev.cm _) rfl rfl rfl (Nat.le_of_ble_eq_true rfl) (Nat.le_of_ble_eq_true rfl) rfl (Nat.le_of_ble_eq_true rfl) (eo_M_byteAt (g := ?_) e7)
                  show Wp _ _ _ _ _ _ _ 280 [(0, .ref 331), (1, .int r3)] [.int r7] (HS I7 L7 X)
                  refine w_bipush (Ev.cm _) rfl ?_
                  refine w_icmp_ne (Ev.cm _) rfl (fun c8 => ?_) (fun c8 => ?_)
                  · have c8 : ¬ (r7 = 61) := c8
                    rw [if_neg c8] at q
                    refine w_return (Ev.cm _) rfl rfl rf0 ?_
                    cases q
                    exact g
                  · have c8 : r7 = 61 := c8
                    rw [if_pos c8] at q
                    refine w_aload_n (Ev.cm _) rfl rfl ?_
                    refine w_iload_n (Ev.cm _) rfl rfl ?_
                    refine w_bipush (Ev.cm _) rfl ?_
                    refine w_icmp_ne (Ev.cm _) rfl (fun c9 => ?_) (fun c9 => ?_)
                    · have c9 : ¬ (r3 = 60) := c9
                      rw [if_neg c9] at q
                      refine w_iconst (Ev.cm _) rfl ?_
                      refine w_putI (Ev.cm _) rfl (Nat.le_of_ble_eq_true rfl) rfl ?_
                      refine w_aload_n (Ev.cm _) rfl rfl ?_
                      refine w_dup (Ev.cm _) rfl rfl ?_
                      refine w_getI (Ev.cm _) rfl (Nat.le_of_ble_eq_true rfl) rfl ?_
                      refine w_iconst (Ev.cm _) rfl ?_
                      refine w_iadd (Ev.cm _) rfl ?_
                      refine w_putI (Ev.cm _) rfl (Nat.le_of_ble_eq_true rfl) rfl ?_
                      refine w_return (Ev.cm _) rfl rfl rf0 ?_
                      cases q
                      exact g
                    · have c9 : r3 = 60 := c9
                      rw [if_pos c9] at q
                      refine w_iconst (Ev.cm _) rfl ?_
                      refine w_goto (Ev.cm _) rfl ?_
                      refine w_putI (Ev.cm _) rfl (Nat.le_of_ble_eq_true rfl) rfl ?_
                      refine w_aload_n (Ev.cm _) rfl rfl ?_
                      refine w_dup (Ev.cm _) rfl rfl ?_
                      refine w_getI (Ev.cm _) rfl (Nat.le_of_ble_eq_true rfl) rfl ?_
                      refine w_iconst (Ev.cm _) rfl ?_
                      refine w_iadd (Ev.cm _) rfl ?_
                      refine w_putI (Ev.cm _) rfl (Nat.le_of_ble_eq_true rfl) rfl ?_
                      refine w_return (Ev.cm _) rfl rfl rf0 ?_
                      cases q
                      exact g
                · have c7 : ¬ (r3 = 60) := c7
                  rw [if_neg c7] at q
                  refine w_iload_n (Ev.cm _) rfl rfl ?_
                  refine w_bipush (Ev.cm _) rfl ?_
                  refine w_icmp_ne (Ev.cm _) rfl (fun c10 => ?_) (fun c10 => ?_)
                  · have c10 : ¬ (r3 = 62) := c10
                    rw [if_neg c10] at q
                    refine w_return (Ev.cm _) rfl rfl rf0 ?_
                    cases q
                    exact g
                  · have c10 : r3 = 62 := c10
                    rw [if_pos c10] at q
                    refine w_aload_n (Ev.cm _) rfl rfl ?_
                    refine w_aload_n (Ev.cm _) rfl rfl ?_
                    refine w_getI (Ev.cm _) rfl (Nat.le_of_ble_eq_true rfl) rfl ?_
                    obtain ⟨⟨r8, I8, L8⟩, e8, q⟩ := obs q
                    dsimp only at q
                    refine w_cvirt (o := 331) (as := [.int ((I6 331 7) + 1)]) (st := []) (Ev.cm _) rfl rfl rfl (Nat.le_of_ble_eq_true rfl) (Nat.le_of_ble_eq_true rfl) rfl (Nat.le_of_ble_eq_true rfl) (eo_M_byteAt (g := ?_) e8)
                    show Wp _ _ _ _ _ _ _ 280 [(0, .ref 331), (1, .int r3)] [.int r8] (HS I8 L8 X)
                    refine w_bipush (Ev.cm _) rfl ?_
                    refine w_icmp_ne (Ev.cm _) rfl (fun c11 => ?_) (fun c11 => ?_)
                    · have c11 : ¬ (r8 = 61) := c11
                      rw [if_neg c11] at q
                      refine w_return (Ev.cm _) rfl rfl rf0 ?_
                      cases q
                      exact g
                    · have c11 : r8 = 61 := c11
                      rw [if_pos c11] at q
                      refine w_aload_n (Ev.cm _) rfl rfl ?_
                      refine w_iload_n (Ev.cm _) rfl rfl ?_
                      refine w_bipush (Ev.cm _) rfl ?_
                      refine w_icmp_ne (Ev.cm _) rfl (fun c12 => ?_) (fun c12 => ?_)
                      · have c12 : ¬ (r3 = 60) := c12
                        rw [if_neg c12] at q
                        refine w_iconst (Ev.cm _) rfl ?_
                        refine w_putI (Ev.cm _) rfl (Nat.le_of_ble_eq_true rfl) rfl ?_
                        refine w_aload_n (Ev.cm _) rfl rfl ?_
                        refine w_dup (Ev.cm _) rfl rfl ?_
                        refine w_getI (Ev.cm _) rfl (Nat.le_of_ble_eq_true rfl) rfl ?_
                        refine w_iconst (Ev.cm _) rfl ?_
                        refine w_iadd (Ev.cm _) rfl ?_
                        refine w_putI (Ev.cm _) rfl (Nat.le_of_ble_eq_true rfl) rfl ?_
                        refine w_return (Ev.cm _) rfl rfl rf0 ?_
                        cases q
                        exact g
                      · have c12 : r3 = 60 := c12
                        rw [if_pos c12] at q
                        refine w_iconst (Ev.cm _) rfl ?_
                        refine w_goto (Ev.cm _) rfl ?_
                        refine w_putI (Ev.cm _) rfl (Nat.le_of_ble_eq_true rfl) rfl ?_
                        refine w_aload_n (Ev.cm _) rfl rfl ?_
                        refine w_dup (Ev.cm _) rfl rfl ?_
                        refine w_getI (Ev.cm _) rfl (Nat.le_of_ble_eq_true rfl) rfl ?_
                        refine w_iconst (Ev.cm _) rfl ?_
                        refine w_iadd (Ev.cm _) rfl ?_
                        refine w_putI (Ev.cm _) rfl (Nat.le_of_ble_eq_true rfl) rfl ?_
                        refine w_return (Ev.cm _) rfl rfl rf0 ?_
                        cases q
                        exact g
              · have c6 : ¬ (r6 = 0) := c6
                rw [if_neg c6] at q
                refine w_iload_n (Ev.cm _) rfl rfl ?_
                refine w_goto (Ev.cm _) rfl ?_
                refine w_putI (Ev.cm _) rfl (Nat.le_of_ble_eq_true rfl) rfl ?_
                refine w_aload_n (Ev.cm _) rfl rfl ?_
                refine w_dup (Ev.cm _) rfl rfl ?_
                refine w_getI (Ev.cm _) rfl (Nat.le_of_ble_eq_true rfl) rfl ?_
                refine w_iconst (Ev.cm _) rfl ?_
                refine w_iadd (Ev.cm _) rfl ?_
                refine w_putI (Ev.cm _) rfl (Nat.le_of_ble_eq_true rfl) rfl ?_
                refine w_iload_n (Ev.cm _) rfl rfl ?_
                refine w_bipush (Ev.cm _) rfl ?_
                refine w_icmp_eq (Ev.cm _) rfl (fun c13 => ?_) (fun c13 => ?_)
                · have c13 : r3 = 60 := c13
                  rw [if_pos c13] at q
                  refine w_aload_n (Ev.cm _) rfl rfl ?_
                  refine w_aload_n (Ev.cm _) rfl rfl ?_
                  refine w_getI (Ev.cm _) rfl (Nat.le_of_ble_eq_true rfl) rfl ?_
                  obtain ⟨⟨r9, I9, L9⟩, e9, q⟩ := obs q
                  dsimp only at q
                  refine w_cvirt (o := 331) (as := [.int ((I6 331 7) + 1)]) (st := []) (Ev.cm _) rfl rfl rfl (Nat.le_of_ble_eq_true rfl) (Nat.le_of_ble_eq_true rfl) rfl (Nat.le_of_ble_eq_true rfl) (eo_M_byteAt (g := ?_) e9)
                  show Wp _ _ _ _ _ _ _ 280 [(0, .ref 331), (1, .int r3)] [.int r9] (HS I9 L9 X)
                  refine w_bipush (Ev.cm _) rfl ?_
                  refine w_icmp_ne (Ev.cm _) rfl (fun c14 => ?_) (fun c14 => ?_)
                  · have c14 : ¬ (r9 = 61) := c14
                    rw [if_neg c14] at q
                    refine w_return (Ev.cm _) rfl rfl rf0 ?_
                    cases q
                    exact g
                  · have c14 : r9 = 61 := c14
                    rw [if_pos c14] at q
                    refine w_aload_n (Ev.cm _) rfl rfl ?_
                    refine w_iload_n (Ev.cm _) rfl rfl ?_
                    refine w_bipush (Ev.cm _) rfl ?_
                    refine w_icmp_ne (Ev.cm _) rfl (fun c15 => ?_) (fun c15 => ?_)
                    · have c15 : ¬ (r3 = 60) := c15
                      rw [if_neg c15] at q
                      refine w_iconst (Ev.cm _) rfl ?_
                      refine w_putI (Ev.cm _) rfl (Nat.le_of_ble_eq_true rfl) rfl ?_
                      refine w_aload_n (Ev.cm _) rfl rfl ?_
                      refine w_dup (Ev.cm _) rfl rfl ?_
                      refine w_getI (Ev.cm _) rfl (Nat.le_of_ble_eq_true rfl) rfl ?_
                      refine w_iconst (Ev.cm _) rfl ?_
                      refine w_iadd (Ev.cm _) rfl ?_
                      refine w_putI (Ev.cm _) rfl (Nat.le_of_ble_eq_true rfl) rfl ?_
                      refine w_return (Ev.cm _) rfl rfl rf0 ?_
                      cases q
                      exact g
                    · have c15 : r3 = 60 := c15
                      rw [if_pos c15] at q
                      refine w_iconst (Ev.cm _) rfl ?_
                      refine w_goto (Ev.cm _) rfl ?_
                      refine w_putI (Ev.cm _) rfl (Nat.le_of_ble_eq_true rfl) rfl ?_
                      refine w_aload_n (Ev.cm _) rfl rfl ?_
                      refine w_dup (Ev.cm _) rfl rfl ?_
                      refine w_getI (Ev.cm _) rfl (Nat.le_of_ble_eq_true rfl) rfl ?_
                      refine w_iconst (Ev.cm _) rfl ?_
                      refine w_iadd (Ev.cm _) rfl ?_
                      refine w_putI (Ev.cm _) rfl (Nat.le_of_ble_eq_true rfl) rfl ?_
                      refine w_return (Ev.cm _) rfl rfl rf0 ?_
                      cases q
                      exact g
                · have c13 : ¬ (r3 = 60) := c13
                  rw [if_neg c13] at q
                  refine w_iload_n (Ev.cm _) rfl rfl ?_
                  refine w_bipush (Ev.cm _) rfl ?_
                  refine w_icmp_ne (Ev.cm _) rfl (fun c16 => ?_) (fun c16 => ?_)
                  · have c16 : ¬ (r3 = 62) := c16
                    rw [if_neg c16] at q
                    refine w_return (Ev.cm _) rfl rfl rf0 ?_
                    cases q
                    exact g
                  · have c16 : r3 = 62 := c16
                    rw [if_pos c16] at q
                    refine w_aload_n (Ev.cm _) rfl rfl ?_
                    refine w_aload_n (Ev.cm _) rfl rfl ?_
                    refine w_getI (Ev.cm _) rfl (Nat.le_of_ble_eq_true rfl) rfl ?_
                    obtain ⟨⟨r10, I10, L10⟩, e10, q⟩ := obs q
                    dsimp only at q
                    refine w_cvirt (o := 331) (as := [.int ((I6 331 7) + 1)]) (st := []) (Ev.cm _) rfl rfl rfl (Nat.le_of_ble_eq_true rfl) (Nat.le_of_ble_eq_true rfl) rfl (Nat.le_of_ble_eq_true rfl) (eo_M_byteAt (g := ?_) e10)
                    show Wp _ _ _ _ _ _ _ 280 [(0, .ref 331), (1, .int r3)] [.int r10] (HS I10 L10 X)
                    refine w_bipush (Ev.cm _) rfl ?_
                    refine w_icmp_ne (Ev.cm _) rfl (fun c17 => ?_) (fun c17 => ?_)
                    · have c17 : ¬ (r10 = 61) := c17
                      rw [if_neg c17] at q
                      refine w_return (Ev.cm _) rfl rfl rf0 ?_
                      cases q
                      exact g
                    · have c17 : r10 = 61 := c17
                      rw [if_pos c17] at q
                      refine w_aload_n (Ev.cm _) rfl rfl ?_
                      refine w_iload_n (Ev.cm _) rfl rfl ?_
                      refine w_bipush (Ev.cm _) rfl ?_
                      refine w_icmp_ne (Ev.cm _) rfl (fun c18 => ?_) (fun c18 => ?_)
                      · have c18 : ¬ (r3 = 60) := c18
                        rw [if_neg c18] at q
                        refine w_iconst (Ev.cm _) rfl ?_
                        refine w_putI (Ev.cm _) rfl (Nat.le_of_ble_eq_true rfl) rfl ?_
                        refine w_aload_n (Ev.cm _) rfl rfl ?_
                        refine w_dup (Ev.cm _) rfl rfl ?_
                        refine w_getI (Ev.cm _) rfl (Nat.le_of_ble_eq_true rfl) rfl ?_
                        refine w_iconst (Ev.cm _) rfl ?_
                        refine w_iadd (Ev.cm _) rfl ?_
                        refine w_putI (Ev.cm _) rfl (Nat.le_of_ble_eq_true rfl) rfl ?_
                        refine w_return (Ev.cm _) rfl rfl rf0 ?_
                        cases q
                        exact g
                      · have c18 : r3 = 60 := c18
                        rw [if_pos c18] at q
                        refine w_iconst (Ev.cm _) rfl ?_
                        refine w_goto (Ev.cm _) rfl ?_
                        refine w_putI (Ev.cm _) rfl (Nat.le_of_ble_eq_true rfl) rfl ?_
                        refine w_aload_n (Ev.cm _) rfl rfl ?_
                        refine w_dup (Ev.cm _) rfl rfl ?_
                        refine w_getI (Ev.cm _) rfl (Nat.le_of_ble_eq_true rfl) rfl ?_
                        refine w_iconst (Ev.cm _) rfl ?_
                        refine w_iadd (Ev.cm _) rfl ?_
                        refine w_putI (Ev.cm _) rfl (Nat.le_of_ble_eq_true rfl) rfl ?_
                        refine w_return (Ev.cm _) rfl rfl rf0 ?_
                        cases q
                        exact g
            · have c5 : ¬ (r5 = 0) := c5
              rw [if_neg c5] at q
              refine w_aload_n (Ev.cm _) rfl rfl ?_
              refine w_iconst (Ev.cm _) rfl ?_
              refine w_putI (Ev.cm _) rfl (Nat.le_of_ble_eq_true rfl) rfl ?_
              refine w_aload_n (Ev.cm _) rfl rfl ?_
              refine w_lconst (Ev.cm _) rfl ?_
              refine w_putL (Ev.cm _) rfl (Nat.le_of_ble_eq_true rfl) rfl ?_
              show Wp _ _ _ _ _ _ _ 168 [(0, .ref 331), (1, .int r3)] [] (HS (sI I5 331 9 2) (sL L5 331 11 0) X)
              refine Wp.sub [0, 1] (ls2 := [(0, .ref 331), (1, .int r3)]) rfl ?_
              exact lo_M_nextToken_168 g fu _ _ _ q
          · have c4 : ¬ (r4 = 0) := c4
            rw [if_neg c4] at q
            refine w_aload_n (Ev.cm _) rfl rfl ?_
            refine w_iconst (Ev.cm _) rfl ?_
            refine w_putI (Ev.cm _) rfl (Nat.le_of_ble_eq_true rfl) rfl ?_
            refine w_aload_n (Ev.cm _) rfl rfl ?_
            refine w_iconst (Ev.cm _) rfl ?_
            refine w_putI (Ev.cm _) rfl (Nat.le_of_ble_eq_true rfl) rfl ?_
            show Wp _ _ _ _ _ _ _ 85 [(0, .ref 331), (1, .int r3)] [] (HS (sI (sI I4 331 9 1) 331 10 0) L4 X)
            refine Wp.sub [0, 1] (ls2 := [(0, .ref 331), (1, .int r3)]) rfl ?_
            exact lo_M_nextToken_85 g fu _ _ _ q
        · have c3 : ¬ (0 ≤ r3) := c3
          rw [if_neg c3] at q
          refine w_aload_n (Ev.cm _) rfl rfl ?_
          refine w_iconst (Ev.cm _) rfl ?_
          refine w_putI (Ev.cm _) rfl (Nat.le_of_ble_eq_true rfl) rfl ?_
          refine w_goto (Ev.cm _) rfl ?_
          refine w_return (Ev.cm _) rfl rfl rf0 ?_
          cases q
          exact g
      · have c2 : r2 = 10 := c2
        rw [if_pos c2] at q
        refine w_aload_n (Ev.cm _) rfl rfl ?_
        refine w_dup (Ev.cm _) rfl rfl ?_
        refine w_getI (Ev.cm _) rfl (Nat.le_of_ble_eq_true rfl) rfl ?_
        refine w_iconst (Ev.cm _) rfl ?_
        refine w_iadd (Ev.cm _) rfl ?_
        refine w_putI (Ev.cm _) rfl (Nat.le_of_ble_eq_true rfl) rfl ?_
        refine w_goto (Ev.cm _) rfl ?_
        show Wp _ _ _ _ _ _ _ 0 [(0, .ref 331)] [] (HS (sI I2 331 7 ((I2 331 7) + 1)) L2 X)
        refine Wp.sub [0] (ls2 := [(0, .ref 331)]) rfl ?_
        exact ih _ _ q
def FO_M_nextToken (fu : Nat) (I : Nat → Nat → Int32) (L : Nat → Nat → Int64) : Option (Unit × (Nat → Nat → Int32) × (Nat → Nat → Int64)) := (FO_M_byteAt fu (I 331 7) I L).bind (fun u1 => let r1 := u1.1; let I1 := u1.2.1; let L1 := u1.2.2; if r1 = 32 then (LO_M_nextToken_0 fu fu  (sI I1 331 7 ((I1 331 7) + 1)) L1) else ((FO_M_byteAt fu (I1 331 7) I1 L1).bind (fun u2 => let r2 := u2.1; let I2 := u2.2.1; let L2 := u2.2.2; if r2 = 10 then (LO_M_nextToken_0 fu fu  (sI I2 331 7 ((I2 331 7) + 1)) L2) else ((FO_M_byteAt fu (I2 331 7) (sI I2 331 8 (I2 331 7)) L2).bind (fun u3 => let r3 := u3.1; let I3 := u3.2.1; let L3 := u3.2.2; if 0 ≤ r3 then ((FO_M_isFigure fu r3 I3 L3).bind (fun u4 => let r4 := u4.1; let I4 := u4.2.1; let L4 := u4.2.2; if r4 = 0 then ((FO_M_isLetterByte fu r3 I4 L4).bind (fun u5 => let r5 := u5.1; let I5 := u5.2.1; let L5 := u5.2.2; if r5 = 0 then ((FO_M_isSign fu r3 I5 L5).bind (fun u6 => let r6 := u6.1; let I6 := u6.2.1; let L6 := u6.2.2; if r6 = 0 then (if r3 = 60 then ((FO_M_byteAt fu ((I6 331 7) + 1) (sI (sI I6 331 9 3) 331 7 ((I6 331 7) + 1)) L6).bind (fun u7 => let r7 := u7.1; let I7 := u7.2.1; let L7 := u7.2.2; if r7 = 61 then (if r3 = 60 then (some ((), sI (sI I7 331 9 4) 331 7 ((I7 331 7) + 1), L7)) else (some ((), sI (sI I7 331 9 5) 331 7 ((I7 331 7) + 1), L7))) else (some ((), I7, L7)))) else (if r3 = 62 then ((FO_M_byteAt fu ((I6 331 7) + 1) (sI (sI I6 331 9 3) 331 7 ((I6 331 7) + 1)) L6).bind (fun u8 => let r8 := u8.1; let I8 := u8.2.1; let L8 := u8.2.2; if r8 = 61 then (if r3 = 60 then (some ((), sI (sI I8 331 9 4) 331 7 ((I8 331 7) + 1), L8)) else (some ((), sI (sI I8 331 9 5) 331 7 ((I8 331 7) + 1), L8))) else (some ((), I8, L8)))) else (some ((), sI (sI I6 331 9 3) 331 7 ((I6 331 7) + 1), L6)))) else (if r3 = 60 then ((FO_M_byteAt fu ((I6 331 7) + 1) (sI (sI I6 331 9 r3) 331 7 ((I6 331 7) + 1)) L6).bind (fun u9 => let r9 := u9.1; let I9 := u9.2.1; let L9 := u9.2.2; if r9 = 61 then (if r3 = 60 then (some ((), sI (sI I9 331 9 4) 331 7 ((I9 331 7) + 1), L9)) else (some ((), sI (sI I9 331 9 5) 331 7 ((I9 331 7) + 1), L9))) else (some ((), I9, L9)))) else (if r3 = 62 then ((FO_M_byteAt fu ((I6 331 7) + 1) (sI (sI I6 331 9 r3) 331 7 ((I6 331 7) + 1)) L6).bind (fun u10 => let r10 := u10.1; let I10 := u10.2.1; let L10 := u10.2.2; if r10 = 61 then (if r3 = 60 then (some ((), sI (sI I10 331 9 4) 331 7 ((I10 331 7) + 1), L10)) else (some ((), sI (sI I10 331 9 5) 331 7 ((I10 331 7) + 1), L10))) else (some ((), I10, L10)))) else (some ((), sI (sI I6 331 9 r3) 331 7 ((I6 331 7) + 1), L6)))))) else (LO_M_nextToken_168 fu fu r3 (sI I5 331 9 2) (sL L5 331 11 0)))) else (LO_M_nextToken_85 fu fu r3 (sI (sI I4 331 9 1) 331 10 0) L4))) else (some ((), sI I3 331 9 0, L3)))))))
set_option maxHeartbeats 20000000 in
set_option maxRecDepth 20000 in
theorem eo_M_nextToken {d fu : Nat} {I : Nat → Nat → Int32} {L : Nat → Nat → Int64} {X : Nat × (Nat → Int32)} {Q : PQ} {res : Unit × (Nat → Nat → Int32) × (Nat → Nat → Int64)}  (g : Q none (HS res.2.1 res.2.2 X)) (q : FO_M_nextToken fu  I L = some res) : Ev (d + 2) m_M_nextToken [.ref 331] (HS I L X) Q := by
  unfold FO_M_nextToken at q
  refine ev_start (d := d + 1) rfl rfl rfl (Nat.le_of_ble_eq_true rfl) ?_
  show Wp (Ev (d + 1)) cd_M_nextToken (0, 0) none _ _ Q 0 [(0, .ref 331)] [] (HS I L X)
  refine w_aload_n (Ev.cm _) rfl rfl ?_
  refine w_aload_n (Ev.cm _) rfl rfl ?_
  refine w_getI (Ev.cm _) rfl (Nat.le_of_ble_eq_true rfl) rfl ?_
  obtain ⟨⟨r1, I1, L1⟩, e1, q⟩ := obs q
  dsimp only at q
  refine w_cvirt (o := 331) (as := [.int (I 331 7)]) (st := []) (Ev.cm _) rfl rfl rfl (Nat.le_of_ble_eq_true rfl) (Nat.le_of_ble_eq_true rfl) rfl (Nat.le_of_ble_eq_true rfl) (eo_M_byteAt (g := ?_) e1)
  show Wp _ _ _ _ _ _ _ 8 [(0, .ref 331)] [.int r1] (HS I1 L1 X)
  refine w_bipush (Ev.cm _) rfl ?_
  refine w_icmp_eq (Ev.cm _) rfl (fun c1 => ?_) (fun c1 => ?_)
  · have c1 : r1 = 32 := c1
    rw [if_pos c1] at q
    refine w_aload_n (Ev.cm _) rfl rfl ?_
    refine w_dup (Ev.cm _) rfl rfl ?_
    refine w_getI (Ev.cm _) rfl (Nat.le_of_ble_eq_true rfl) rfl ?_
    refine w_iconst (Ev.cm _) rfl ?_
    refine w_iadd (Ev.cm _) rfl ?_
    refine w_putI (Ev.cm _) rfl (Nat.le_of_ble_eq_true rfl) rfl ?_
    refine w_goto (Ev.cm _) rfl ?_
    show Wp _ _ _ _ _ _ _ 0 [(0, .ref 331)] [] (HS (sI I1 331 7 ((I1 331 7) + 1)) L1 X)
    refine Wp.sub [0] (ls2 := [(0, .ref 331)]) rfl ?_
    exact lo_M_nextToken_0 g fu _ _ q
  · have c1 : ¬ (r1 = 32) := c1
    rw [if_neg c1] at q
    refine w_aload_n (Ev.cm _) rfl rfl ?_
    refine w_aload_n (Ev.cm _) rfl rfl ?_
    refine w_getI (Ev.cm _) rfl (Nat.le_of_ble_eq_true rfl) rfl ?_
    obtain ⟨⟨r2, I2, L2⟩, e2, q⟩ := obs q
    dsimp only at q
    refine w_cvirt (o := 331) (as := [.int (I1 331 7)]) (st := []) (Ev.cm _) rfl rfl rfl (Nat.le_of_ble_eq_true rfl) (Nat.le_of_ble_eq_true rfl) rfl (Nat.le_of_ble_eq_true rfl) (eo_M_byteAt (g := ?_) e2)
    show Wp _ _ _ _ _ _ _ 21 [(0, .ref 331)] [.int r2] (HS I2 L2 X)
    refine w_bipush (Ev.cm _) rfl ?_
    refine w_icmp_ne (Ev.cm _) rfl (fun c2 => ?_) (fun c2 => ?_)
    · have c2 : ¬ (r2 = 10) := c2
      rw [if_neg c2] at q
      refine w_aload_n (Ev.cm _) rfl rfl ?_
      refine w_aload_n (Ev.cm _) rfl rfl ?_
      refine w_getI (Ev.cm _) rfl (Nat.le_of_ble_eq_true rfl) rfl ?_
      refine w_putI (Ev.cm _) rfl (Nat.le_of_ble_eq_true rfl) rfl ?_
      refine w_aload_n (Ev.cm _) rfl rfl ?_
      refine w_aload_n (Ev.cm _) rfl rfl ?_
      refine w_getI (Ev.cm _) rfl (Nat.le_of_ble_eq_true rfl) rfl ?_
      obtain ⟨⟨r3, I3, L3⟩, e3, q⟩ := obs q
      dsimp only at q
      refine w_cvirt (o := 331) (as := [.int (I2 331 7)]) (st := []) (Ev.cm _) rfl rfl rfl (Nat.le_of_ble_eq_true rfl) (Nat.le_of_ble_eq_true rfl) rfl (Nat.le_of_ble_eq_true rfl) (eo_M_byteAt (g := ?_) e3)
      show Wp _ _ _ _ _ _ _ 55 [(0, .ref 331)] [.int r3] (HS I3 L3 X)
      refine w_istore_n (ls2 := [(0, .ref 331), (1, .int r3)]) (Ev.cm _) rfl rfl ?_
      refine w_iload_n (Ev.cm _) rfl rfl ?_
      refine w_if_ge (Ev.cm _) rfl (fun c3 => ?_) (fun c3 => ?_)
      · have c3 : 0 ≤ r3 := c3
        rw [if_pos c3] at q
        refine w_iload_n (Ev.cm _) rfl rfl ?_
        obtain ⟨⟨r4, I4, L4⟩, e4, q⟩ := obs q
        dsimp only at q
        refine w_cstat (as := [.int r3]) (st := []) (Ev.cm _) rfl rfl rfl (Nat.le_of_ble_eq_true rfl) (Nat.le_of_ble_eq_true rfl) (eo_M_isFigure (g := ?_) e4)
        show Wp _ _ _ _ _ _ _ 72 [(0, .ref 331), (1, .int r3)] [.int r4] (HS I4 L4 X)
        refine w_if_eq (Ev.cm _) rfl (fun c4 => ?_) (fun c4 => ?_)
        · have c4 : r4 = 0 := c4
          rw [if_pos c4] at q
          refine w_iload_n (Ev.cm _) rfl rfl ?_
          obtain ⟨⟨r5, I5, L5⟩, e5, q⟩ := obs q
          dsimp only at q
          refine w_cstat (as := [.int r3]) (st := []) (Ev.cm _) rfl rfl rfl (Nat.le_of_ble_eq_true rfl) (Nat.le_of_ble_eq_true rfl) (eo_M_isLetterByte (g := ?_) e5)
          show Wp _ _ _ _ _ _ _ 155 [(0, .ref 331), (1, .int r3)] [.int r5] (HS I5 L5 X)
          refine w_if_eq (Ev.cm _) rfl (fun c5 => ?_) (fun c5 => ?_)
          · have c5 : r5 = 0 := c5
            rw [if_pos c5] at q
            refine w_aload_n (Ev.cm _) rfl rfl ?_
            refine w_iload_n (Ev.cm _) rfl rfl ?_
            obtain ⟨⟨r6, I6, L6⟩, e6, q⟩ := obs q
            dsimp only at q
            refine w_cstat (as := [.int r3]) (st := [.ref 331]) (Ev.cm _) rfl rfl rfl (Nat.le_of_ble_eq_true rfl) (Nat.le_of_ble_eq_true rfl) (eo_M_isSign (g := ?_) e6)
            show Wp _ _ _ _ _ _ _ 239 [(0, .ref 331), (1, .int r3)] [.int r6, .ref 331] (HS I6 L6 X)
            refine w_if_eq (Ev.cm _) rfl (fun c6 => ?_) (fun c6 => ?_)
            · have c6 : r6 = 0 := c6
              rw [if_pos c6] at q
              refine w_iconst (Ev.cm _) rfl ?_
              refine w_putI (Ev.cm _) rfl (Nat.le_of_ble_eq_true rfl) rfl ?_
              refine w_aload_n (Ev.cm _) rfl rfl ?_
              refine w_dup (Ev.cm _) rfl rfl ?_
              refine w_getI (Ev.cm _) rfl (Nat.le_of_ble_eq_true rfl) rfl ?_
              refine w_iconst (Ev.cm _) rfl ?_
              refine w_iadd (Ev.cm _) rfl ?_
              refine w_putI (Ev.cm _) rfl (Nat.le_of_ble_eq_true rfl) rfl ?_
              refine w_iload_n (Ev.cm _) rfl rfl ?_
              refine w_bipush (Ev.cm _) rfl ?_
              refine w_icmp_eq (Ev.cm _) rfl (fun c7 => ?_) (fun c7 => ?_)
              · have c7 : r3 = 60 := c7
                rw [if_pos c7] at q
                refine w_aload_n (Ev.cm _) rfl rfl ?_
                refine w_aload_n (Ev.cm _) rfl rfl ?_
                refine w_getI (Ev.cm _) rfl (Nat.le_of_ble_eq_true rfl) rfl ?_
                obtain ⟨⟨r7, I7, L7⟩, e7, q⟩ := obs q
                dsimp only at q
                refine w_cvirt (o := 331) (as := [.int ((I6 331 7) + 1)]) (st := []) (Ev.cm _) rfl rfl rfl (Nat.le_of_ble_eq_true rfl) (Nat.le_of_ble_eq_true rfl) rfl (Nat.le_of_ble_eq_true rfl) (eo_M_byteAt (g := ?_) e7)
                show Wp _ _ _ _ _ _ _ 280 [(0, .ref 331), (1, .int r3)] [.int r7] (HS I7 L7 X)
                refine w_bipush (Ev.cm _) rfl ?_
                refine w_icmp_ne (Ev.cm _) rfl (fun c8 => ?_) (fun c8 => ?_)
                · have c8 : ¬ (r7 = 61) := c8
                  rw [if_neg c8] at q
                  refine w_return (Ev.cm _) rfl rfl rf0 ?_
                  cases q
                  exact g
                · have c8 : r7 = 61 := c8
                  rw [if_pos c8] at q
                  refine w_aload_n (Ev.cm _) rfl rfl ?_
                  refine w_iload_n (Ev.cm _) rfl rfl ?_
                  refine w_bipush (Ev.cm _) rfl ?_
                  refine w_icmp_ne (Ev.cm _) rfl (fun c9 => ?_) (fun c9 => ?_)
                  · have c9 : ¬ (r3 = 60) := c9
                    rw [if_neg c9] at q
                    refine w_iconst (Ev.cm _) rfl ?_
                    refine w_putI (Ev.cm _) rfl (Nat.le_of_ble_eq_true rfl) rfl ?_
                    refine w_aload_n (Ev.cm _) rfl rfl ?_
                    refine w_dup (Ev.cm _) rfl rfl ?_
                    refine w_getI (Ev.cm _) rfl (Nat.le_of_ble_eq_true rfl) rfl ?_
                    refine w_iconst (Ev.cm _) rfl ?_
                    refine w_iadd (Ev.cm _) rfl ?_
                    refine w_putI (Ev.cm _) rfl (Nat.le_of_ble_eq_true rfl) rfl ?_
                    refine w_return (Ev.cm _) rfl rfl rf0 ?_
                    cases q
                    exact g
                  · have c9 : r3 = 60 := c9
                    rw [if_pos c9] at q
                    refine w_iconst (Ev.cm _) rfl ?_
                    refine w_goto (Ev.cm _) rfl ?_
                    refine w_putI (Ev.cm _) rfl (Nat.le_of_ble_eq_true rfl) rfl ?_
                    refine w_aload_n (Ev.cm _) rfl rfl ?_
                    refine w_dup (Ev.cm _) rfl rfl ?_
                    refine w_getI (Ev.cm _) rfl (Nat.le_of_ble_eq_true rfl) rfl ?_
                    refine w_iconst (Ev.cm _) rfl ?_
                    refine w_iadd (Ev.cm _) rfl ?_
                    refine w_putI (Ev.cm _) rfl (Nat.le_of_ble_eq_true rfl) rfl ?_
                    refine w_return (Ev.cm _) rfl rfl rf0 ?_
                    cases q
                    exact g
              · have c7 : ¬ (r3 = 60) := c7
                rw [if_neg c7] at q
                refine w_iload_n (Ev.cm _) rfl rfl ?_
                refine w_bipush (Ev.cm _) rfl ?_
                refine w_icmp_ne (Ev.cm _) rfl (fun c10 => ?_) (fun c10 => ?_)
                · have c10 : ¬ (r3 = 62) := c10
                  rw [if_neg c10] at q
                  refine w_return (Ev.cm _) rfl rfl rf0 ?_
                  cases q
                  exact g
                · have c10 : r3 = 62 := c10
                  rw [if_pos c10] at q
                  refine w_aload_n (Ev.cm _) rfl rfl ?_
                  refine w_aload_n (Ev.cm _) rfl rfl ?_
                  refine w_getI (Ev.cm _) rfl (Nat.le_of_ble_eq_true rfl) rfl ?_
                  obtain ⟨⟨r8, I8, L8⟩, e8, q⟩ := obs q
                  dsimp only at q
                  refine w_cvirt (o := 331) (as := [.int ((I6 331 7) + 1)]) (st := []) (Ev.cm _) rfl rfl rfl (Nat.le_of_ble_eq_true rfl) (Nat.le_of_ble_eq_true rfl) rfl (Nat.le_of_ble_eq_true rfl) (eo_M_byteAt (g := ?_) e8)
                  show Wp _ _ _ _ _ _ _ 280 [(0, .ref 331), (1, .int r3)] [.int r8] (HS I8 L8 X)
                  refine w_bipush (Ev.cm _) rfl ?_
                  refine w_icmp_ne (Ev.cm _) rfl (fun c11 => ?_) (fun c11 => ?_)
                  · have c11 : ¬ (r8 = 61) := c11
                    rw [if_neg c11] at q
                    refine w_return (Ev.cm _) rfl rfl rf0 ?_
                    cases q
                    exact g
                  · have c11 : r8 = 61 := c11
                    rw [if_pos c11] at q
                    refine w_aload_n (Ev.cm _) rfl rfl ?_
                    refine w_iload_n (Ev.cm _) rfl rfl ?_
                    refine w_bipush (Ev.cm _) rfl ?_
                    refine w_icmp_ne (Ev.cm _) rfl (fun c12 => ?_) (fun c12 => ?_)
                    · have c12 : ¬ (r3 = 60) := c12
                      rw [if_neg c12] at q
                      refine w_iconst (Ev.cm _) rfl ?_
                      refine w_putI (Ev.cm _) rfl (Nat.le_of_ble_eq_true rfl) rfl ?_
                      refine w_aload_n (Ev.cm _) rfl rfl ?_
                      refine w_dup (Ev.cm _) rfl rfl ?_
                      refine w_getI (Ev.cm _) rfl (Nat.le_of_ble_eq_true rfl) rfl ?_
                      refine w_iconst (Ev.cm _) rfl ?_
                      refine w_iadd (Ev.cm _) rfl ?_
                      refine w_putI (Ev.cm _) rfl (Nat.le_of_ble_eq_true rfl) rfl ?_
                      refine w_return (Ev.cm _) rfl rfl rf0 ?_
                      cases q
                      exact g
                    · have c12 : r3 = 60 := c12
                      rw [if_pos c12] at q
                      refine w_iconst (Ev.cm _) rfl ?_
                      refine w_goto (Ev.cm _) rfl ?_
                      refine w_putI (Ev.cm _) rfl (Nat.le_of_ble_eq_true rfl) rfl ?_
                      refine w_aload_n (Ev.cm _) rfl rfl ?_
                      refine w_dup (Ev.cm _) rfl rfl ?_
                      refine w_getI (Ev.cm _) rfl (Nat.le_of_ble_eq_true rfl) rfl ?_
                      refine w_iconst (Ev.cm _) rfl ?_
                      refine w_iadd (Ev.cm _) rfl ?_
                      refine w_putI (Ev.cm _) rfl (Nat.le_of_ble_eq_true rfl) rfl ?_
                      refine w_return (Ev.cm _) rfl rfl rf0 ?_
                      cases q
                      exact g
            · have c6 : ¬ (r6 = 0) := c6
              rw [if_neg c6] at q
              refine w_iload_n (Ev.cm _) rfl rfl ?_
              refine w_goto (Ev.cm _) rfl ?_
              refine w_putI (Ev.cm _) rfl (Nat.le_of_ble_eq_true rfl) rfl ?_
              refine w_aload_n (Ev.cm _) rfl rfl ?_
              refine w_dup (Ev.cm _) rfl rfl ?_
              refine w_getI (Ev.cm _) rfl (Nat.le_of_ble_eq_true rfl) rfl ?_
              refine w_iconst (Ev.cm _) rfl ?_
              refine w_iadd (Ev.cm _) rfl ?_
              refine w_putI (Ev.cm _) rfl (Nat.le_of_ble_eq_true rfl) rfl ?_
              refine w_iload_n (Ev.cm _) rfl rfl ?_
              refine w_bipush (Ev.cm _) rfl ?_
              refine w_icmp_eq (Ev.cm _) rfl (fun c13 => ?_) (fun c13 => ?_)
              · have c13 : r3 = 60 := c13
                rw [if_pos c13] at q
                refine w_aload_n (Ev.cm _) rfl rfl ?_
                refine w_aload_n (Ev.cm _) rfl rfl ?_
                refine w_getI (Ev.cm _) rfl (Nat.le_of_ble_eq_true rfl) rfl ?_
                obtain ⟨⟨r9, I9, L9⟩, e9, q⟩ := obs q
                dsimp only at q
                refine w_cvirt (o := 331) (as := [.int ((I6 331 7) + 1)]) (st := []) (Ev.cm _) rfl rfl rfl (Nat.le_of_ble_eq_true rfl) (Nat.le_of_ble_eq_true rfl) rfl (Nat.le_of_ble_eq_true rfl) (eo_M_byteAt (g := ?_) e9)
                show Wp _ _ _ _ _ _ _ 280 [(0, .ref 331), (1, .int r3)] [.int r9] (HS I9 L9 X)
                refine w_bipush (Ev.cm _) rfl ?_
                refine w_icmp_ne (Ev.cm _) rfl (fun c14 => ?_) (fun c14 => ?_)
                · have c14 : ¬ (r9 = 61) := c14
                  rw [if_neg c14] at q
                  refine w_return (Ev.cm _) rfl rfl rf0 ?_
                  cases q
                  exact g
                · have c14 : r9 = 61 := c14
                  rw [if_pos c14] at q
                  refine w_aload_n (Ev.cm _) rfl rfl ?_
                  refine w_iload_n (Ev.cm _) rfl rfl ?_
                  refine w_bipush (Ev.cm _) rfl ?_
                  refine w_icmp_ne (Ev.cm _) rfl (fun c15 => ?_) (fun c15 => ?_)
                  · have c15 : ¬ (r3 = 60) := c15
                    rw [if_neg c15] at q
                    refine w_iconst (Ev.cm _) rfl ?_
                    refine w_putI (Ev.cm _) rfl (Nat.le_of_ble_eq_true rfl) rfl ?_
                    refine w_aload_n (Ev.cm _) rfl rfl ?_
                    refine w_dup (Ev.cm _) rfl rfl ?_
                    refine w_getI (Ev.cm _) rfl (Nat.le_of_ble_eq_true rfl) rfl ?_
                    refine w_iconst (Ev.cm _) rfl ?_
                    refine w_iadd (Ev.cm _) rfl ?_
                    refine w_putI (Ev.cm _) rfl (Nat.le_of_ble_eq_true rfl) rfl ?_
                    refine w_return (Ev.cm _) rfl rfl rf0 ?_
                    cases q
                    exact g
                  · have c15 : r3 = 60 := c15
                    rw [if_pos c15] at q
                    refine w_iconst (Ev.cm _) rfl ?_
                    refine w_goto (Ev.cm _) rfl ?_
                    refine w_putI (Ev.cm _) rfl (Nat.le_of_ble_eq_true rfl) rfl ?_
                    refine w_aload_n (Ev.cm _) rfl rfl ?_
                    refine w_dup (Ev.cm _) rfl rfl ?_
                    refine w_getI (Ev.cm _) rfl (Nat.le_of_ble_eq_true rfl) rfl ?_
                    refine w_iconst (Ev.cm _) rfl ?_
                    refine w_iadd (Ev.cm _) rfl ?_
                    refine w_putI (Ev.cm _) rfl (Nat.le_of_ble_eq_true rfl) rfl ?_
                    refine w_return (Ev.cm _) rfl rfl rf0 ?_
                    cases q
                    exact g
              · have c13 : ¬ (r3 = 60) := c13
                rw [if_neg c13] at q
                refine w_iload_n (Ev.cm _) rfl rfl ?_
                refine w_bipush (Ev.cm _) rfl ?_
                refine w_icmp_ne (Ev.cm _) rfl (fun c16 => ?_) (fun c16 => ?_)
                · have c16 : ¬ (r3 = 62) := c16
                  rw [if_neg c16] at q
                  refine w_return (Ev.cm _) rfl rfl rf0 ?_
                  cases q
                  exact g
                · have c16 : r3 = 62 := c16
                  rw [if_pos c16] at q
                  refine w_aload_n (Ev.cm _) rfl rfl ?_
                  refine w_aload_n (Ev.cm _) rfl rfl ?_
                  refine w_getI (Ev.cm _) rfl (Nat.le_of_ble_eq_true rfl) rfl ?_
                  obtain ⟨⟨r10, I10, L10⟩, e10, q⟩ := obs q
                  dsimp only at q
                  refine w_cvirt (o := 331) (as := [.int ((I6 331 7) + 1)]) (st := []) (Ev.cm _) rfl rfl rfl (Nat.le_of_ble_eq_true rfl) (Nat.le_of_ble_eq_true rfl) rfl (Nat.le_of_ble_eq_true rfl) (eo_M_byteAt (g := ?_) e10)
                  show Wp _ _ _ _ _ _ _ 280 [(0, .ref 331), (1, .int r3)] [.int r10] (HS I10 L10 X)
                  refine w_bipush (Ev.cm _) rfl ?_
                  refine w_icmp_ne (Ev.cm _) rfl (fun c17 => ?_) (fun c17 => ?_)
                  · have c17 : ¬ (r10 = 61) := c17
                    rw [if_neg c17] at q
                    refine w_return (Ev.cm _) rfl rfl rf0 ?_
                    cases q
                    exact g
                  · have c17 : r10 = 61 := c17
                    rw [if_pos c17] at q
                    refine w_aload_n (Ev.cm _) rfl rfl ?_
                    refine w_iload_n (Ev.cm _) rfl rfl ?_
                    refine w_bipush (Ev.cm _) rfl ?_
                    refine w_icmp_ne (Ev.cm _) rfl (fun c18 => ?_) (fun c18 => ?_)
                    · have c18 : ¬ (r3 = 60) := c18
                      rw [if_neg c18] at q
                      refine w_iconst (Ev.cm _) rfl ?_
                      refine w_putI (Ev.cm _) rfl (Nat.le_of_ble_eq_true rfl) rfl ?_
                      refine w_aload_n (Ev.cm _) rfl rfl ?_
                      refine w_dup (Ev.cm _) rfl rfl ?_
                      refine w_getI (Ev.cm _) rfl (Nat.le_of_ble_eq_true rfl) rfl ?_
                      refine w_iconst (Ev.cm _) rfl ?_
                      refine w_iadd (Ev.cm _) rfl ?_
                      refine w_putI (Ev.cm _) rfl (Nat.le_of_ble_eq_true rfl) rfl ?_
                      refine w_return (Ev.cm _) rfl rfl rf0 ?_
                      cases q
                      exact g
                    · have c18 : r3 = 60 := c18
                      rw [if_pos c18] at q
                      refine w_iconst (Ev.cm _) rfl ?_
                      refine w_goto (Ev.cm _) rfl ?_
                      refine w_putI (Ev.cm _) rfl (Nat.le_of_ble_eq_true rfl) rfl ?_
                      refine w_aload_n (Ev.cm _) rfl rfl ?_
                      refine w_dup (Ev.cm _) rfl rfl ?_
                      refine w_getI (Ev.cm _) rfl (Nat.le_of_ble_eq_true rfl) rfl ?_
                      refine w_iconst (Ev.cm _) rfl ?_
                      refine w_iadd (Ev.cm _) rfl ?_
                      refine w_putI (Ev.cm _) rfl (Nat.le_of_ble_eq_true rfl) rfl ?_
                      refine w_return (Ev.cm _) rfl rfl rf0 ?_
                      cases q
                      exact g
          · have c5 : ¬ (r5 = 0) := c5
            rw [if_neg c5] at q
            refine w_aload_n (Ev.cm _) rfl rfl ?_
            refine w_iconst (Ev.cm _) rfl ?_
            refine w_putI (Ev.cm _) rfl (Nat.le_of_ble_eq_true rfl) rfl ?_
            refine w_aload_n (Ev.cm _) rfl rfl ?_
            refine w_lconst (Ev.cm _) rfl ?_
            refine w_putL (Ev.cm _) rfl (Nat.le_of_ble_eq_true rfl) rfl ?_
            show Wp _ _ _ _ _ _ _ 168 [(0, .ref 331), (1, .int r3)] [] (HS (sI I5 331 9 2) (sL L5 331 11 0) X)
            refine Wp.sub [0, 1] (ls2 := [(0, .ref 331), (1, .int r3)]) rfl ?_
            exact lo_M_nextToken_168 g fu _ _ _ q
        · have c4 : ¬ (r4 = 0) := c4
          rw [if_neg c4] at q
          refine w_aload_n (Ev.cm _) rfl rfl ?_
          refine w_iconst (Ev.cm _) rfl ?_
          refine w_putI (Ev.cm _) rfl (Nat.le_of_ble_eq_true rfl) rfl ?_
          refine w_aload_n (Ev.cm _) rfl rfl ?_
          refine w_iconst (Ev.cm _) rfl ?_
          refine w_putI (Ev.cm _) rfl (Nat.le_of_ble_eq_true rfl) rfl ?_
          show Wp _ _ _ _ _ _ _ 85 [(0, .ref 331), (1, .int r3)] [] (HS (sI (sI I4 331 9 1) 331 10 0) L4 X)
          refine Wp.sub [0, 1] (ls2 := [(0, .ref 331), (1, .int r3)]) rfl ?_
          exact lo_M_nextToken_85 g fu _ _ _ q
      · have c3 : ¬ (0 ≤ r3) := c3
        rw [if_neg c3] at q
        refine w_aload_n (Ev.cm _) rfl rfl ?_
        refine w_iconst (Ev.cm _) rfl ?_
        refine w_putI (Ev.cm _) rfl (Nat.le_of_ble_eq_true rfl) rfl ?_
        refine w_goto (Ev.cm _) rfl ?_
        refine w_return (Ev.cm _) rfl rfl rf0 ?_
        cases q
        exact g
    · have c2 : r2 = 10 := c2
      rw [if_pos c2] at q
      refine w_aload_n (Ev.cm _) rfl rfl ?_
      refine w_dup (Ev.cm _) rfl rfl ?_
      refine w_getI (Ev.cm _) rfl (Nat.le_of_ble_eq_true rfl) rfl ?_
      refine w_iconst (Ev.cm _) rfl ?_
      refine w_iadd (Ev.cm _) rfl ?_
      refine w_putI (Ev.cm _) rfl (Nat.le_of_ble_eq_true rfl) rfl ?_
      refine w_goto (Ev.cm _) rfl ?_
      show Wp _ _ _ _ _ _ _ 0 [(0, .ref 331)] [] (HS (sI I2 331 7 ((I2 331 7) + 1)) L2 X)
      refine Wp.sub [0] (ls2 := [(0, .ref 331)]) rfl ?_
      exact lo_M_nextToken_0 g fu _ _ q
def FO_M_w2 (fu : Nat) (p0 : Int32) (p1 : Int32) (I : Nat → Nat → Int32) (L : Nat → Nat → Int64) : Option (Int64 × (Nat → Nat → Int32) × (Nat → Nat → Int64)) := some ((((p0 : Int32).toInt64) <<< ((8 : Int32).toInt64 &&& 63)) ||| ((p1 : Int32).toInt64), I, L)
set_option maxHeartbeats 20000000 in
set_option maxRecDepth 20000 in
theorem eo_M_w2 {d fu : Nat} {p0 : Int32} {p1 : Int32} {I : Nat → Nat → Int32} {L : Nat → Nat → Int64} {X : Nat × (Nat → Int32)} {Q : PQ} {res : Int64 × (Nat → Nat → Int32) × (Nat → Nat → Int64)}  (g : Q (some (.long res.1)) (HS res.2.1 res.2.2 X)) (q : FO_M_w2 fu p0 p1 I L = some res) : Ev (d + 1) m_M_w2 [.int p0, .int p1] (HS I L X) Q := by
  unfold FO_M_w2 at q
  refine ev_start (d := d + 0) rfl rfl rfl (Nat.le_of_ble_eq_true rfl) ?_
  show Wp (Ev (d + 0)) cd_M_w2 (0, 0) (some .long) _ _ Q 0 [(0, .int p0), (1, .int p1)] [] (HS I L X)
  refine w_iload_n (Ev.cm _) rfl rfl ?_
  refine w_i2l (Ev.cm _) rfl ?_
  refine w_bipush (Ev.cm _) rfl ?_
  refine w_lshl (Ev.cm _) rfl ?_
  refine w_iload_n (Ev.cm _) rfl rfl ?_
  refine w_i2l (Ev.cm _) rfl ?_
  refine w_lor (Ev.cm _) rfl ?_
  refine w_lreturn (Ev.cm _) rfl rfl rf0 ?_
  cases q
  exact g
def FO_M_w3 (fu : Nat) (p0 : Int32) (p1 : Int32) (p2 : Int32) (I : Nat → Nat → Int32) (L : Nat → Nat → Int64) : Option (Int64 × (Nat → Nat → Int32) × (Nat → Nat → Int64)) := (FO_M_w2 fu p0 p1 I L).bind (fun u1 => let r1 := u1.1; let I1 := u1.2.1; let L1 := u1.2.2; some ((r1 <<< ((8 : Int32).toInt64 &&& 63)) ||| ((p2 : Int32).toInt64), I1, L1))
set_option maxHeartbeats 20000000 in
set_option maxRecDepth 20000 in
theorem eo_M_w3 {d fu : Nat} {p0 : Int32} {p1 : Int32} {p2 : Int32} {I : Nat → Nat → Int32} {L : Nat → Nat → Int64} {X : Nat × (Nat → Int32)} {Q : PQ} {res : Int64 × (Nat → Nat → Int32) × (Nat → Nat → Int64)}  (g : Q (some (.long res.1)) (HS res.2.1 res.2.2 X)) (q : FO_M_w3 fu p0 p1 p2 I L = some res) : Ev (d + 2) m_M_w3 [.int p0, .int p1, .int p2] (HS I L X) Q := by
  unfold FO_M_w3 at q
  refine ev_start (d := d + 1) rfl rfl rfl (Nat.le_of_ble_eq_true rfl) ?_
  show Wp (Ev (d + 1)) cd_M_w3 (0, 0) (some .long) _ _ Q 0 [(0, .int p0), (1, .int p1), (2, .int p2)] [] (HS I L X)
  refine w_iload_n (Ev.cm _) rfl rfl ?_
  refine w_iload_n (Ev.cm _) rfl rfl ?_
  obtain ⟨⟨r1, I1, L1⟩, e1, q⟩ := obs q
  dsimp only at q
  refine w_cstat (as := [.int p0, .int p1]) (st := []) (Ev.cm _) rfl rfl rfl (Nat.le_of_ble_eq_true rfl) (Nat.le_of_ble_eq_true rfl) (eo_M_w2 (g := ?_) e1)
  show Wp _ _ _ _ _ _ _ 5 [(0, .int p0), (1, .int p1), (2, .int p2)] [.long r1] (HS I1 L1 X)
  refine w_bipush (Ev.cm _) rfl ?_
  refine w_lshl (Ev.cm _) rfl ?_
  refine w_iload_n (Ev.cm _) rfl rfl ?_
  refine w_i2l (Ev.cm _) rfl ?_
  refine w_lor (Ev.cm _) rfl ?_
  refine w_lreturn (Ev.cm _) rfl rfl rf0 ?_
  cases q
  exact g
def FO_M_w4 (fu : Nat) (p0 : Int32) (p1 : Int32) (p2 : Int32) (p3 : Int32) (I : Nat → Nat → Int32) (L : Nat → Nat → Int64) : Option (Int64 × (Nat → Nat → Int32) × (Nat → Nat → Int64)) := (FO_M_w3 fu p0 p1 p2 I L).bind (fun u1 => let r1 := u1.1; let I1 := u1.2.1; let L1 := u1.2.2; some ((r1 <<< ((8 : Int32).toInt64 &&& 63)) ||| ((p3 : Int32).toInt64), I1, L1))
set_option maxHeartbeats 20000000 in
set_option maxRecDepth 20000 in
theorem eo_M_w4 {d fu : Nat} {p0 : Int32} {p1 : Int32} {p2 : Int32} {p3 : Int32} {I : Nat → Nat → Int32} {L : Nat → Nat → Int64} {X : Nat × (Nat → Int32)} {Q : PQ} {res : Int64 × (Nat → Nat → Int32) × (Nat → Nat → Int64)}  (g : Q (some (.long res.1)) (HS res.2.1 res.2.2 X)) (q : FO_M_w4 fu p0 p1 p2 p3 I L = some res) : Ev (d + 3) m_M_w4 [.int p0, .int p1, .int p2, .int p3] (HS I L X) Q := by
  unfold FO_M_w4 at q
  refine ev_start (d := d + 2) rfl rfl rfl (Nat.le_of_ble_eq_true rfl) ?_
  show Wp (Ev (d + 2)) cd_M_w4 (0, 0) (some .long) _ _ Q 0 [(0, .int p0), (1, .int p1), (2, .int p2), (3, .int p3)] [] (HS I L X)
  refine w_iload_n (Ev.cm _) rfl rfl ?_
  refine w_iload_n (Ev.cm _) rfl rfl ?_
  refine w_iload_n (Ev.cm _) rfl rfl ?_
  obtain ⟨⟨r1, I1, L1⟩, e1, q⟩ := obs q
  dsimp only at q
  refine w_cstat (as := [.int p0, .int p1, .int p2]) (st := []) (Ev.cm _) rfl rfl rfl (Nat.le_of_ble_eq_true rfl) (Nat.le_of_ble_eq_true rfl) (eo_M_w3 (g := ?_) e1)
  show Wp _ _ _ _ _ _ _ 6 [(0, .int p0), (1, .int p1), (2, .int p2), (3, .int p3)] [.long r1] (HS I1 L1 X)
  refine w_bipush (Ev.cm _) rfl ?_
  refine w_lshl (Ev.cm _) rfl ?_
  refine w_iload_n (Ev.cm _) rfl rfl ?_
  refine w_i2l (Ev.cm _) rfl ?_
  refine w_lor (Ev.cm _) rfl ?_
  refine w_lreturn (Ev.cm _) rfl rfl rf0 ?_
  cases q
  exact g
def FO_M_w5 (fu : Nat) (p0 : Int32) (p1 : Int32) (p2 : Int32) (p3 : Int32) (p4 : Int32) (I : Nat → Nat → Int32) (L : Nat → Nat → Int64) : Option (Int64 × (Nat → Nat → Int32) × (Nat → Nat → Int64)) := (FO_M_w4 fu p0 p1 p2 p3 I L).bind (fun u1 => let r1 := u1.1; let I1 := u1.2.1; let L1 := u1.2.2; some ((r1 <<< ((8 : Int32).toInt64 &&& 63)) ||| ((p4 : Int32).toInt64), I1, L1))
set_option maxHeartbeats 20000000 in
set_option maxRecDepth 20000 in
theorem eo_M_w5 {d fu : Nat} {p0 : Int32} {p1 : Int32} {p2 : Int32} {p3 : Int32} {p4 : Int32} {I : Nat → Nat → Int32} {L : Nat → Nat → Int64} {X : Nat × (Nat → Int32)} {Q : PQ} {res : Int64 × (Nat → Nat → Int32) × (Nat → Nat → Int64)}  (g : Q (some (.long res.1)) (HS res.2.1 res.2.2 X)) (q : FO_M_w5 fu p0 p1 p2 p3 p4 I L = some res) : Ev (d + 4) m_M_w5 [.int p0, .int p1, .int p2, .int p3, .int p4] (HS I L X) Q := by
  unfold FO_M_w5 at q
  refine ev_start (d := d + 3) rfl rfl rfl (Nat.le_of_ble_eq_true rfl) ?_
  show Wp (Ev (d + 3)) cd_M_w5 (0, 0) (some .long) _ _ Q 0 [(0, .int p0), (1, .int p1), (2, .int p2), (3, .int p3), (4, .int p4)] [] (HS I L X)
  refine w_iload_n (Ev.cm _) rfl rfl ?_
  refine w_iload_n (Ev.cm _) rfl rfl ?_
  refine w_iload_n (Ev.cm _) rfl rfl ?_
  refine w_iload_n (Ev.cm _) rfl rfl ?_
  obtain ⟨⟨r1, I1, L1⟩, e1, q⟩ := obs q
  dsimp only at q
  refine w_cstat (as := [.int p0, .int p1, .int p2, .int p3]) (st := []) (Ev.cm _) rfl rfl rfl (Nat.le_of_ble_eq_true rfl) (Nat.le_of_ble_eq_true rfl) (eo_M_w4 (g := ?_) e1)
  show Wp _ _ _ _ _ _ _ 7 [(0, .int p0), (1, .int p1), (2, .int p2), (3, .int p3), (4, .int p4)] [.long r1] (HS I1 L1 X)
  refine w_bipush (Ev.cm _) rfl ?_
  refine w_lshl (Ev.cm _) rfl ?_
  refine w_iload (Ev.cm _) rfl rfl ?_
  refine w_i2l (Ev.cm _) rfl ?_
  refine w_lor (Ev.cm _) rfl ?_
  refine w_lreturn (Ev.cm _) rfl rfl rf0 ?_
  cases q
  exact g
def FO_M_w6 (fu : Nat) (p0 : Int32) (p1 : Int32) (p2 : Int32) (p3 : Int32) (p4 : Int32) (p5 : Int32) (I : Nat → Nat → Int32) (L : Nat → Nat → Int64) : Option (Int64 × (Nat → Nat → Int32) × (Nat → Nat → Int64)) := (FO_M_w5 fu p0 p1 p2 p3 p4 I L).bind (fun u1 => let r1 := u1.1; let I1 := u1.2.1; let L1 := u1.2.2; some ((r1 <<< ((8 : Int32).toInt64 &&& 63)) ||| ((p5 : Int32).toInt64), I1, L1))
set_option maxHeartbeats 20000000 in
set_option maxRecDepth 20000 in
theorem eo_M_w6 {d fu : Nat} {p0 : Int32} {p1 : Int32} {p2 : Int32} {p3 : Int32} {p4 : Int32} {p5 : Int32} {I : Nat → Nat → Int32} {L : Nat → Nat → Int64} {X : Nat × (Nat → Int32)} {Q : PQ} {res : Int64 × (Nat → Nat → Int32) × (Nat → Nat → Int64)}  (g : Q (some (.long res.1)) (HS res.2.1 res.2.2 X)) (q : FO_M_w6 fu p0 p1 p2 p3 p4 p5 I L = some res) : Ev (d + 5) m_M_w6 [.int p0, .int p1, .int p2, .int p3, .int p4, .int p5] (HS I L X) Q := by
  unfold FO_M_w6 at q
  refine ev_start (d := d + 4) rfl rfl rfl (Nat.le_of_ble_eq_true rfl) ?_
  show Wp (Ev (d + 4)) cd_M_w6 (0, 0) (some .long) _ _ Q 0 [(0, .int p0), (1, .int p1), (2, .int p2), (3, .int p3), (4, .int p4), (5, .int p5)] [] (HS I L X)
  refine w_iload_n (Ev.cm _) rfl rfl ?_
  refine w_iload_n (Ev.cm _) rfl rfl ?_
  refine w_iload_n (Ev.cm _) rfl rfl ?_
  refine w_iload_n (Ev.cm _) rfl rfl ?_
  refine w_iload (Ev.cm _) rfl rfl ?_
  obtain ⟨⟨r1, I1, L1⟩, e1, q⟩ := obs q
  dsimp only at q
  refine w_cstat (as := [.int p0, .int p1, .int p2, .int p3, .int p4]) (st := []) (Ev.cm _) rfl rfl rfl (Nat.le_of_ble_eq_true rfl) (Nat.le_of_ble_eq_true rfl) (eo_M_w5 (g := ?_) e1)
  show Wp _ _ _ _ _ _ _ 9 [(0, .int p0), (1, .int p1), (2, .int p2), (3, .int p3), (4, .int p4), (5, .int p5)] [.long r1] (HS I1 L1 X)
  refine w_bipush (Ev.cm _) rfl ?_
  refine w_lshl (Ev.cm _) rfl ?_
  refine w_iload (Ev.cm _) rfl rfl ?_
  refine w_i2l (Ev.cm _) rfl ?_
  refine w_lor (Ev.cm _) rfl ?_
  refine w_lreturn (Ev.cm _) rfl rfl rf0 ?_
  cases q
  exact g
def FO_M_isWord (fu : Nat) (p0 : Int64) (I : Nat → Nat → Int32) (L : Nat → Nat → Int64) : Option (Int32 × (Nat → Nat → Int32) × (Nat → Nat → Int64)) := if I 331 9 = 2 then (if lg_cmp (L 331 11) p0 = 0 then (some (1, I, L)) else (some (0, I, L))) else (some (0, I, L))
set_option maxHeartbeats 20000000 in
set_option maxRecDepth 20000 in
theorem eo_M_isWord {d fu : Nat} {p0 : Int64} {I : Nat → Nat → Int32} {L : Nat → Nat → Int64} {X : Nat × (Nat → Int32)} {Q : PQ} {res : Int32 × (Nat → Nat → Int32) × (Nat → Nat → Int64)}  (g : Q (some (.int res.1)) (HS res.2.1 res.2.2 X)) (q : FO_M_isWord fu p0 I L = some res) : Ev (d + 1) m_M_isWord [.ref 331, .long p0] (HS I L X) Q := by
  unfold FO_M_isWord at q
  refine ev_start (d := d + 0) rfl rfl rfl (Nat.le_of_ble_eq_true rfl) ?_
  show Wp (Ev (d + 0)) cd_M_isWord (0, 0) (some .boolean) _ _ Q 0 [(0, .ref 331), (1, .long p0)] [] (HS I L X)
  refine w_aload_n (Ev.cm _) rfl rfl ?_
  refine w_getI (Ev.cm _) rfl (Nat.le_of_ble_eq_true rfl) rfl ?_
  refine w_iconst (Ev.cm _) rfl ?_
  refine w_icmp_ne (Ev.cm _) rfl (fun c1 => ?_) (fun c1 => ?_)
  · have c1 : ¬ (I 331 9 = 2) := c1
    rw [if_neg c1] at q
    refine w_iconst (Ev.cm _) rfl ?_
    refine w_ireturn (Ev.cm _) rfl (by first | exact rok_0 | exact rok_1 | exact rok_b) rf0 ?_
    cases q
    exact g
  · have c1 : I 331 9 = 2 := c1
    rw [if_pos c1] at q
    refine w_aload_n (Ev.cm _) rfl rfl ?_
    refine w_getL (Ev.cm _) rfl (Nat.le_of_ble_eq_true rfl) rfl ?_
    refine w_lload_n (Ev.cm _) rfl rfl ?_
    refine w_lcmp (Ev.cm _) rfl ?_
    refine w_if_ne (Ev.cm _) rfl (fun c2 => ?_) (fun c2 => ?_)
    · have c2 : ¬ (lg_cmp (L 331 11) p0 = 0) := c2
      rw [if_neg c2] at q
      refine w_iconst (Ev.cm _) rfl ?_
      refine w_ireturn (Ev.cm _) rfl (by first | exact rok_0 | exact rok_1 | exact rok_b) rf0 ?_
      cases q
      exact g
    · have c2 : lg_cmp (L 331 11) p0 = 0 := c2
      rw [if_pos c2] at q
      refine w_iconst (Ev.cm _) rfl ?_
      refine w_goto (Ev.cm _) rfl ?_
      refine w_ireturn (Ev.cm _) rfl (by first | exact rok_0 | exact rok_1 | exact rok_b) rf0 ?_
      cases q
      exact g
def FO_M_emit (fu : Nat) (p0 : Int32) (p1 : Int32) (I : Nat → Nat → Int32) (L : Nat → Nat → Int64) : Option (Unit × (Nat → Nat → Int32) × (Nat → Nat → Int64)) := if 0 ≤ ((I 331 12) + 73) + ((2 : Int32) * (I 331 13)) ∧ ((I 331 12) + 73) + ((2 : Int32) * (I 331 13)) < 2724 then (if 0 ≤ (((I 331 12) + 73) + ((2 : Int32) * (I 331 13))) + 1 ∧ (((I 331 12) + 73) + ((2 : Int32) * (I 331 13))) + 1 < 2724 then (some ((), sI (sI (sI I 334 ((((I 331 12) + 73) + ((2 : Int32) * (I 331 13))).toNatClampNeg) p0) 334 (((((I 331 12) + 73) + ((2 : Int32) * (I 331 13))) + 1).toNatClampNeg) p1) 331 13 ((I 331 13) + 1), L)) else none) else none
set_option maxHeartbeats 20000000 in
set_option maxRecDepth 20000 in
theorem eo_M_emit {d fu : Nat} {p0 : Int32} {p1 : Int32} {I : Nat → Nat → Int32} {L : Nat → Nat → Int64} {X : Nat × (Nat → Int32)} {Q : PQ} {res : Unit × (Nat → Nat → Int32) × (Nat → Nat → Int64)}  (g : Q none (HS res.2.1 res.2.2 X)) (q : FO_M_emit fu p0 p1 I L = some res) : Ev (d + 1) m_M_emit [.ref 331, .int p0, .int p1] (HS I L X) Q := by
  unfold FO_M_emit at q
  refine ev_start (d := d + 0) rfl rfl rfl (Nat.le_of_ble_eq_true rfl) ?_
  show Wp (Ev (d + 0)) cd_M_emit (0, 0) none _ _ Q 0 [(0, .ref 331), (1, .int p0), (2, .int p1)] [] (HS I L X)
  refine w_aload_n (Ev.cm _) rfl rfl ?_
  refine w_getR (q := 334) (Ev.cm _) rfl (Nat.le_of_ble_eq_true rfl) rfl rfl ?_
  refine w_aload_n (Ev.cm _) rfl rfl ?_
  refine w_getI (Ev.cm _) rfl (Nat.le_of_ble_eq_true rfl) rfl ?_
  refine w_bipush (Ev.cm _) rfl ?_
  refine w_iadd (Ev.cm _) rfl ?_
  refine w_iconst (Ev.cm _) rfl ?_
  refine w_aload_n (Ev.cm _) rfl rfl ?_
  refine w_getI (Ev.cm _) rfl (Nat.le_of_ble_eq_true rfl) rfl ?_
  refine w_imul (Ev.cm _) rfl ?_
  refine w_iadd (Ev.cm _) rfl ?_
  refine w_iload_n (Ev.cm _) rfl rfl ?_
  obtain ⟨b1, q⟩ := ois q
  refine w_iast (Ev.cm _) rfl (Nat.le_of_ble_eq_true rfl) rfl (show vp_in (((I 331 12) + 73) + ((2 : Int32) * (I 331 13))) 2724 from vpI 2724 (by decide) b1.1 b1.2) ?_
  refine w_aload_n (Ev.cm _) rfl rfl ?_
  refine w_getR (q := 334) (Ev.cm _) rfl (Nat.le_of_ble_eq_true rfl) rfl rfl ?_
  refine w_aload_n (Ev.cm _) rfl rfl ?_
  refine w_getI (Ev.cm _) rfl (Nat.le_of_ble_eq_true rfl) rfl ?_
  refine w_bipush (Ev.cm _) rfl ?_
  refine w_iadd (Ev.cm _) rfl ?_
  refine w_iconst (Ev.cm _) rfl ?_
  refine w_aload_n (Ev.cm _) rfl rfl ?_
  refine w_getI (Ev.cm _) rfl (Nat.le_of_ble_eq_true rfl) rfl ?_
  refine w_imul (Ev.cm _) rfl ?_
  refine w_iadd (Ev.cm _) rfl ?_
  refine w_iconst (Ev.cm _) rfl ?_
  refine w_iadd (Ev.cm _) rfl ?_
  refine w_iload_n (Ev.cm _) rfl rfl ?_
  obtain ⟨b2, q⟩ := ois q
  refine w_iast (Ev.cm _) rfl (Nat.le_of_ble_eq_true rfl) rfl (show vp_in ((((I 331 12) + 73) + ((2 : Int32) * (I 331 13))) + 1) 2724 from vpI 2724 (by decide) b2.1 b2.2) ?_
  refine w_aload_n (Ev.cm _) rfl rfl ?_
  refine w_dup (Ev.cm _) rfl rfl ?_
  refine w_getI (Ev.cm _) rfl (Nat.le_of_ble_eq_true rfl) rfl ?_
  refine w_iconst (Ev.cm _) rfl ?_
  refine w_iadd (Ev.cm _) rfl ?_
  refine w_putI (Ev.cm _) rfl (Nat.le_of_ble_eq_true rfl) rfl ?_
  refine w_return (Ev.cm _) rfl rfl rf0 ?_
  cases q
  exact g
def FO_M_nameOf (fu : Nat) (I : Nat → Nat → Int32) (L : Nat → Nat → Int64) : Option (Int32 × (Nat → Nat → Int32) × (Nat → Nat → Int64)) := if I 331 9 = 2 then ((FO_M_w4 fu 104 111 117 114 I L).bind (fun u1 => let r1 := u1.1; let I1 := u1.2.1; let L1 := u1.2.2; if lg_cmp (L 331 11) r1 = 0 then (some (0, I1, L1)) else ((FO_M_w4 fu 108 97 116 101 I1 L1).bind (fun u2 => let r2 := u2.1; let I2 := u2.2.1; let L2 := u2.2.2; if lg_cmp (L1 331 11) r2 = 0 then (some (1, I2, L2)) else ((FO_M_w5 fu 115 116 97 105 114 I2 L2).bind (fun u3 => let r3 := u3.1; let I3 := u3.2.1; let L3 := u3.2.2; if lg_cmp (L2 331 11) r3 = 0 then (some (2, I3, L3)) else ((FO_M_w6 fu 119 101 105 103 104 116 I3 L3).bind (fun u4 => let r4 := u4.1; let I4 := u4.2.1; let L4 := u4.2.2; if lg_cmp (L3 331 11) r4 = 0 then (some (3, I4, L4)) else ((FO_M_w5 fu 102 108 111 111 114 I4 L4).bind (fun u5 => let r5 := u5.1; let I5 := u5.2.1; let L5 := u5.2.2; if lg_cmp (L4 331 11) r5 = 0 then (some (4, I5, L5)) else ((FO_M_w3 fu 119 104 111 I5 L5).bind (fun u6 => let r6 := u6.1; let I6 := u6.2.1; let L6 := u6.2.2; if lg_cmp (L5 331 11) r6 = 0 then (some (5, I6, L6)) else ((FO_M_w4 fu 116 114 111 100 I6 L6).bind (fun u7 => let r7 := u7.1; let I7 := u7.2.1; let L7 := u7.2.2; if lg_cmp (L6 331 11) r7 = 0 then (some (6, I7, L7)) else ((FO_M_w3 fu 119 97 121 I7 L7).bind (fun u8 => let r8 := u8.1; let I8 := u8.2.1; let L8 := u8.2.2; if lg_cmp (L7 331 11) r8 = 0 then (some (7, I8, L8)) else (some ((-1), I8, L8)))))))))))))))))) else (some ((-1), I, L))
set_option maxHeartbeats 20000000 in
set_option maxRecDepth 20000 in
theorem eo_M_nameOf {d fu : Nat} {I : Nat → Nat → Int32} {L : Nat → Nat → Int64} {X : Nat × (Nat → Int32)} {Q : PQ} {res : Int32 × (Nat → Nat → Int32) × (Nat → Nat → Int64)}  (g : Q (some (.int res.1)) (HS res.2.1 res.2.2 X)) (q : FO_M_nameOf fu  I L = some res) : Ev (d + 6) m_M_nameOf [.ref 331] (HS I L X) Q := by
  unfold FO_M_nameOf at q
  refine ev_start (d := d + 5) rfl rfl rfl (Nat.le_of_ble_eq_true rfl) ?_
  show Wp (Ev (d + 5)) cd_M_nameOf (0, 0) (some .int) _ _ Q 0 [(0, .ref 331)] [] (HS I L X)
  refine w_aload_n (Ev.cm _) rfl rfl ?_
  refine w_getI (Ev.cm _) rfl (Nat.le_of_ble_eq_true rfl) rfl ?_
  refine w_iconst (Ev.cm _) rfl ?_
  refine w_icmp_eq (Ev.cm _) rfl (fun c1 => ?_) (fun c1 => ?_)
  · have c1 : I 331 9 = 2 := c1
    rw [if_pos c1] at q
    refine w_aload_n (Ev.cm _) rfl rfl ?_
    refine w_getL (Ev.cm _) rfl (Nat.le_of_ble_eq_true rfl) rfl ?_
    refine w_bipush (Ev.cm _) rfl ?_
    refine w_bipush (Ev.cm _) rfl ?_
    refine w_bipush (Ev.cm _) rfl ?_
    refine w_bipush (Ev.cm _) rfl ?_
    obtain ⟨⟨r1, I1, L1⟩, e1, q⟩ := obs q
    dsimp only at q
    refine w_cstat (as := [.int 104, .int 111, .int 117, .int 114]) (st := [.long (L 331 11)]) (Ev.cm _) rfl rfl rfl (Nat.le_of_ble_eq_true rfl) (Nat.le_of_ble_eq_true rfl) (eo_M_w4 (g := ?_) e1)
    show Wp _ _ _ _ _ _ _ 25 [(0, .ref 331)] [.long r1, .long (L 331 11)] (HS I1 L1 X)
    refine w_lcmp (Ev.cm _) rfl ?_
    refine w_if_ne (Ev.cm _) rfl (fun c2 => ?_) (fun c2 => ?_)
    · have c2 : ¬ (lg_cmp (L 331 11) r1 = 0) := c2
      rw [if_neg c2] at q
      refine w_aload_n (Ev.cm _) rfl rfl ?_
      refine w_getL (Ev.cm _) rfl (Nat.le_of_ble_eq_true rfl) rfl ?_
      refine w_bipush (Ev.cm _) rfl ?_
      refine w_bipush (Ev.cm _) rfl ?_
      refine w_bipush (Ev.cm _) rfl ?_
      refine w_bipush (Ev.cm _) rfl ?_
      obtain ⟨⟨r2, I2, L2⟩, e2, q⟩ := obs q
      dsimp only at q
      refine w_cstat (as := [.int 108, .int 97, .int 116, .int 101]) (st := [.long (L1 331 11)]) (Ev.cm _) rfl rfl rfl (Nat.le_of_ble_eq_true rfl) (Nat.le_of_ble_eq_true rfl) (eo_M_w4 (g := ?_) e2)
      show Wp _ _ _ _ _ _ _ 46 [(0, .ref 331)] [.long r2, .long (L1 331 11)] (HS I2 L2 X)
      refine w_lcmp (Ev.cm _) rfl ?_
      refine w_if_ne (Ev.cm _) rfl (fun c3 => ?_) (fun c3 => ?_)
      · have c3 : ¬ (lg_cmp (L1 331 11) r2 = 0) := c3
        rw [if_neg c3] at q
        refine w_aload_n (Ev.cm _) rfl rfl ?_
        refine w_getL (Ev.cm _) rfl (Nat.le_of_ble_eq_true rfl) rfl ?_
        refine w_bipush (Ev.cm _) rfl ?_
        refine w_bipush (Ev.cm _) rfl ?_
        refine w_bipush (Ev.cm _) rfl ?_
        refine w_bipush (Ev.cm _) rfl ?_
        refine w_bipush (Ev.cm _) rfl ?_
        obtain ⟨⟨r3, I3, L3⟩, e3, q⟩ := obs q
        dsimp only at q
        refine w_cstat (as := [.int 115, .int 116, .int 97, .int 105, .int 114]) (st := [.long (L2 331 11)]) (Ev.cm _) rfl rfl rfl (Nat.le_of_ble_eq_true rfl) (Nat.le_of_ble_eq_true rfl) (eo_M_w5 (g := ?_) e3)
        show Wp _ _ _ _ _ _ _ 69 [(0, .ref 331)] [.long r3, .long (L2 331 11)] (HS I3 L3 X)
        refine w_lcmp (Ev.cm _) rfl ?_
        refine w_if_ne (Ev.cm _) rfl (fun c4 => ?_) (fun c4 => ?_)
        · have c4 : ¬ (lg_cmp (L2 331 11) r3 = 0) := c4
          rw [if_neg c4] at q
          refine w_aload_n (Ev.cm _) rfl rfl ?_
          refine w_getL (Ev.cm _) rfl (Nat.le_of_ble_eq_true rfl) rfl ?_
          refine w_bipush (Ev.cm _) rfl ?_
          refine w_bipush (Ev.cm _) rfl ?_
          refine w_bipush (Ev.cm _) rfl ?_
          refine w_bipush (Ev.cm _) rfl ?_
          refine w_bipush (Ev.cm _) rfl ?_
          refine w_bipush (Ev.cm _) rfl ?_
          obtain ⟨⟨r4, I4, L4⟩, e4, q⟩ := obs q
          dsimp only at q
          refine w_cstat (as := [.int 119, .int 101, .int 105, .int 103, .int 104, .int 116]) (st := [.long (L3 331 11)]) (Ev.cm _) rfl rfl rfl (Nat.le_of_ble_eq_true rfl) (Nat.le_of_ble_eq_true rfl) (eo_M_w6 (g := ?_) e4)
          show Wp _ _ _ _ _ _ _ 94 [(0, .ref 331)] [.long r4, .long (L3 331 11)] (HS I4 L4 X)
          refine w_lcmp (Ev.cm _) rfl ?_
          refine w_if_ne (Ev.cm _) rfl (fun c5 => ?_) (fun c5 => ?_)
          · have c5 : ¬ (lg_cmp (L3 331 11) r4 = 0) := c5
            rw [if_neg c5] at q
            refine w_aload_n (Ev.cm _) rfl rfl ?_
            refine w_getL (Ev.cm _) rfl (Nat.le_of_ble_eq_true rfl) rfl ?_
            refine w_bipush (Ev.cm _) rfl ?_
            refine w_bipush (Ev.cm _) rfl ?_
            refine w_bipush (Ev.cm _) rfl ?_
            refine w_bipush (Ev.cm _) rfl ?_
            refine w_bipush (Ev.cm _) rfl ?_
            obtain ⟨⟨r5, I5, L5⟩, e5, q⟩ := obs q
            dsimp only at q
            refine w_cstat (as := [.int 102, .int 108, .int 111, .int 111, .int 114]) (st := [.long (L4 331 11)]) (Ev.cm _) rfl rfl rfl (Nat.le_of_ble_eq_true rfl) (Nat.le_of_ble_eq_true rfl) (eo_M_w5 (g := ?_) e5)
            show Wp _ _ _ _ _ _ _ 117 [(0, .ref 331)] [.long r5, .long (L4 331 11)] (HS I5 L5 X)
            refine w_lcmp (Ev.cm _) rfl ?_
            refine w_if_ne (Ev.cm _) rfl (fun c6 => ?_) (fun c6 => ?_)
            · have c6 : ¬ (lg_cmp (L4 331 11) r5 = 0) := c6
              rw [if_neg c6] at q
              refine w_aload_n (Ev.cm _) rfl rfl ?_
              refine w_getL (Ev.cm _) rfl (Nat.le_of_ble_eq_true rfl) rfl ?_
              refine w_bipush (Ev.cm _) rfl ?_
              refine w_bipush (Ev.cm _) rfl ?_
              refine w_bipush (Ev.cm _) rfl ?_
              obtain ⟨⟨r6, I6, L6⟩, e6, q⟩ := obs q
              dsimp only at q
              refine w_cstat (as := [.int 119, .int 104, .int 111]) (st := [.long (L5 331 11)]) (Ev.cm _) rfl rfl rfl (Nat.le_of_ble_eq_true rfl) (Nat.le_of_ble_eq_true rfl) (eo_M_w3 (g := ?_) e6)
              show Wp _ _ _ _ _ _ _ 136 [(0, .ref 331)] [.long r6, .long (L5 331 11)] (HS I6 L6 X)
              refine w_lcmp (Ev.cm _) rfl ?_
              refine w_if_ne (Ev.cm _) rfl (fun c7 => ?_) (fun c7 => ?_)
              · have c7 : ¬ (lg_cmp (L5 331 11) r6 = 0) := c7
                rw [if_neg c7] at q
                refine w_aload_n (Ev.cm _) rfl rfl ?_
                refine w_getL (Ev.cm _) rfl (Nat.le_of_ble_eq_true rfl) rfl ?_
                refine w_bipush (Ev.cm _) rfl ?_
                refine w_bipush (Ev.cm _) rfl ?_
                refine w_bipush (Ev.cm _) rfl ?_
                refine w_bipush (Ev.cm _) rfl ?_
                obtain ⟨⟨r7, I7, L7⟩, e7, q⟩ := obs q
                dsimp only at q
                refine w_cstat (as := [.int 116, .int 114, .int 111, .int 100]) (st := [.long (L6 331 11)]) (Ev.cm _) rfl rfl rfl (Nat.le_of_ble_eq_true rfl) (Nat.le_of_ble_eq_true rfl) (eo_M_w4 (g := ?_) e7)
                show Wp _ _ _ _ _ _ _ 157 [(0, .ref 331)] [.long r7, .long (L6 331 11)] (HS I7 L7 X)
                refine w_lcmp (Ev.cm _) rfl ?_
                refine w_if_ne (Ev.cm _) rfl (fun c8 => ?_) (fun c8 => ?_)
                · have c8 : ¬ (lg_cmp (L6 331 11) r7 = 0) := c8
                  rw [if_neg c8] at q
                  refine w_aload_n (Ev.cm _) rfl rfl ?_
                  refine w_getL (Ev.cm _) rfl (Nat.le_of_ble_eq_true rfl) rfl ?_
                  refine w_bipush (Ev.cm _) rfl ?_
                  refine w_bipush (Ev.cm _) rfl ?_
                  refine w_bipush (Ev.cm _) rfl ?_
                  obtain ⟨⟨r8, I8, L8⟩, e8, q⟩ := obs q
                  dsimp only at q
                  refine w_cstat (as := [.int 119, .int 97, .int 121]) (st := [.long (L7 331 11)]) (Ev.cm _) rfl rfl rfl (Nat.le_of_ble_eq_true rfl) (Nat.le_of_ble_eq_true rfl) (eo_M_w3 (g := ?_) e8)
                  show Wp _ _ _ _ _ _ _ 179 [(0, .ref 331)] [.long r8, .long (L7 331 11)] (HS I8 L8 X)
                  refine w_lcmp (Ev.cm _) rfl ?_
                  refine w_if_ne (Ev.cm _) rfl (fun c9 => ?_) (fun c9 => ?_)
                  · have c9 : ¬ (lg_cmp (L7 331 11) r8 = 0) := c9
                    rw [if_neg c9] at q
                    refine w_iconst (Ev.cm _) rfl ?_
                    refine w_ireturn (Ev.cm _) rfl trivial rf0 ?_
                    cases q
                    exact g
                  · have c9 : lg_cmp (L7 331 11) r8 = 0 := c9
                    rw [if_pos c9] at q
                    refine w_bipush (Ev.cm _) rfl ?_
                    refine w_goto (Ev.cm _) rfl ?_
                    refine w_ireturn (Ev.cm _) rfl trivial rf0 ?_
                    cases q
                    exact g
                · have c8 : lg_cmp (L6 331 11) r7 = 0 := c8
                  rw [if_pos c8] at q
                  refine w_bipush (Ev.cm _) rfl ?_
                  refine w_goto (Ev.cm _) rfl ?_
                  refine w_ireturn (Ev.cm _) rfl trivial rf0 ?_
                  cases q
                  exact g
              · have c7 : lg_cmp (L5 331 11) r6 = 0 := c7
                rw [if_pos c7] at q
                refine w_iconst (Ev.cm _) rfl ?_
                refine w_ireturn (Ev.cm _) rfl trivial rf0 ?_
                cases q
                exact g
            · have c6 : lg_cmp (L4 331 11) r5 = 0 := c6
              rw [if_pos c6] at q
              refine w_iconst (Ev.cm _) rfl ?_
              refine w_ireturn (Ev.cm _) rfl trivial rf0 ?_
              cases q
              exact g
          · have c5 : lg_cmp (L3 331 11) r4 = 0 := c5
            rw [if_pos c5] at q
            refine w_iconst (Ev.cm _) rfl ?_
            refine w_ireturn (Ev.cm _) rfl trivial rf0 ?_
            cases q
            exact g
        · have c4 : lg_cmp (L2 331 11) r3 = 0 := c4
          rw [if_pos c4] at q
          refine w_iconst (Ev.cm _) rfl ?_
          refine w_ireturn (Ev.cm _) rfl trivial rf0 ?_
          cases q
          exact g
      · have c3 : lg_cmp (L1 331 11) r2 = 0 := c3
        rw [if_pos c3] at q
        refine w_iconst (Ev.cm _) rfl ?_
        refine w_ireturn (Ev.cm _) rfl trivial rf0 ?_
        cases q
        exact g
    · have c2 : lg_cmp (L 331 11) r1 = 0 := c2
      rw [if_pos c2] at q
      refine w_iconst (Ev.cm _) rfl ?_
      refine w_ireturn (Ev.cm _) rfl trivial rf0 ?_
      cases q
      exact g
  · have c1 : ¬ (I 331 9 = 2) := c1
    rw [if_neg c1] at q
    refine w_iconst (Ev.cm _) rfl ?_
    refine w_ireturn (Ev.cm _) rfl trivial rf0 ?_
    cases q
    exact g
def FO_M_rank (fu : Nat) (p0 : Int32) (I : Nat → Nat → Int32) (L : Nat → Nat → Int64) : Option (Int32 × (Nat → Nat → Int32) × (Nat → Nat → Int64)) := if p0 < 40 then (if p0 = 22 then (some (1, I, L)) else (if p0 = 21 then (some (2, I, L)) else (if p0 = 20 then (some (3, I, L)) else (if p0 < 10 then (if p0 = 5 then (some (7, I, L)) else (if p0 = 2 then (some (7, I, L)) else (if p0 = 4 then (some (7, I, L)) else (if p0 < 8 then (some (5, I, L)) else (some (6, I, L)))))) else (some (4, I, L)))))) else (some (0, I, L))
set_option maxHeartbeats 20000000 in
set_option maxRecDepth 20000 in
theorem eo_M_rank {d fu : Nat} {p0 : Int32} {I : Nat → Nat → Int32} {L : Nat → Nat → Int64} {X : Nat × (Nat → Int32)} {Q : PQ} {res : Int32 × (Nat → Nat → Int32) × (Nat → Nat → Int64)}  (g : Q (some (.int res.1)) (HS res.2.1 res.2.2 X)) (q : FO_M_rank fu p0 I L = some res) : Ev (d + 1) m_M_rank [.int p0] (HS I L X) Q := by
  unfold FO_M_rank at q
  refine ev_start (d := d + 0) rfl rfl rfl (Nat.le_of_ble_eq_true rfl) ?_
  show Wp (Ev (d + 0)) cd_M_rank (0, 0) (some .int) _ _ Q 0 [(0, .int p0)] [] (HS I L X)
  refine w_iload_n (Ev.cm _) rfl rfl ?_
  refine w_bipush (Ev.cm _) rfl ?_
  refine w_icmp_lt (Ev.cm _) rfl (fun c1 => ?_) (fun c1 => ?_)
  · have c1 : p0 < 40 := c1
    rw [if_pos c1] at q
    refine w_iload_n (Ev.cm _) rfl rfl ?_
    refine w_bipush (Ev.cm _) rfl ?_
    refine w_icmp_ne (Ev.cm _) rfl (fun c2 => ?_) (fun c2 => ?_)
    · have c2 : ¬ (p0 = 22) := c2
      rw [if_neg c2] at q
      refine w_iload_n (Ev.cm _) rfl rfl ?_
      refine w_bipush (Ev.cm _) rfl ?_
      refine w_icmp_ne (Ev.cm _) rfl (fun c3 => ?_) (fun c3 => ?_)
      · have c3 : ¬ (p0 = 21) := c3
        rw [if_neg c3] at q
        refine w_iload_n (Ev.cm _) rfl rfl ?_
        refine w_bipush (Ev.cm _) rfl ?_
        refine w_icmp_ne (Ev.cm _) rfl (fun c4 => ?_) (fun c4 => ?_)
        · have c4 : ¬ (p0 = 20) := c4
          rw [if_neg c4] at q
          refine w_iload_n (Ev.cm _) rfl rfl ?_
          refine w_bipush (Ev.cm _) rfl ?_
          refine w_icmp_lt (Ev.cm _) rfl (fun c5 => ?_) (fun c5 => ?_)
          · have c5 : p0 < 10 := c5
            rw [if_pos c5] at q
            refine w_iload_n (Ev.cm _) rfl rfl ?_
            refine w_iconst (Ev.cm _) rfl ?_
            refine w_icmp_eq (Ev.cm _) rfl (fun c6 => ?_) (fun c6 => ?_)
            · have c6 : p0 = 5 := c6
              rw [if_pos c6] at q
              refine w_bipush (Ev.cm _) rfl ?_
              refine w_goto (Ev.cm _) rfl ?_
              refine w_ireturn (Ev.cm _) rfl trivial rf0 ?_
              cases q
              exact g
            · have c6 : ¬ (p0 = 5) := c6
              rw [if_neg c6] at q
              refine w_iload_n (Ev.cm _) rfl rfl ?_
              refine w_iconst (Ev.cm _) rfl ?_
              refine w_icmp_eq (Ev.cm _) rfl (fun c7 => ?_) (fun c7 => ?_)
              · have c7 : p0 = 2 := c7
                rw [if_pos c7] at q
                refine w_bipush (Ev.cm _) rfl ?_
                refine w_goto (Ev.cm _) rfl ?_
                refine w_ireturn (Ev.cm _) rfl trivial rf0 ?_
                cases q
                exact g
              · have c7 : ¬ (p0 = 2) := c7
                rw [if_neg c7] at q
                refine w_iload_n (Ev.cm _) rfl rfl ?_
                refine w_iconst (Ev.cm _) rfl ?_
                refine w_icmp_ne (Ev.cm _) rfl (fun c8 => ?_) (fun c8 => ?_)
                · have c8 : ¬ (p0 = 4) := c8
                  rw [if_neg c8] at q
                  refine w_iload_n (Ev.cm _) rfl rfl ?_
                  refine w_bipush (Ev.cm _) rfl ?_
                  refine w_icmp_lt (Ev.cm _) rfl (fun c9 => ?_) (fun c9 => ?_)
                  · have c9 : p0 < 8 := c9
                    rw [if_pos c9] at q
                    refine w_iconst (Ev.cm _) rfl ?_
                    refine w_ireturn (Ev.cm _) rfl trivial rf0 ?_
                    cases q
                    exact g
                  · have c9 : ¬ (p0 < 8) := c9
                    rw [if_neg c9] at q
                    refine w_bipush (Ev.cm _) rfl ?_
                    refine w_goto (Ev.cm _) rfl ?_
                    refine w_ireturn (Ev.cm _) rfl trivial rf0 ?_
                    cases q
                    exact g
                · have c8 : p0 = 4 := c8
                  rw [if_pos c8] at q
                  refine w_bipush (Ev.cm _) rfl ?_
                  refine w_goto (Ev.cm _) rfl ?_
                  refine w_ireturn (Ev.cm _) rfl trivial rf0 ?_
                  cases q
                  exact g
          · have c5 : ¬ (p0 < 10) := c5
            rw [if_neg c5] at q
            refine w_iconst (Ev.cm _) rfl ?_
            refine w_goto (Ev.cm _) rfl ?_
            refine w_ireturn (Ev.cm _) rfl trivial rf0 ?_
            cases q
            exact g
        · have c4 : p0 = 20 := c4
          rw [if_pos c4] at q
          refine w_iconst (Ev.cm _) rfl ?_
          refine w_goto (Ev.cm _) rfl ?_
          refine w_ireturn (Ev.cm _) rfl trivial rf0 ?_
          cases q
          exact g
      · have c3 : p0 = 21 := c3
        rw [if_pos c3] at q
        refine w_iconst (Ev.cm _) rfl ?_
        refine w_goto (Ev.cm _) rfl ?_
        refine w_ireturn (Ev.cm _) rfl trivial rf0 ?_
        cases q
        exact g
    · have c2 : p0 = 22 := c2
      rw [if_pos c2] at q
      refine w_iconst (Ev.cm _) rfl ?_
      refine w_goto (Ev.cm _) rfl ?_
      refine w_ireturn (Ev.cm _) rfl trivial rf0 ?_
      cases q
      exact g
  · have c1 : ¬ (p0 < 40) := c1
    rw [if_neg c1] at q
    refine w_iconst (Ev.cm _) rfl ?_
    refine w_goto (Ev.cm _) rfl ?_
    refine w_ireturn (Ev.cm _) rfl trivial rf0 ?_
    cases q
    exact g
def LO_M_settle_0 (fu : Nat) : Nat → Int32 → (Nat → Nat → Int32) → (Nat → Nat → Int64) → Option (Unit × (Nat → Nat → Int32) × (Nat → Nat → Int64))
  | 0, _, _, _ => none
  | n + 1, x1, I, L => if I 331 16 ≤ 0 then (some ((), I, L)) else (if 0 ≤ (I 331 16) - 1 ∧ (I 331 16) - 1 < 160 then ((FO_M_rank fu (I 336 (((I 331 16) - 1).toNatClampNeg)) I L).bind (fun u2 => let r2 := u2.1; let I2 := u2.2.1; let L2 := u2.2.2; if r2 < x1 then (some ((), I2, L2)) else (if 0 ≤ (I2 331 16) - 1 ∧ (I2 331 16) - 1 < 160 then ((FO_M_emit fu (I2 336 (((I2 331 16) - 1).toNatClampNeg)) 0 (sI I2 331 16 ((I2 331 16) - 1)) L2).bind (fun u4 => let r4 := u4.1; let I4 := u4.2.1; let L4 := u4.2.2; if 0 ≤ I4 331 16 ∧ I4 331 16 < 160 then ((FO_M_rank fu (I4 336 ((I4 331 16).toNatClampNeg)) I4 L4).bind (fun u6 => let r6 := u6.1; let I6 := u6.2.1; let L6 := u6.2.2; if r6 = 7 then (LO_M_settle_0 fu n x1 (sI I6 331 17 ((I6 331 17) - 1)) L6) else (if 0 ≤ I6 331 16 ∧ I6 331 16 < 160 then (if I6 336 ((I6 331 16).toNatClampNeg) = 20 then (LO_M_settle_0 fu n x1 (sI I6 331 17 ((I6 331 17) - 1)) L6) else (LO_M_settle_0 fu n x1 I6 L6)) else none))) else none)) else none))) else none)
set_option maxHeartbeats 20000000 in
set_option maxRecDepth 20000 in
theorem lo_M_settle_0 {d fu n0 s0 : Nat} {X : Nat × (Nat → Int32)} {Q : PQ} {res : Unit × (Nat → Nat → Int32) × (Nat → Nat → Int64)}  (g : Q none (HS res.2.1 res.2.2 X)) : ∀ (n : Nat) (x1 : Int32) (I : Nat → Nat → Int32) (L : Nat → Nat → Int64), LO_M_settle_0 fu n x1 I L = some res → Wp (Ev (d + 1)) cd_M_settle (0, 0) none n0 s0 Q 0 [(0, .ref 331), (1, .int x1)] [] (HS I L X) := by
  intro n
  induction n with
  | zero => intro _ _ _ q; cases q
  | succ n ih =>
    intro x1 I L q
    unfold LO_M_settle_0 at q
    refine w_aload_n (Ev.cm _) rfl rfl ?_
    refine w_getI (Ev.cm _) rfl (Nat.le_of_ble_eq_true rfl) rfl ?_
    refine w_if_le (Ev.cm _) rfl (fun c1 => ?_) (fun c1 => ?_)
    · have c1 : I 331 16 ≤ 0 := c1
      rw [if_pos c1] at q
      refine w_return (Ev.cm _) rfl rfl rf0 ?_
      cases q
      exact g
    · have c1 : ¬ (I 331 16 ≤ 0) := c1
      rw [if_neg c1] at q
      refine w_aload_n (Ev.cm _) rfl rfl ?_
      refine w_getR (q := 336) (Ev.cm _) rfl (Nat.le_of_ble_eq_true rfl) rfl rfl ?_
      refine w_aload_n (Ev.cm _) rfl rfl ?_
      refine w_getI (Ev.cm _) rfl (Nat.le_of_ble_eq_true rfl) rfl ?_
      refine w_iconst (Ev.cm _) rfl ?_
      refine w_isub (Ev.cm _) rfl ?_
      obtain ⟨b1, q⟩ := ois q
      refine w_iald (Ev.cm _) rfl (Nat.le_of_ble_eq_true rfl) rfl (show vp_in ((I 331 16) - 1) 160 from vpI 160 (by decide) b1.1 b1.2) ?_
      obtain ⟨⟨r2, I2, L2⟩, e2, q⟩ := obs q
      dsimp only at q
      refine w_cstat (as := [.int (I 336 (((I 331 16) - 1).toNatClampNeg))]) (st := []) (Ev.cm _) rfl rfl rfl (Nat.le_of_ble_eq_true rfl) (Nat.le_of_ble_eq_true rfl) (eo_M_rank (g := ?_) e2)
      show Wp _ _ _ _ _ _ _ 21 [(0, .ref 331), (1, .int x1)] [.int r2] (HS I2 L2 X)
      refine w_iload_n (Ev.cm _) rfl rfl ?_
      refine w_icmp_lt (Ev.cm _) rfl (fun c2 => ?_) (fun c2 => ?_)
      · have c2 : r2 < x1 := c2
        rw [if_pos c2] at q
        refine w_return (Ev.cm _) rfl rfl rf0 ?_
        cases q
        exact g
      · have c2 : ¬ (r2 < x1) := c2
        rw [if_neg c2] at q
        refine w_aload_n (Ev.cm _) rfl rfl ?_
        refine w_dup (Ev.cm _) rfl rfl ?_
        refine w_getI (Ev.cm _) rfl (Nat.le_of_ble_eq_true rfl) rfl ?_
        refine w_iconst (Ev.cm _) rfl ?_
        refine w_isub (Ev.cm _) rfl ?_
        refine w_putI (Ev.cm _) rfl (Nat.le_of_ble_eq_true rfl) rfl ?_
        refine w_aload_n (Ev.cm _) rfl rfl ?_
        refine w_aload_n (Ev.cm _) rfl rfl ?_
        refine w_getR (q := 336) (Ev.cm _) rfl (Nat.le_of_ble_eq_true rfl) rfl rfl ?_
        refine w_aload_n (Ev.cm _) rfl rfl ?_
        refine w_getI (Ev.cm _) rfl (Nat.le_of_ble_eq_true rfl) rfl ?_
        obtain ⟨b3, q⟩ := ois q
        refine w_iald (Ev.cm _) rfl (Nat.le_of_ble_eq_true rfl) rfl (show vp_in ((I2 331 16) - 1) 160 from vpI 160 (by decide) b3.1 b3.2) ?_
        refine w_iconst (Ev.cm _) rfl ?_
        obtain ⟨⟨r4, I4, L4⟩, e4, q⟩ := obs q
        dsimp only at q
        refine w_cvirt (o := 331) (as := [.int (I2 336 (((I2 331 16) - 1).toNatClampNeg)), .int 0]) (st := []) (Ev.cm _) rfl rfl rfl (Nat.le_of_ble_eq_true rfl) (Nat.le_of_ble_eq_true rfl) rfl (Nat.le_of_ble_eq_true rfl) (eo_M_emit (g := ?_) e4)
        show Wp _ _ _ _ _ _ _ 49 [(0, .ref 331), (1, .int x1)] [] (HS I4 L4 X)
        refine w_aload_n (Ev.cm _) rfl rfl ?_
        refine w_getR (q := 336) (Ev.cm _) rfl (Nat.le_of_ble_eq_true rfl) rfl rfl ?_
        refine w_aload_n (Ev.cm _) rfl rfl ?_
        refine w_getI (Ev.cm _) rfl (Nat.le_of_ble_eq_true rfl) rfl ?_
        obtain ⟨b5, q⟩ := ois q
        refine w_iald (Ev.cm _) rfl (Nat.le_of_ble_eq_true rfl) rfl (show vp_in (I4 331 16) 160 from vpI 160 (by decide) b5.1 b5.2) ?_
        obtain ⟨⟨r6, I6, L6⟩, e6, q⟩ := obs q
        dsimp only at q
        refine w_cstat (as := [.int (I4 336 ((I4 331 16).toNatClampNeg))]) (st := []) (Ev.cm _) rfl rfl rfl (Nat.le_of_ble_eq_true rfl) (Nat.le_of_ble_eq_true rfl) (eo_M_rank (g := ?_) e6)
        show Wp _ _ _ _ _ _ _ 61 [(0, .ref 331), (1, .int x1)] [.int r6] (HS I6 L6 X)
        refine w_bipush (Ev.cm _) rfl ?_
        refine w_icmp_eq (Ev.cm _) rfl (fun c3 => ?_) (fun c3 => ?_)
        · have c3 : r6 = 7 := c3
          rw [if_pos c3] at q
          refine w_aload_n (Ev.cm _) rfl rfl ?_
          refine w_dup (Ev.cm _) rfl rfl ?_
          refine w_getI (Ev.cm _) rfl (Nat.le_of_ble_eq_true rfl) rfl ?_
          refine w_iconst (Ev.cm _) rfl ?_
          refine w_isub (Ev.cm _) rfl ?_
          refine w_putI (Ev.cm _) rfl (Nat.le_of_ble_eq_true rfl) rfl ?_
          refine w_goto (Ev.cm _) rfl ?_
          show Wp _ _ _ _ _ _ _ 0 [(0, .ref 331), (1, .int x1)] [] (HS (sI I6 331 17 ((I6 331 17) - 1)) L6 X)
          refine Wp.sub [0, 1] (ls2 := [(0, .ref 331), (1, .int x1)]) rfl ?_
          exact ih _ _ _ q
        · have c3 : ¬ (r6 = 7) := c3
          rw [if_neg c3] at q
          refine w_aload_n (Ev.cm _) rfl rfl ?_
          refine w_getR (q := 336) (Ev.cm _) rfl (Nat.le_of_ble_eq_true rfl) rfl rfl ?_
          refine w_aload_n (Ev.cm _) rfl rfl ?_
          refine w_getI (Ev.cm _) rfl (Nat.le_of_ble_eq_true rfl) rfl ?_
          obtain ⟨b7, q⟩ := ois q
          refine w_iald (Ev.cm _) rfl (Nat.le_of_ble_eq_true rfl) rfl (show vp_in (I6 331 16) 160 from vpI 160 (by decide) b7.1 b7.2) ?_
          refine w_bipush (Ev.cm _) rfl ?_
          refine w_icmp_ne (Ev.cm _) rfl (fun c4 => ?_) (fun c4 => ?_)
          · have c4 : ¬ (I6 336 ((I6 331 16).toNatClampNeg) = 20) := c4
            rw [if_neg c4] at q
            show Wp _ _ _ _ _ _ _ 0 [(0, .ref 331), (1, .int x1)] [] (HS I6 L6 X)
            refine Wp.sub [0, 1] (ls2 := [(0, .ref 331), (1, .int x1)]) rfl ?_
            exact ih _ _ _ q
          · have c4 : I6 336 ((I6 331 16).toNatClampNeg) = 20 := c4
            rw [if_pos c4] at q
            refine w_aload_n (Ev.cm _) rfl rfl ?_
            refine w_dup (Ev.cm _) rfl rfl ?_
            refine w_getI (Ev.cm _) rfl (Nat.le_of_ble_eq_true rfl) rfl ?_
            refine w_iconst (Ev.cm _) rfl ?_
            refine w_isub (Ev.cm _) rfl ?_
            refine w_putI (Ev.cm _) rfl (Nat.le_of_ble_eq_true rfl) rfl ?_
            refine w_goto (Ev.cm _) rfl ?_
            show Wp _ _ _ _ _ _ _ 0 [(0, .ref 331), (1, .int x1)] [] (HS (sI I6 331 17 ((I6 331 17) - 1)) L6 X)
            refine Wp.sub [0, 1] (ls2 := [(0, .ref 331), (1, .int x1)]) rfl ?_
            exact ih _ _ _ q
def FO_M_settle (fu : Nat) (p0 : Int32) (I : Nat → Nat → Int32) (L : Nat → Nat → Int64) : Option (Unit × (Nat → Nat → Int32) × (Nat → Nat → Int64)) := if I 331 16 ≤ 0 then (some ((), I, L)) else (if 0 ≤ (I 331 16) - 1 ∧ (I 331 16) - 1 < 160 then ((FO_M_rank fu (I 336 (((I 331 16) - 1).toNatClampNeg)) I L).bind (fun u2 => let r2 := u2.1; let I2 := u2.2.1; let L2 := u2.2.2; if r2 < p0 then (some ((), I2, L2)) else (if 0 ≤ (I2 331 16) - 1 ∧ (I2 331 16) - 1 < 160 then ((FO_M_emit fu (I2 336 (((I2 331 16) - 1).toNatClampNeg)) 0 (sI I2 331 16 ((I2 331 16) - 1)) L2).bind (fun u4 => let r4 := u4.1; let I4 := u4.2.1; let L4 := u4.2.2; if 0 ≤ I4 331 16 ∧ I4 331 16 < 160 then ((FO_M_rank fu (I4 336 ((I4 331 16).toNatClampNeg)) I4 L4).bind (fun u6 => let r6 := u6.1; let I6 := u6.2.1; let L6 := u6.2.2; if r6 = 7 then (LO_M_settle_0 fu fu p0 (sI I6 331 17 ((I6 331 17) - 1)) L6) else (if 0 ≤ I6 331 16 ∧ I6 331 16 < 160 then (if I6 336 ((I6 331 16).toNatClampNeg) = 20 then (LO_M_settle_0 fu fu p0 (sI I6 331 17 ((I6 331 17) - 1)) L6) else (LO_M_settle_0 fu fu p0 I6 L6)) else none))) else none)) else none))) else none)
set_option maxHeartbeats 20000000 in
set_option maxRecDepth 20000 in
theorem eo_M_settle {d fu : Nat} {p0 : Int32} {I : Nat → Nat → Int32} {L : Nat → Nat → Int64} {X : Nat × (Nat → Int32)} {Q : PQ} {res : Unit × (Nat → Nat → Int32) × (Nat → Nat → Int64)}  (g : Q none (HS res.2.1 res.2.2 X)) (q : FO_M_settle fu p0 I L = some res) : Ev (d + 2) m_M_settle [.ref 331, .int p0] (HS I L X) Q := by
  unfold FO_M_settle at q
  refine ev_start (d := d + 1) rfl rfl rfl (Nat.le_of_ble_eq_true rfl) ?_
  show Wp (Ev (d + 1)) cd_M_settle (0, 0) none _ _ Q 0 [(0, .ref 331), (1, .int p0)] [] (HS I L X)
  refine w_aload_n (Ev.cm _) rfl rfl ?_
  refine w_getI (Ev.cm _) rfl (Nat.le_of_ble_eq_true rfl) rfl ?_
  refine w_if_le (Ev.cm _) rfl (fun c1 => ?_) (fun c1 => ?_)
  · have c1 : I 331 16 ≤ 0 := c1
    rw [if_pos c1] at q
    refine w_return (Ev.cm _) rfl rfl rf0 ?_
    cases q
    exact g
  · have c1 : ¬ (I 331 16 ≤ 0) := c1
    rw [if_neg c1] at q
    refine w_aload_n (Ev.cm _) rfl rfl ?_
    refine w_getR (q := 336) (Ev.cm _) rfl (Nat.le_of_ble_eq_true rfl) rfl rfl ?_
    refine w_aload_n (Ev.cm _) rfl rfl ?_
    refine w_getI (Ev.cm _) rfl (Nat.le_of_ble_eq_true rfl) rfl ?_
    refine w_iconst (Ev.cm _) rfl ?_
    refine w_isub (Ev.cm _) rfl ?_
    obtain ⟨b1, q⟩ := ois q
    refine w_iald (Ev.cm _) rfl (Nat.le_of_ble_eq_true rfl) rfl (show vp_in ((I 331 16) - 1) 160 from vpI 160 (by decide) b1.1 b1.2) ?_
    obtain ⟨⟨r2, I2, L2⟩, e2, q⟩ := obs q
    dsimp only at q
    refine w_cstat (as := [.int (I 336 (((I 331 16) - 1).toNatClampNeg))]) (st := []) (Ev.cm _) rfl rfl rfl (Nat.le_of_ble_eq_true rfl) (Nat.le_of_ble_eq_true rfl) (eo_M_rank (g := ?_) e2)
    show Wp _ _ _ _ _ _ _ 21 [(0, .ref 331), (1, .int p0)] [.int r2] (HS I2 L2 X)
    refine w_iload_n (Ev.cm _) rfl rfl ?_
    refine w_icmp_lt (Ev.cm _) rfl (fun c2 => ?_) (fun c2 => ?_)
    · have c2 : r2 < p0 := c2
      rw [if_pos c2] at q
      refine w_return (Ev.cm _) rfl rfl rf0 ?_
      cases q
      exact g
    · have c2 : ¬ (r2 < p0) := c2
      rw [if_neg c2] at q
      refine w_aload_n (Ev.cm _) rfl rfl ?_
      refine w_dup (Ev.cm _) rfl rfl ?_
      refine w_getI (Ev.cm _) rfl (Nat.le_of_ble_eq_true rfl) rfl ?_
      refine w_iconst (Ev.cm _) rfl ?_
      refine w_isub (Ev.cm _) rfl ?_
      refine w_putI (Ev.cm _) rfl (Nat.le_of_ble_eq_true rfl) rfl ?_
      refine w_aload_n (Ev.cm _) rfl rfl ?_
      refine w_aload_n (Ev.cm _) rfl rfl ?_
      refine w_getR (q := 336) (Ev.cm _) rfl (Nat.le_of_ble_eq_true rfl) rfl rfl ?_
      refine w_aload_n (Ev.cm _) rfl rfl ?_
      refine w_getI (Ev.cm _) rfl (Nat.le_of_ble_eq_true rfl) rfl ?_
      obtain ⟨b3, q⟩ := ois q
      refine w_iald (Ev.cm _) rfl (Nat.le_of_ble_eq_true rfl) rfl (show vp_in ((I2 331 16) - 1) 160 from vpI 160 (by decide) b3.1 b3.2) ?_
      refine w_iconst (Ev.cm _) rfl ?_
      obtain ⟨⟨r4, I4, L4⟩, e4, q⟩ := obs q
      dsimp only at q
      refine w_cvirt (o := 331) (as := [.int (I2 336 (((I2 331 16) - 1).toNatClampNeg)), .int 0]) (st := []) (Ev.cm _) rfl rfl rfl (Nat.le_of_ble_eq_true rfl) (Nat.le_of_ble_eq_true rfl) rfl (Nat.le_of_ble_eq_true rfl) (eo_M_emit (g := ?_) e4)
      show Wp _ _ _ _ _ _ _ 49 [(0, .ref 331), (1, .int p0)] [] (HS I4 L4 X)
      refine w_aload_n (Ev.cm _) rfl rfl ?_
      refine w_getR (q := 336) (Ev.cm _) rfl (Nat.le_of_ble_eq_true rfl) rfl rfl ?_
      refine w_aload_n (Ev.cm _) rfl rfl ?_
      refine w_getI (Ev.cm _) rfl (Nat.le_of_ble_eq_true rfl) rfl ?_
      obtain ⟨b5, q⟩ := ois q
      refine w_iald (Ev.cm _) rfl (Nat.le_of_ble_eq_true rfl) rfl (show vp_in (I4 331 16) 160 from vpI 160 (by decide) b5.1 b5.2) ?_
      obtain ⟨⟨r6, I6, L6⟩, e6, q⟩ := obs q
      dsimp only at q
      refine w_cstat (as := [.int (I4 336 ((I4 331 16).toNatClampNeg))]) (st := []) (Ev.cm _) rfl rfl rfl (Nat.le_of_ble_eq_true rfl) (Nat.le_of_ble_eq_true rfl) (eo_M_rank (g := ?_) e6)
      show Wp _ _ _ _ _ _ _ 61 [(0, .ref 331), (1, .int p0)] [.int r6] (HS I6 L6 X)
      refine w_bipush (Ev.cm _) rfl ?_
      refine w_icmp_eq (Ev.cm _) rfl (fun c3 => ?_) (fun c3 => ?_)
      · have c3 : r6 = 7 := c3
        rw [if_pos c3] at q
        refine w_aload_n (Ev.cm _) rfl rfl ?_
        refine w_dup (Ev.cm _) rfl rfl ?_
        refine w_getI (Ev.cm _) rfl (Nat.le_of_ble_eq_true rfl) rfl ?_
        refine w_iconst (Ev.cm _) rfl ?_
        refine w_isub (Ev.cm _) rfl ?_
        refine w_putI (Ev.cm _) rfl (Nat.le_of_ble_eq_true rfl) rfl ?_
        refine w_goto (Ev.cm _) rfl ?_
        show Wp _ _ _ _ _ _ _ 0 [(0, .ref 331), (1, .int p0)] [] (HS (sI I6 331 17 ((I6 331 17) - 1)) L6 X)
        refine Wp.sub [0, 1] (ls2 := [(0, .ref 331), (1, .int p0)]) rfl ?_
        exact lo_M_settle_0 g fu _ _ _ q
      · have c3 : ¬ (r6 = 7) := c3
        rw [if_neg c3] at q
        refine w_aload_n (Ev.cm _) rfl rfl ?_
        refine w_getR (q := 336) (Ev.cm _) rfl (Nat.le_of_ble_eq_true rfl) rfl rfl ?_
        refine w_aload_n (Ev.cm _) rfl rfl ?_
        refine w_getI (Ev.cm _) rfl (Nat.le_of_ble_eq_true rfl) rfl ?_
        obtain ⟨b7, q⟩ := ois q
        refine w_iald (Ev.cm _) rfl (Nat.le_of_ble_eq_true rfl) rfl (show vp_in (I6 331 16) 160 from vpI 160 (by decide) b7.1 b7.2) ?_
        refine w_bipush (Ev.cm _) rfl ?_
        refine w_icmp_ne (Ev.cm _) rfl (fun c4 => ?_) (fun c4 => ?_)
        · have c4 : ¬ (I6 336 ((I6 331 16).toNatClampNeg) = 20) := c4
          rw [if_neg c4] at q
          show Wp _ _ _ _ _ _ _ 0 [(0, .ref 331), (1, .int p0)] [] (HS I6 L6 X)
          refine Wp.sub [0, 1] (ls2 := [(0, .ref 331), (1, .int p0)]) rfl ?_
          exact lo_M_settle_0 g fu _ _ _ q
        · have c4 : I6 336 ((I6 331 16).toNatClampNeg) = 20 := c4
          rw [if_pos c4] at q
          refine w_aload_n (Ev.cm _) rfl rfl ?_
          refine w_dup (Ev.cm _) rfl rfl ?_
          refine w_getI (Ev.cm _) rfl (Nat.le_of_ble_eq_true rfl) rfl ?_
          refine w_iconst (Ev.cm _) rfl ?_
          refine w_isub (Ev.cm _) rfl ?_
          refine w_putI (Ev.cm _) rfl (Nat.le_of_ble_eq_true rfl) rfl ?_
          refine w_goto (Ev.cm _) rfl ?_
          show Wp _ _ _ _ _ _ _ 0 [(0, .ref 331), (1, .int p0)] [] (HS (sI I6 331 17 ((I6 331 17) - 1)) L6 X)
          refine Wp.sub [0, 1] (ls2 := [(0, .ref 331), (1, .int p0)]) rfl ?_
          exact lo_M_settle_0 g fu _ _ _ q
def LO_M_openAt_7 (fu : Nat) : Nat → Int32 → (Nat → Nat → Int32) → (Nat → Nat → Int64) → Option (Int32 × (Nat → Nat → Int32) × (Nat → Nat → Int64))
  | 0, _, _, _ => none
  | n + 1, x1, I, L => if x1 < 0 then (some (x1, I, L)) else (if 0 ≤ x1 ∧ x1 < 160 then (if 40 ≤ I 336 x1.toNatClampNeg then (some (x1, I, L)) else (LO_M_openAt_7 fu n (x1 + (-1)) I L)) else none)
set_option maxHeartbeats 20000000 in
set_option maxRecDepth 20000 in
theorem lo_M_openAt_7 {d fu n0 s0 : Nat} {X : Nat × (Nat → Int32)} {Q : PQ} {res : Int32 × (Nat → Nat → Int32) × (Nat → Nat → Int64)}  (g : Q (some (.int res.1)) (HS res.2.1 res.2.2 X)) : ∀ (n : Nat) (x1 : Int32) (I : Nat → Nat → Int32) (L : Nat → Nat → Int64), LO_M_openAt_7 fu n x1 I L = some res → Wp (Ev (d + 0)) cd_M_openAt (0, 0) (some .int) n0 s0 Q 7 [(0, .ref 331), (1, .int x1)] [] (HS I L X) := by
  intro n
  induction n with
  | zero => intro _ _ _ q; cases q
  | succ n ih =>
    intro x1 I L q
    unfold LO_M_openAt_7 at q
    refine w_iload_n (Ev.cm _) rfl rfl ?_
    refine w_if_lt (Ev.cm _) rfl (fun c1 => ?_) (fun c1 => ?_)
    · have c1 : x1 < 0 := c1
      rw [if_pos c1] at q
      refine w_iload_n (Ev.cm _) rfl rfl ?_
      refine w_ireturn (Ev.cm _) rfl trivial rf0 ?_
      cases q
      exact g
    · have c1 : ¬ (x1 < 0) := c1
      rw [if_neg c1] at q
      refine w_aload_n (Ev.cm _) rfl rfl ?_
      refine w_getR (q := 336) (Ev.cm _) rfl (Nat.le_of_ble_eq_true rfl) rfl rfl ?_
      refine w_iload_n (Ev.cm _) rfl rfl ?_
      obtain ⟨b1, q⟩ := ois q
      refine w_iald (Ev.cm _) rfl (Nat.le_of_ble_eq_true rfl) rfl (show vp_in x1 160 from vpI 160 (by decide) b1.1 b1.2) ?_
      refine w_bipush (Ev.cm _) rfl ?_
      refine w_icmp_ge (Ev.cm _) rfl (fun c2 => ?_) (fun c2 => ?_)
      · have c2 : 40 ≤ I 336 x1.toNatClampNeg := c2
        rw [if_pos c2] at q
        refine w_iload_n (Ev.cm _) rfl rfl ?_
        refine w_ireturn (Ev.cm _) rfl trivial rf0 ?_
        cases q
        exact g
      · have c2 : ¬ (40 ≤ I 336 x1.toNatClampNeg) := c2
        rw [if_neg c2] at q
        refine w_iinc (ls2 := [(0, .ref 331), (1, .int (x1 + (-1)))]) (Ev.cm _) rfl rfl rfl ?_
        refine w_goto (Ev.cm _) rfl ?_
        show Wp _ _ _ _ _ _ _ 7 [(0, .ref 331), (1, .int (x1 + (-1)))] [] (HS I L X)
        refine Wp.sub [0, 1] (ls2 := [(0, .ref 331), (1, .int (x1 + (-1)))]) rfl ?_
        exact ih _ _ _ q
def FO_M_openAt (fu : Nat) (I : Nat → Nat → Int32) (L : Nat → Nat → Int64) : Option (Int32 × (Nat → Nat → Int32) × (Nat → Nat → Int64)) := LO_M_openAt_7 fu fu ((I 331 16) - 1) I L
set_option maxHeartbeats 20000000 in
set_option maxRecDepth 20000 in
theorem eo_M_openAt {d fu : Nat} {I : Nat → Nat → Int32} {L : Nat → Nat → Int64} {X : Nat × (Nat → Int32)} {Q : PQ} {res : Int32 × (Nat → Nat → Int32) × (Nat → Nat → Int64)}  (g : Q (some (.int res.1)) (HS res.2.1 res.2.2 X)) (q : FO_M_openAt fu  I L = some res) : Ev (d + 1) m_M_openAt [.ref 331] (HS I L X) Q := by
  unfold FO_M_openAt at q
  refine ev_start (d := d + 0) rfl rfl rfl (Nat.le_of_ble_eq_true rfl) ?_
  show Wp (Ev (d + 0)) cd_M_openAt (0, 0) (some .int) _ _ Q 0 [(0, .ref 331)] [] (HS I L X)
  refine w_aload_n (Ev.cm _) rfl rfl ?_
  refine w_getI (Ev.cm _) rfl (Nat.le_of_ble_eq_true rfl) rfl ?_
  refine w_iconst (Ev.cm _) rfl ?_
  refine w_isub (Ev.cm _) rfl ?_
  refine w_istore_n (ls2 := [(0, .ref 331), (1, .int ((I 331 16) - 1))]) (Ev.cm _) rfl rfl ?_
  show Wp _ _ _ _ _ _ _ 7 [(0, .ref 331), (1, .int ((I 331 16) - 1))] [] (HS I L X)
  refine Wp.sub [0, 1] (ls2 := [(0, .ref 331), (1, .int ((I 331 16) - 1))]) rfl ?_
  exact lo_M_openAt_7 g fu _ _ _ q
def FO_M_openNow (fu : Nat) (I : Nat → Nat → Int32) (L : Nat → Nat → Int64) : Option (Int32 × (Nat → Nat → Int32) × (Nat → Nat → Int64)) := (FO_M_openAt fu  I L).bind (fun u1 => let r1 := u1.1; let I1 := u1.2.1; let L1 := u1.2.2; if 0 ≤ r1 then ((FO_M_openAt fu  I1 L1).bind (fun u2 => let r2 := u2.1; let I2 := u2.2.1; let L2 := u2.2.2; if 0 ≤ r2 ∧ r2 < 160 then (some (I2 336 r2.toNatClampNeg, I2, L2)) else none)) else (some ((-1), I1, L1)))
set_option maxHeartbeats 20000000 in
set_option maxRecDepth 20000 in
theorem eo_M_openNow {d fu : Nat} {I : Nat → Nat → Int32} {L : Nat → Nat → Int64} {X : Nat × (Nat → Int32)} {Q : PQ} {res : Int32 × (Nat → Nat → Int32) × (Nat → Nat → Int64)}  (g : Q (some (.int res.1)) (HS res.2.1 res.2.2 X)) (q : FO_M_openNow fu  I L = some res) : Ev (d + 2) m_M_openNow [.ref 331] (HS I L X) Q := by
  unfold FO_M_openNow at q
  refine ev_start (d := d + 1) rfl rfl rfl (Nat.le_of_ble_eq_true rfl) ?_
  show Wp (Ev (d + 1)) cd_M_openNow (0, 0) (some .int) _ _ Q 0 [(0, .ref 331)] [] (HS I L X)
  refine w_aload_n (Ev.cm _) rfl rfl ?_
  obtain ⟨⟨r1, I1, L1⟩, e1, q⟩ := obs q
  dsimp only at q
  refine w_cvirt (o := 331) (as := []) (st := []) (Ev.cm _) rfl rfl rfl (Nat.le_of_ble_eq_true rfl) (Nat.le_of_ble_eq_true rfl) rfl (Nat.le_of_ble_eq_true rfl) (eo_M_openAt (g := ?_) e1)
  show Wp _ _ _ _ _ _ _ 4 [(0, .ref 331)] [.int r1] (HS I1 L1 X)
  refine w_if_ge (Ev.cm _) rfl (fun c1 => ?_) (fun c1 => ?_)
  · have c1 : 0 ≤ r1 := c1
    rw [if_pos c1] at q
    refine w_aload_n (Ev.cm _) rfl rfl ?_
    refine w_getR (q := 336) (Ev.cm _) rfl (Nat.le_of_ble_eq_true rfl) rfl rfl ?_
    refine w_aload_n (Ev.cm _) rfl rfl ?_
    obtain ⟨⟨r2, I2, L2⟩, e2, q⟩ := obs q
    dsimp only at q
    refine w_cvirt (o := 331) (as := []) (st := [.ref 336]) (Ev.cm _) rfl rfl rfl (Nat.le_of_ble_eq_true rfl) (Nat.le_of_ble_eq_true rfl) rfl (Nat.le_of_ble_eq_true rfl) (eo_M_openAt (g := ?_) e2)
    show Wp _ _ _ _ _ _ _ 19 [(0, .ref 331)] [.int r2, .ref 336] (HS I2 L2 X)
    obtain ⟨b3, q⟩ := ois q
    refine w_iald (Ev.cm _) rfl (Nat.le_of_ble_eq_true rfl) rfl (show vp_in r2 160 from vpI 160 (by decide) b3.1 b3.2) ?_
    refine w_ireturn (Ev.cm _) rfl trivial rf0 ?_
    cases q
    exact g
  · have c1 : ¬ (0 ≤ r1) := c1
    rw [if_neg c1] at q
    refine w_iconst (Ev.cm _) rfl ?_
    refine w_goto (Ev.cm _) rfl ?_
    refine w_ireturn (Ev.cm _) rfl trivial rf0 ?_
    cases q
    exact g
def LO_M_isCompared_7 (fu : Nat) : Nat → Int32 → (Nat → Nat → Int32) → (Nat → Nat → Int64) → Option (Int32 × (Nat → Nat → Int32) × (Nat → Nat → Int64))
  | 0, _, _, _ => none
  | n + 1, x1, I, L => if x1 < 0 then (if x1 < 0 then (some (0, I, L)) else (if 0 ≤ x1 ∧ x1 < 160 then ((FO_M_rank fu (I 336 x1.toNatClampNeg) I L).bind (fun u2 => let r2 := u2.1; let I2 := u2.2.1; let L2 := u2.2.2; if r2 = 4 then (some (1, I2, L2)) else (some (0, I2, L2)))) else none)) else (if 0 ≤ x1 ∧ x1 < 160 then ((FO_M_rank fu (I 336 x1.toNatClampNeg) I L).bind (fun u4 => let r4 := u4.1; let I4 := u4.2.1; let L4 := u4.2.2; if r4 ≤ 4 then (if x1 < 0 then (some (0, I4, L4)) else (if 0 ≤ x1 ∧ x1 < 160 then ((FO_M_rank fu (I4 336 x1.toNatClampNeg) I4 L4).bind (fun u6 => let r6 := u6.1; let I6 := u6.2.1; let L6 := u6.2.2; if r6 = 4 then (some (1, I6, L6)) else (some (0, I6, L6)))) else none)) else (LO_M_isCompared_7 fu n (x1 + (-1)) I4 L4))) else none)
set_option maxHeartbeats 20000000 in
set_option maxRecDepth 20000 in
theorem lo_M_isCompared_7 {d fu n0 s0 : Nat} {X : Nat × (Nat → Int32)} {Q : PQ} {res : Int32 × (Nat → Nat → Int32) × (Nat → Nat → Int64)}  (g : Q (some (.int res.1)) (HS res.2.1 res.2.2 X)) : ∀ (n : Nat) (x1 : Int32) (I : Nat → Nat → Int32) (L : Nat → Nat → Int64), LO_M_isCompared_7 fu n x1 I L = some res → Wp (Ev (d + 1)) cd_M_isCompared (0, 0) (some .boolean) n0 s0 Q 7 [(0, .ref 331), (1, .int x1)] [] (HS I L X) := by
  intro n
  induction n with
  | zero => intro _ _ _ q; cases q
  | succ n ih =>
    intro x1 I L q
    unfold LO_M_isCompared_7 at q
    refine w_iload_n (Ev.cm _) rfl rfl ?_
    refine w_if_lt (Ev.cm _) rfl (fun c1 => ?_) (fun c1 => ?_)
    · have c1 : x1 < 0 := c1
      rw [if_pos c1] at q
      refine w_iload_n (Ev.cm _) rfl rfl ?_
      refine w_if_lt (Ev.cm _) rfl (fun c2 => ?_) (fun c2 => ?_)
      · have c2 : x1 < 0 := c2
        rw [if_pos c2] at q
        refine w_iconst (Ev.cm _) rfl ?_
        refine w_ireturn (Ev.cm _) rfl (by first | exact rok_0 | exact rok_1 | exact rok_b) rf0 ?_
        cases q
        exact g
      · have c2 : ¬ (x1 < 0) := c2
        rw [if_neg c2] at q
        refine w_aload_n (Ev.cm _) rfl rfl ?_
        refine w_getR (q := 336) (Ev.cm _) rfl (Nat.le_of_ble_eq_true rfl) rfl rfl ?_
        refine w_iload_n (Ev.cm _) rfl rfl ?_
        obtain ⟨b1, q⟩ := ois q
        refine w_iald (Ev.cm _) rfl (Nat.le_of_ble_eq_true rfl) rfl (show vp_in x1 160 from vpI 160 (by decide) b1.1 b1.2) ?_
        obtain ⟨⟨r2, I2, L2⟩, e2, q⟩ := obs q
        dsimp only at q
        refine w_cstat (as := [.int (I 336 x1.toNatClampNeg)]) (st := []) (Ev.cm _) rfl rfl rfl (Nat.le_of_ble_eq_true rfl) (Nat.le_of_ble_eq_true rfl) (eo_M_rank (g := ?_) e2)
        show Wp _ _ _ _ _ _ _ 43 [(0, .ref 331), (1, .int x1)] [.int r2] (HS I2 L2 X)
        refine w_iconst (Ev.cm _) rfl ?_
        refine w_icmp_ne (Ev.cm _) rfl (fun c3 => ?_) (fun c3 => ?_)
        · have c3 : ¬ (r2 = 4) := c3
          rw [if_neg c3] at q
          refine w_iconst (Ev.cm _) rfl ?_
          refine w_ireturn (Ev.cm _) rfl (by first | exact rok_0 | exact rok_1 | exact rok_b) rf0 ?_
          cases q
          exact g
        · have c3 : r2 = 4 := c3
          rw [if_pos c3] at q
          refine w_iconst (Ev.cm _) rfl ?_
          refine w_goto (Ev.cm _) rfl ?_
          refine w_ireturn (Ev.cm _) rfl (by first | exact rok_0 | exact rok_1 | exact rok_b) rf0 ?_
          cases q
          exact g
    · have c1 : ¬ (x1 < 0) := c1
      rw [if_neg c1] at q
      refine w_aload_n (Ev.cm _) rfl rfl ?_
      refine w_getR (q := 336) (Ev.cm _) rfl (Nat.le_of_ble_eq_true rfl) rfl rfl ?_
      refine w_iload_n (Ev.cm _) rfl rfl ?_
      obtain ⟨b3, q⟩ := ois q
      refine w_iald (Ev.cm _) rfl (Nat.le_of_ble_eq_true rfl) rfl (show vp_in x1 160 from vpI 160 (by decide) b3.1 b3.2) ?_
      obtain ⟨⟨r4, I4, L4⟩, e4, q⟩ := obs q
      dsimp only at q
      refine w_cstat (as := [.int (I 336 x1.toNatClampNeg)]) (st := []) (Ev.cm _) rfl rfl rfl (Nat.le_of_ble_eq_true rfl) (Nat.le_of_ble_eq_true rfl) (eo_M_rank (g := ?_) e4)
      show Wp _ _ _ _ _ _ _ 20 [(0, .ref 331), (1, .int x1)] [.int r4] (HS I4 L4 X)
      refine w_iconst (Ev.cm _) rfl ?_
      refine w_icmp_le (Ev.cm _) rfl (fun c4 => ?_) (fun c4 => ?_)
      · have c4 : r4 ≤ 4 := c4
        rw [if_pos c4] at q
        refine w_iload_n (Ev.cm _) rfl rfl ?_
        refine w_if_lt (Ev.cm _) rfl (fun c5 => ?_) (fun c5 => ?_)
        · have c5 : x1 < 0 := c5
          rw [if_pos c5] at q
          refine w_iconst (Ev.cm _) rfl ?_
          refine w_ireturn (Ev.cm _) rfl (by first | exact rok_0 | exact rok_1 | exact rok_b) rf0 ?_
          cases q
          exact g
        · have c5 : ¬ (x1 < 0) := c5
          rw [if_neg c5] at q
          refine w_aload_n (Ev.cm _) rfl rfl ?_
          refine w_getR (q := 336) (Ev.cm _) rfl (Nat.le_of_ble_eq_true rfl) rfl rfl ?_
          refine w_iload_n (Ev.cm _) rfl rfl ?_
          obtain ⟨b5, q⟩ := ois q
          refine w_iald (Ev.cm _) rfl (Nat.le_of_ble_eq_true rfl) rfl (show vp_in x1 160 from vpI 160 (by decide) b5.1 b5.2) ?_
          obtain ⟨⟨r6, I6, L6⟩, e6, q⟩ := obs q
          dsimp only at q
          refine w_cstat (as := [.int (I4 336 x1.toNatClampNeg)]) (st := []) (Ev.cm _) rfl rfl rfl (Nat.le_of_ble_eq_true rfl) (Nat.le_of_ble_eq_true rfl) (eo_M_rank (g := ?_) e6)
          show Wp _ _ _ _ _ _ _ 43 [(0, .ref 331), (1, .int x1)] [.int r6] (HS I6 L6 X)
          refine w_iconst (Ev.cm _) rfl ?_
          refine w_icmp_ne (Ev.cm _) rfl (fun c6 => ?_) (fun c6 => ?_)
          · have c6 : ¬ (r6 = 4) := c6
            rw [if_neg c6] at q
            refine w_iconst (Ev.cm _) rfl ?_
            refine w_ireturn (Ev.cm _) rfl (by first | exact rok_0 | exact rok_1 | exact rok_b) rf0 ?_
            cases q
            exact g
          · have c6 : r6 = 4 := c6
            rw [if_pos c6] at q
            refine w_iconst (Ev.cm _) rfl ?_
            refine w_goto (Ev.cm _) rfl ?_
            refine w_ireturn (Ev.cm _) rfl (by first | exact rok_0 | exact rok_1 | exact rok_b) rf0 ?_
            cases q
            exact g
      · have c4 : ¬ (r4 ≤ 4) := c4
        rw [if_neg c4] at q
        refine w_iinc (ls2 := [(0, .ref 331), (1, .int (x1 + (-1)))]) (Ev.cm _) rfl rfl rfl ?_
        refine w_goto (Ev.cm _) rfl ?_
        show Wp _ _ _ _ _ _ _ 7 [(0, .ref 331), (1, .int (x1 + (-1)))] [] (HS I4 L4 X)
        refine Wp.sub [0, 1] (ls2 := [(0, .ref 331), (1, .int (x1 + (-1)))]) rfl ?_
        exact ih _ _ _ q
def FO_M_isCompared (fu : Nat) (I : Nat → Nat → Int32) (L : Nat → Nat → Int64) : Option (Int32 × (Nat → Nat → Int32) × (Nat → Nat → Int64)) := LO_M_isCompared_7 fu fu ((I 331 16) - 1) I L
set_option maxHeartbeats 20000000 in
set_option maxRecDepth 20000 in
theorem eo_M_isCompared {d fu : Nat} {I : Nat → Nat → Int32} {L : Nat → Nat → Int64} {X : Nat × (Nat → Int32)} {Q : PQ} {res : Int32 × (Nat → Nat → Int32) × (Nat → Nat → Int64)}  (g : Q (some (.int res.1)) (HS res.2.1 res.2.2 X)) (q : FO_M_isCompared fu  I L = some res) : Ev (d + 2) m_M_isCompared [.ref 331] (HS I L X) Q := by
  unfold FO_M_isCompared at q
  refine ev_start (d := d + 1) rfl rfl rfl (Nat.le_of_ble_eq_true rfl) ?_
  show Wp (Ev (d + 1)) cd_M_isCompared (0, 0) (some .boolean) _ _ Q 0 [(0, .ref 331)] [] (HS I L X)
  refine w_aload_n (Ev.cm _) rfl rfl ?_
  refine w_getI (Ev.cm _) rfl (Nat.le_of_ble_eq_true rfl) rfl ?_
  refine w_iconst (Ev.cm _) rfl ?_
  refine w_isub (Ev.cm _) rfl ?_
  refine w_istore_n (ls2 := [(0, .ref 331), (1, .int ((I 331 16) - 1))]) (Ev.cm _) rfl rfl ?_
  show Wp _ _ _ _ _ _ _ 7 [(0, .ref 331), (1, .int ((I 331 16) - 1))] [] (HS I L X)
  refine Wp.sub [0, 1] (ls2 := [(0, .ref 331), (1, .int ((I 331 16) - 1))]) rfl ?_
  exact lo_M_isCompared_7 g fu _ _ _ q
def FO_M_isAskAhead (fu : Nat) (I : Nat → Nat → Int32) (L : Nat → Nat → Int64) : Option (Int32 × (Nat → Nat → Int32) × (Nat → Nat → Int64)) := (FO_M_openNow fu  I L).bind (fun u1 => let r1 := u1.1; let I1 := u1.2.1; let L1 := u1.2.2; if r1 = 42 then (if 0 ≤ (I1 331 16) - 1 ∧ (I1 331 16) - 1 < 160 then (if 40 ≤ I1 336 (((I1 331 16) - 1).toNatClampNeg) then (some (1, I1, L1)) else (if 0 ≤ (I1 331 16) - 1 ∧ (I1 331 16) - 1 < 160 then ((FO_M_rank fu (I1 336 (((I1 331 16) - 1).toNatClampNeg)) I1 L1).bind (fun u4 => let r4 := u4.1; let I4 := u4.2.1; let L4 := u4.2.2; if (1 : Int32) ≤ r4 ∧ r4 ≤ (3 : Int32) then (some (1, I4, L4)) else (some (0, I4, L4)))) else none)) else none) else (some (0, I1, L1)))
set_option maxHeartbeats 20000000 in
set_option maxRecDepth 20000 in
theorem eo_M_isAskAhead {d fu : Nat} {I : Nat → Nat → Int32} {L : Nat → Nat → Int64} {X : Nat × (Nat → Int32)} {Q : PQ} {res : Int32 × (Nat → Nat → Int32) × (Nat → Nat → Int64)}  (g : Q (some (.int res.1)) (HS res.2.1 res.2.2 X)) (q : FO_M_isAskAhead fu  I L = some res) : Ev (d + 3) m_M_isAskAhead [.ref 331] (HS I L X) Q := by
  unfold FO_M_isAskAhead at q
  refine ev_start (d := d + 2) rfl rfl rfl (Nat.le_of_ble_eq_true rfl) ?_
  show Wp (Ev (d + 2)) cd_M_isAskAhead (0, 0) (some .boolean) _ _ Q 0 [(0, .ref 331)] [] (HS I L X)
  refine w_aload_n (Ev.cm _) rfl rfl ?_
  obtain ⟨⟨r1, I1, L1⟩, e1, q⟩ := obs q
  dsimp only at q
  refine w_cvirt (o := 331) (as := []) (st := []) (Ev.cm _) rfl rfl rfl (Nat.le_of_ble_eq_true rfl) (Nat.le_of_ble_eq_true rfl) rfl (Nat.le_of_ble_eq_true rfl) (eo_M_openNow (g := ?_) e1)
  show Wp _ _ _ _ _ _ _ 4 [(0, .ref 331)] [.int r1] (HS I1 L1 X)
  refine w_bipush (Ev.cm _) rfl ?_
  refine w_icmp_ne (Ev.cm _) rfl (fun c1 => ?_) (fun c1 => ?_)
  · have c1 : ¬ (r1 = 42) := c1
    rw [if_neg c1] at q
    refine w_iconst (Ev.cm _) rfl ?_
    refine w_ireturn (Ev.cm _) rfl (by first | exact rok_0 | exact rok_1 | exact rok_b) rf0 ?_
    cases q
    exact g
  · have c1 : r1 = 42 := c1
    rw [if_pos c1] at q
    refine w_aload_n (Ev.cm _) rfl rfl ?_
    refine w_getR (q := 336) (Ev.cm _) rfl (Nat.le_of_ble_eq_true rfl) rfl rfl ?_
    refine w_aload_n (Ev.cm _) rfl rfl ?_
    refine w_getI (Ev.cm _) rfl (Nat.le_of_ble_eq_true rfl) rfl ?_
    refine w_iconst (Ev.cm _) rfl ?_
    refine w_isub (Ev.cm _) rfl ?_
    obtain ⟨b2, q⟩ := ois q
    refine w_iald (Ev.cm _) rfl (Nat.le_of_ble_eq_true rfl) rfl (show vp_in ((I1 331 16) - 1) 160 from vpI 160 (by decide) b2.1 b2.2) ?_
    refine w_bipush (Ev.cm _) rfl ?_
    refine w_icmp_ge (Ev.cm _) rfl (fun c2 => ?_) (fun c2 => ?_)
    · have c2 : 40 ≤ I1 336 (((I1 331 16) - 1).toNatClampNeg) := c2
      rw [if_pos c2] at q
      refine w_iconst (Ev.cm _) rfl ?_
      refine w_goto (Ev.cm _) rfl ?_
      refine w_ireturn (Ev.cm _) rfl (by first | exact rok_0 | exact rok_1 | exact rok_b) rf0 ?_
      cases q
      exact g
    · have c2 : ¬ (40 ≤ I1 336 (((I1 331 16) - 1).toNatClampNeg)) := c2
      rw [if_neg c2] at q
      refine w_aload_n (Ev.cm _) rfl rfl ?_
      refine w_getR (q := 336) (Ev.cm _) rfl (Nat.le_of_ble_eq_true rfl) rfl rfl ?_
      refine w_aload_n (Ev.cm _) rfl rfl ?_
      refine w_getI (Ev.cm _) rfl (Nat.le_of_ble_eq_true rfl) rfl ?_
      refine w_iconst (Ev.cm _) rfl ?_
      refine w_isub (Ev.cm _) rfl ?_
      obtain ⟨b3, q⟩ := ois q
      refine w_iald (Ev.cm _) rfl (Nat.le_of_ble_eq_true rfl) rfl (show vp_in ((I1 331 16) - 1) 160 from vpI 160 (by decide) b3.1 b3.2) ?_
      obtain ⟨⟨r4, I4, L4⟩, e4, q⟩ := obs q
      dsimp only at q
      refine w_cstat (as := [.int (I1 336 (((I1 331 16) - 1).toNatClampNeg))]) (st := []) (Ev.cm _) rfl rfl rfl (Nat.le_of_ble_eq_true rfl) (Nat.le_of_ble_eq_true rfl) (eo_M_rank (g := ?_) e4)
      show Wp _ _ _ _ _ _ _ 39 [(0, .ref 331)] [.int r4] (HS I4 L4 X)
      refine w_iconst (Ev.cm _) rfl ?_
      refine w_iconst (Ev.cm _) rfl ?_
      refine w_cstat (as := [.int r4, .int 1, .int 3]) (st := []) (Ev.cm _) rfl rfl rfl (Nat.le_of_ble_eq_true rfl) (Nat.le_of_ble_eq_true rfl) (m_isIn ?_)
      show Wp _ _ _ _ _ _ _ 44 [(0, .ref 331)] [.int (bI ((1 : Int32) ≤ r4 ∧ r4 ≤ (3 : Int32)))] (HS I4 L4 X)
      refine w_if_eq (Ev.cm _) rfl (fun c3 => ?_) (fun c3 => ?_)
      · have c3 : ¬ ((1 : Int32) ≤ r4 ∧ r4 ≤ (3 : Int32)) := bI_0.mp c3
        rw [if_neg c3] at q
        refine w_iconst (Ev.cm _) rfl ?_
        refine w_ireturn (Ev.cm _) rfl (by first | exact rok_0 | exact rok_1 | exact rok_b) rf0 ?_
        cases q
        exact g
      · have c3 : (1 : Int32) ≤ r4 ∧ r4 ≤ (3 : Int32) := bI_1.mp c3
        rw [if_pos c3] at q
        refine w_iconst (Ev.cm _) rfl ?_
        refine w_goto (Ev.cm _) rfl ?_
        refine w_ireturn (Ev.cm _) rfl (by first | exact rok_0 | exact rok_1 | exact rok_b) rf0 ?_
        cases q
        exact g
def FO_M_opened (fu : Nat) (p0 : Int32) (I : Nat → Nat → Int32) (L : Nat → Nat → Int64) : Option (Int32 × (Nat → Nat → Int32) × (Nat → Nat → Int64)) := if I 331 17 = 8 then (some (3, I, L)) else (if 0 ≤ I 331 16 ∧ I 331 16 < 160 then ((FO_M_nextToken fu  (sI (sI (sI I 331 17 ((I 331 17) + 1)) 336 ((I 331 16).toNatClampNeg) p0) 331 16 ((I 331 16) + 1)) L).bind (fun u2 => let r2 := u2.1; let I2 := u2.2.1; let L2 := u2.2.2; some (0, I2, L2))) else none)
set_option maxHeartbeats 20000000 in
set_option maxRecDepth 20000 in
theorem eo_M_opened {d fu : Nat} {p0 : Int32} {I : Nat → Nat → Int32} {L : Nat → Nat → Int64} {X : Nat × (Nat → Int32)} {Q : PQ} {res : Int32 × (Nat → Nat → Int32) × (Nat → Nat → Int64)}  (g : Q (some (.int res.1)) (HS res.2.1 res.2.2 X)) (q : FO_M_opened fu p0 I L = some res) : Ev (d + 3) m_M_opened [.ref 331, .int p0] (HS I L X) Q := by
  unfold FO_M_opened at q
  refine ev_start (d := d + 2) rfl rfl rfl (Nat.le_of_ble_eq_true rfl) ?_
  show Wp (Ev (d + 2)) cd_M_opened (0, 0) (some .int) _ _ Q 0 [(0, .ref 331), (1, .int p0)] [] (HS I L X)
  refine w_aload_n (Ev.cm _) rfl rfl ?_
  refine w_getI (Ev.cm _) rfl (Nat.le_of_ble_eq_true rfl) rfl ?_
  refine w_bipush (Ev.cm _) rfl ?_
  refine w_icmp_ne (Ev.cm _) rfl (fun c1 => ?_) (fun c1 => ?_)
  · have c1 : ¬ (I 331 17 = 8) := c1
    rw [if_neg c1] at q
    refine w_aload_n (Ev.cm _) rfl rfl ?_
    refine w_dup (Ev.cm _) rfl rfl ?_
    refine w_getI (Ev.cm _) rfl (Nat.le_of_ble_eq_true rfl) rfl ?_
    refine w_iconst (Ev.cm _) rfl ?_
    refine w_iadd (Ev.cm _) rfl ?_
    refine w_putI (Ev.cm _) rfl (Nat.le_of_ble_eq_true rfl) rfl ?_
    refine w_aload_n (Ev.cm _) rfl rfl ?_
    refine w_getR (q := 336) (Ev.cm _) rfl (Nat.le_of_ble_eq_true rfl) rfl rfl ?_
    refine w_aload_n (Ev.cm _) rfl rfl ?_
    refine w_getI (Ev.cm _) rfl (Nat.le_of_ble_eq_true rfl) rfl ?_
    refine w_iload_n (Ev.cm _) rfl rfl ?_
    obtain ⟨b1, q⟩ := ois q
    refine w_iast (Ev.cm _) rfl (Nat.le_of_ble_eq_true rfl) rfl (show vp_in (I 331 16) 160 from vpI 160 (by decide) b1.1 b1.2) ?_
    refine w_aload_n (Ev.cm _) rfl rfl ?_
    refine w_dup (Ev.cm _) rfl rfl ?_
    refine w_getI (Ev.cm _) rfl (Nat.le_of_ble_eq_true rfl) rfl ?_
    refine w_iconst (Ev.cm _) rfl ?_
    refine w_iadd (Ev.cm _) rfl ?_
    refine w_putI (Ev.cm _) rfl (Nat.le_of_ble_eq_true rfl) rfl ?_
    refine w_aload_n (Ev.cm _) rfl rfl ?_
    obtain ⟨⟨r2, I2, L2⟩, e2, q⟩ := obs q
    dsimp only at q
    refine w_cvirt (o := 331) (as := []) (st := []) (Ev.cm _) rfl rfl rfl (Nat.le_of_ble_eq_true rfl) (Nat.le_of_ble_eq_true rfl) rfl (Nat.le_of_ble_eq_true rfl) (eo_M_nextToken (g := ?_) e2)
    show Wp _ _ _ _ _ _ _ 45 [(0, .ref 331), (1, .int p0)] [] (HS I2 L2 X)
    refine w_iconst (Ev.cm _) rfl ?_
    refine w_ireturn (Ev.cm _) rfl trivial rf0 ?_
    cases q
    exact g
  · have c1 : I 331 17 = 8 := c1
    rw [if_pos c1] at q
    refine w_iconst (Ev.cm _) rfl ?_
    refine w_ireturn (Ev.cm _) rfl trivial rf0 ?_
    cases q
    exact g
def FO_M_endOne (fu : Nat) (I : Nat → Nat → Int32) (L : Nat → Nat → Int64) : Option (Int32 × (Nat → Nat → Int32) × (Nat → Nat → Int64)) := (FO_M_settle fu 7 I L).bind (fun u1 => let r1 := u1.1; let I1 := u1.2.1; let L1 := u1.2.2; if I1 331 16 = 0 then (some (0, sI I1 331 18 1, L1)) else (if 0 ≤ (I1 331 16) - 1 ∧ (I1 331 16) - 1 < 160 then (if I1 336 (((I1 331 16) - 1).toNatClampNeg) = 41 then ((FO_M_w2 fu 111 102 (sI I1 331 18 1) L1).bind (fun u3 => let r3 := u3.1; let I3 := u3.2.1; let L3 := u3.2.2; (FO_M_isWord fu r3 I3 L3).bind (fun u4 => let r4 := u4.1; let I4 := u4.2.1; let L4 := u4.2.2; if r4 = 0 then (some (1, I4, L4)) else ((FO_M_nextToken fu  I4 L4).bind (fun u5 => let r5 := u5.1; let I5 := u5.2.1; let L5 := u5.2.2; if 0 ≤ (I5 331 16) - 1 ∧ (I5 331 16) - 1 < 160 then (some (0, sI (sI I5 336 (((I5 331 16) - 1).toNatClampNeg) 4) 331 18 0, L5)) else none))))) else (some (0, sI I1 331 18 1, L1))) else none))
set_option maxHeartbeats 20000000 in
set_option maxRecDepth 20000 in
theorem eo_M_endOne {d fu : Nat} {I : Nat → Nat → Int32} {L : Nat → Nat → Int64} {X : Nat × (Nat → Int32)} {Q : PQ} {res : Int32 × (Nat → Nat → Int32) × (Nat → Nat → Int64)}  (g : Q (some (.int res.1)) (HS res.2.1 res.2.2 X)) (q : FO_M_endOne fu  I L = some res) : Ev (d + 3) m_M_endOne [.ref 331] (HS I L X) Q := by
  unfold FO_M_endOne at q
  refine ev_start (d := d + 2) rfl rfl rfl (Nat.le_of_ble_eq_true rfl) ?_
  show Wp (Ev (d + 2)) cd_M_endOne (0, 0) (some .int) _ _ Q 0 [(0, .ref 331)] [] (HS I L X)
  refine w_aload_n (Ev.cm _) rfl rfl ?_
  refine w_bipush (Ev.cm _) rfl ?_
  obtain ⟨⟨r1, I1, L1⟩, e1, q⟩ := obs q
  dsimp only at q
  refine w_cvirt (o := 331) (as := [.int 7]) (st := []) (Ev.cm _) rfl rfl rfl (Nat.le_of_ble_eq_true rfl) (Nat.le_of_ble_eq_true rfl) rfl (Nat.le_of_ble_eq_true rfl) (eo_M_settle (g := ?_) e1)
  show Wp _ _ _ _ _ _ _ 6 [(0, .ref 331)] [] (HS I1 L1 X)
  refine w_aload_n (Ev.cm _) rfl rfl ?_
  refine w_iconst (Ev.cm _) rfl ?_
  refine w_putZ (Ev.cm _) rfl (Nat.le_of_ble_eq_true rfl) rfl (by first | decide | exact bI_b) ?_
  refine w_aload_n (Ev.cm _) rfl rfl ?_
  refine w_getI (Ev.cm _) rfl (Nat.le_of_ble_eq_true rfl) rfl ?_
  refine w_if_eq (Ev.cm _) rfl (fun c1 => ?_) (fun c1 => ?_)
  · have c1 : I1 331 16 = 0 := c1
    rw [if_pos c1] at q
    refine w_iconst (Ev.cm _) rfl ?_
    refine w_ireturn (Ev.cm _) rfl trivial rf0 ?_
    cases q
    exact g
  · have c1 : ¬ (I1 331 16 = 0) := c1
    rw [if_neg c1] at q
    refine w_aload_n (Ev.cm _) rfl rfl ?_
    refine w_getR (q := 336) (Ev.cm _) rfl (Nat.le_of_ble_eq_true rfl) rfl rfl ?_
    refine w_aload_n (Ev.cm _) rfl rfl ?_
    refine w_getI (Ev.cm _) rfl (Nat.le_of_ble_eq_true rfl) rfl ?_
    refine w_iconst (Ev.cm _) rfl ?_
    refine w_isub (Ev.cm _) rfl ?_
    obtain ⟨b2, q⟩ := ois q
    refine w_iald (Ev.cm _) rfl (Nat.le_of_ble_eq_true rfl) rfl (show vp_in ((I1 331 16) - 1) 160 from vpI 160 (by decide) b2.1 b2.2) ?_
    refine w_bipush (Ev.cm _) rfl ?_
    refine w_icmp_eq (Ev.cm _) rfl (fun c2 => ?_) (fun c2 => ?_)
    · have c2 : I1 336 (((I1 331 16) - 1).toNatClampNeg) = 41 := c2
      rw [if_pos c2] at q
      refine w_aload_n (Ev.cm _) rfl rfl ?_
      refine w_bipush (Ev.cm _) rfl ?_
      refine w_bipush (Ev.cm _) rfl ?_
      obtain ⟨⟨r3, I3, L3⟩, e3, q⟩ := obs q
      dsimp only at q
      refine w_cstat (as := [.int 111, .int 102]) (st := [.ref 331]) (Ev.cm _) rfl rfl rfl (Nat.le_of_ble_eq_true rfl) (Nat.le_of_ble_eq_true rfl) (eo_M_w2 (g := ?_) e3)
      show Wp _ _ _ _ _ _ _ 44 [(0, .ref 331)] [.long r3, .ref 331] (HS I3 L3 X)
      obtain ⟨⟨r4, I4, L4⟩, e4, q⟩ := obs q
      dsimp only at q
      refine w_cvirt (o := 331) (as := [.long r3]) (st := []) (Ev.cm _) rfl rfl rfl (Nat.le_of_ble_eq_true rfl) (Nat.le_of_ble_eq_true rfl) rfl (Nat.le_of_ble_eq_true rfl) (eo_M_isWord (g := ?_) e4)
      show Wp _ _ _ _ _ _ _ 47 [(0, .ref 331)] [.int r4] (HS I4 L4 X)
      refine w_if_ne (Ev.cm _) rfl (fun c3 => ?_) (fun c3 => ?_)
      · have c3 : ¬ (r4 = 0) := c3
        rw [if_neg c3] at q
        refine w_aload_n (Ev.cm _) rfl rfl ?_
        obtain ⟨⟨r5, I5, L5⟩, e5, q⟩ := obs q
        dsimp only at q
        refine w_cvirt (o := 331) (as := []) (st := []) (Ev.cm _) rfl rfl rfl (Nat.le_of_ble_eq_true rfl) (Nat.le_of_ble_eq_true rfl) rfl (Nat.le_of_ble_eq_true rfl) (eo_M_nextToken (g := ?_) e5)
        show Wp _ _ _ _ _ _ _ 56 [(0, .ref 331)] [] (HS I5 L5 X)
        refine w_aload_n (Ev.cm _) rfl rfl ?_
        refine w_getR (q := 336) (Ev.cm _) rfl (Nat.le_of_ble_eq_true rfl) rfl rfl ?_
        refine w_aload_n (Ev.cm _) rfl rfl ?_
        refine w_getI (Ev.cm _) rfl (Nat.le_of_ble_eq_true rfl) rfl ?_
        refine w_iconst (Ev.cm _) rfl ?_
        refine w_isub (Ev.cm _) rfl ?_
        refine w_iconst (Ev.cm _) rfl ?_
        obtain ⟨b6, q⟩ := ois q
        refine w_iast (Ev.cm _) rfl (Nat.le_of_ble_eq_true rfl) rfl (show vp_in ((I5 331 16) - 1) 160 from vpI 160 (by decide) b6.1 b6.2) ?_
        refine w_aload_n (Ev.cm _) rfl rfl ?_
        refine w_iconst (Ev.cm _) rfl ?_
        refine w_putZ (Ev.cm _) rfl (Nat.le_of_ble_eq_true rfl) rfl (by first | decide | exact bI_b) ?_
        refine w_iconst (Ev.cm _) rfl ?_
        refine w_ireturn (Ev.cm _) rfl trivial rf0 ?_
        cases q
        exact g
      · have c3 : r4 = 0 := c3
        rw [if_pos c3] at q
        refine w_iconst (Ev.cm _) rfl ?_
        refine w_ireturn (Ev.cm _) rfl trivial rf0 ?_
        cases q
        exact g
    · have c2 : ¬ (I1 336 (((I1 331 16) - 1).toNatClampNeg) = 41) := c2
      rw [if_neg c2] at q
      refine w_iconst (Ev.cm _) rfl ?_
      refine w_ireturn (Ev.cm _) rfl trivial rf0 ?_
      cases q
      exact g
def FO_M_compareOf (fu : Nat) (I : Nat → Nat → Int32) (L : Nat → Nat → Int64) : Option (Int32 × (Nat → Nat → Int32) × (Nat → Nat → Int64)) := if I 331 9 = 60 then (some (10, I, L)) else (if I 331 9 = 4 then (some (11, I, L)) else (if I 331 9 = 62 then (some (12, I, L)) else (if I 331 9 = 5 then (some (13, I, L)) else (if I 331 9 = 61 then (some (14, I, L)) else (if I 331 9 = 35 then (some (15, I, L)) else (some ((-1), I, L)))))))
set_option maxHeartbeats 20000000 in
set_option maxRecDepth 20000 in
theorem eo_M_compareOf {d fu : Nat} {I : Nat → Nat → Int32} {L : Nat → Nat → Int64} {X : Nat × (Nat → Int32)} {Q : PQ} {res : Int32 × (Nat → Nat → Int32) × (Nat → Nat → Int64)}  (g : Q (some (.int res.1)) (HS res.2.1 res.2.2 X)) (q : FO_M_compareOf fu  I L = some res) : Ev (d + 1) m_M_compareOf [.ref 331] (HS I L X) Q := by
  unfold FO_M_compareOf at q
  refine ev_start (d := d + 0) rfl rfl rfl (Nat.le_of_ble_eq_true rfl) ?_
  show Wp (Ev (d + 0)) cd_M_compareOf (0, 0) (some .int) _ _ Q 0 [(0, .ref 331)] [] (HS I L X)
  refine w_aload_n (Ev.cm _) rfl rfl ?_
  refine w_getI (Ev.cm _) rfl (Nat.le_of_ble_eq_true rfl) rfl ?_
  refine w_bipush (Ev.cm _) rfl ?_
  refine w_icmp_ne (Ev.cm _) rfl (fun c1 => ?_) (fun c1 => ?_)
  · have c1 : ¬ (I 331 9 = 60) := c1
    rw [if_neg c1] at q
    refine w_aload_n (Ev.cm _) rfl rfl ?_
    refine w_getI (Ev.cm _) rfl (Nat.le_of_ble_eq_true rfl) rfl ?_
    refine w_iconst (Ev.cm _) rfl ?_
    refine w_icmp_ne (Ev.cm _) rfl (fun c2 => ?_) (fun c2 => ?_)
    · have c2 : ¬ (I 331 9 = 4) := c2
      rw [if_neg c2] at q
      refine w_aload_n (Ev.cm _) rfl rfl ?_
      refine w_getI (Ev.cm _) rfl (Nat.le_of_ble_eq_true rfl) rfl ?_
      refine w_bipush (Ev.cm _) rfl ?_
      refine w_icmp_ne (Ev.cm _) rfl (fun c3 => ?_) (fun c3 => ?_)
      · have c3 : ¬ (I 331 9 = 62) := c3
        rw [if_neg c3] at q
        refine w_aload_n (Ev.cm _) rfl rfl ?_
        refine w_getI (Ev.cm _) rfl (Nat.le_of_ble_eq_true rfl) rfl ?_
        refine w_iconst (Ev.cm _) rfl ?_
        refine w_icmp_ne (Ev.cm _) rfl (fun c4 => ?_) (fun c4 => ?_)
        · have c4 : ¬ (I 331 9 = 5) := c4
          rw [if_neg c4] at q
          refine w_aload_n (Ev.cm _) rfl rfl ?_
          refine w_getI (Ev.cm _) rfl (Nat.le_of_ble_eq_true rfl) rfl ?_
          refine w_bipush (Ev.cm _) rfl ?_
          refine w_icmp_ne (Ev.cm _) rfl (fun c5 => ?_) (fun c5 => ?_)
          · have c5 : ¬ (I 331 9 = 61) := c5
            rw [if_neg c5] at q
            refine w_aload_n (Ev.cm _) rfl rfl ?_
            refine w_getI (Ev.cm _) rfl (Nat.le_of_ble_eq_true rfl) rfl ?_
            refine w_bipush (Ev.cm _) rfl ?_
            refine w_icmp_ne (Ev.cm _) rfl (fun c6 => ?_) (fun c6 => ?_)
            · have c6 : ¬ (I 331 9 = 35) := c6
              rw [if_neg c6] at q
              refine w_iconst (Ev.cm _) rfl ?_
              refine w_ireturn (Ev.cm _) rfl trivial rf0 ?_
              cases q
              exact g
            · have c6 : I 331 9 = 35 := c6
              rw [if_pos c6] at q
              refine w_bipush (Ev.cm _) rfl ?_
              refine w_goto (Ev.cm _) rfl ?_
              refine w_ireturn (Ev.cm _) rfl trivial rf0 ?_
              cases q
              exact g
          · have c5 : I 331 9 = 61 := c5
            rw [if_pos c5] at q
            refine w_bipush (Ev.cm _) rfl ?_
            refine w_goto (Ev.cm _) rfl ?_
            refine w_ireturn (Ev.cm _) rfl trivial rf0 ?_
            cases q
            exact g
        · have c4 : I 331 9 = 5 := c4
          rw [if_pos c4] at q
          refine w_bipush (Ev.cm _) rfl ?_
          refine w_goto (Ev.cm _) rfl ?_
          refine w_ireturn (Ev.cm _) rfl trivial rf0 ?_
          cases q
          exact g
      · have c3 : I 331 9 = 62 := c3
        rw [if_pos c3] at q
        refine w_bipush (Ev.cm _) rfl ?_
        refine w_goto (Ev.cm _) rfl ?_
        refine w_ireturn (Ev.cm _) rfl trivial rf0 ?_
        cases q
        exact g
    · have c2 : I 331 9 = 4 := c2
      rw [if_pos c2] at q
      refine w_bipush (Ev.cm _) rfl ?_
      refine w_goto (Ev.cm _) rfl ?_
      refine w_ireturn (Ev.cm _) rfl trivial rf0 ?_
      cases q
      exact g
  · have c1 : I 331 9 = 60 := c1
    rw [if_pos c1] at q
    refine w_bipush (Ev.cm _) rfl ?_
    refine w_goto (Ev.cm _) rfl ?_
    refine w_ireturn (Ev.cm _) rfl trivial rf0 ?_
    cases q
    exact g
def FO_M_betweenOf (fu : Nat) (I : Nat → Nat → Int32) (L : Nat → Nat → Int64) : Option (Int32 × (Nat → Nat → Int32) × (Nat → Nat → Int64)) := if I 331 9 = 43 then (some (6, I, L)) else (if I 331 9 = 45 then (some (7, I, L)) else (if I 331 9 = 42 then (some (8, I, L)) else (if I 331 9 = 47 then (some (9, I, L)) else ((FO_M_openNow fu  I L).bind (fun u1 => let r1 := u1.1; let I1 := u1.2.1; let L1 := u1.2.2; if r1 = 42 then ((FO_M_isCompared fu  I1 L1).bind (fun u2 => let r2 := u2.1; let I2 := u2.2.1; let L2 := u2.2.2; if r2 = 0 then ((FO_M_compareOf fu  I2 L2).bind (fun u7 => let r7 := u7.1; let I7 := u7.2.1; let L7 := u7.2.2; some (r7, I7, L7))) else ((FO_M_w3 fu 97 110 100 I2 L2).bind (fun u3 => let r3 := u3.1; let I3 := u3.2.1; let L3 := u3.2.2; (FO_M_isWord fu r3 I3 L3).bind (fun u4 => let r4 := u4.1; let I4 := u4.2.1; let L4 := u4.2.2; if r4 = 0 then ((FO_M_w2 fu 111 114 I4 L4).bind (fun u5 => let r5 := u5.1; let I5 := u5.2.1; let L5 := u5.2.2; (FO_M_isWord fu r5 I5 L5).bind (fun u6 => let r6 := u6.1; let I6 := u6.2.1; let L6 := u6.2.2; if r6 = 0 then (some ((-1), I6, L6)) else (some (22, I6, L6))))) else (some (21, I4, L4))))))) else (some ((-1), I1, L1)))))))
set_option maxHeartbeats 20000000 in
set_option maxRecDepth 20000 in
theorem eo_M_betweenOf {d fu : Nat} {I : Nat → Nat → Int32} {L : Nat → Nat → Int64} {X : Nat × (Nat → Int32)} {Q : PQ} {res : Int32 × (Nat → Nat → Int32) × (Nat → Nat → Int64)}  (g : Q (some (.int res.1)) (HS res.2.1 res.2.2 X)) (q : FO_M_betweenOf fu  I L = some res) : Ev (d + 3) m_M_betweenOf [.ref 331] (HS I L X) Q := by
  unfold FO_M_betweenOf at q
  refine ev_start (d := d + 2) rfl rfl rfl (Nat.le_of_ble_eq_true rfl) ?_
  show Wp (Ev (d + 2)) cd_M_betweenOf (0, 0) (some .int) _ _ Q 0 [(0, .ref 331)] [] (HS I L X)
  refine w_aload_n (Ev.cm _) rfl rfl ?_
  refine w_getI (Ev.cm _) rfl (Nat.le_of_ble_eq_true rfl) rfl ?_
  refine w_bipush (Ev.cm _) rfl ?_
  refine w_icmp_ne (Ev.cm _) rfl (fun c1 => ?_) (fun c1 => ?_)
  · have c1 : ¬ (I 331 9 = 43) := c1
    rw [if_neg c1] at q
    refine w_aload_n (Ev.cm _) rfl rfl ?_
    refine w_getI (Ev.cm _) rfl (Nat.le_of_ble_eq_true rfl) rfl ?_
    refine w_bipush (Ev.cm _) rfl ?_
    refine w_icmp_ne (Ev.cm _) rfl (fun c2 => ?_) (fun c2 => ?_)
    · have c2 : ¬ (I 331 9 = 45) := c2
      rw [if_neg c2] at q
      refine w_aload_n (Ev.cm _) rfl rfl ?_
      refine w_getI (Ev.cm _) rfl (Nat.le_of_ble_eq_true rfl) rfl ?_
      refine w_bipush (Ev.cm _) rfl ?_
      refine w_icmp_ne (Ev.cm _) rfl (fun c3 => ?_) (fun c3 => ?_)
      · have c3 : ¬ (I 331 9 = 42) := c3
        rw [if_neg c3] at q
        refine w_aload_n (Ev.cm _) rfl rfl ?_
        refine w_getI (Ev.cm _) rfl (Nat.le_of_ble_eq_true rfl) rfl ?_
        refine w_bipush (Ev.cm _) rfl ?_
        refine w_icmp_ne (Ev.cm _) rfl (fun c4 => ?_) (fun c4 => ?_)
        · have c4 : ¬ (I 331 9 = 47) := c4
          rw [if_neg c4] at q
          refine w_aload_n (Ev.cm _) rfl rfl ?_
          obtain ⟨⟨r1, I1, L1⟩, e1, q⟩ := obs q
          dsimp only at q
          refine w_cvirt (o := 331) (as := []) (st := []) (Ev.cm _) rfl rfl rfl (Nat.le_of_ble_eq_true rfl) (Nat.le_of_ble_eq_true rfl) rfl (Nat.le_of_ble_eq_true rfl) (eo_M_openNow (g := ?_) e1)
          show Wp _ _ _ _ _ _ _ 52 [(0, .ref 331)] [.int r1] (HS I1 L1 X)
          refine w_bipush (Ev.cm _) rfl ?_
          refine w_icmp_eq (Ev.cm _) rfl (fun c5 => ?_) (fun c5 => ?_)
          · have c5 : r1 = 42 := c5
            rw [if_pos c5] at q
            refine w_aload_n (Ev.cm _) rfl rfl ?_
            obtain ⟨⟨r2, I2, L2⟩, e2, q⟩ := obs q
            dsimp only at q
            refine w_cvirt (o := 331) (as := []) (st := []) (Ev.cm _) rfl rfl rfl (Nat.le_of_ble_eq_true rfl) (Nat.le_of_ble_eq_true rfl) rfl (Nat.le_of_ble_eq_true rfl) (eo_M_isCompared (g := ?_) e2)
            show Wp _ _ _ _ _ _ _ 63 [(0, .ref 331)] [.int r2] (HS I2 L2 X)
            refine w_if_ne (Ev.cm _) rfl (fun c6 => ?_) (fun c6 => ?_)
            · have c6 : ¬ (r2 = 0) := c6
              rw [if_neg c6] at q
              refine w_aload_n (Ev.cm _) rfl rfl ?_
              refine w_bipush (Ev.cm _) rfl ?_
              refine w_bipush (Ev.cm _) rfl ?_
              refine w_bipush (Ev.cm _) rfl ?_
              obtain ⟨⟨r3, I3, L3⟩, e3, q⟩ := obs q
              dsimp only at q
              refine w_cstat (as := [.int 97, .int 110, .int 100]) (st := [.ref 331]) (Ev.cm _) rfl rfl rfl (Nat.le_of_ble_eq_true rfl) (Nat.le_of_ble_eq_true rfl) (eo_M_w3 (g := ?_) e3)
              show Wp _ _ _ _ _ _ _ 81 [(0, .ref 331)] [.long r3, .ref 331] (HS I3 L3 X)
              obtain ⟨⟨r4, I4, L4⟩, e4, q⟩ := obs q
              dsimp only at q
              refine w_cvirt (o := 331) (as := [.long r3]) (st := []) (Ev.cm _) rfl rfl rfl (Nat.le_of_ble_eq_true rfl) (Nat.le_of_ble_eq_true rfl) rfl (Nat.le_of_ble_eq_true rfl) (eo_M_isWord (g := ?_) e4)
              show Wp _ _ _ _ _ _ _ 84 [(0, .ref 331)] [.int r4] (HS I4 L4 X)
              refine w_if_eq (Ev.cm _) rfl (fun c7 => ?_) (fun c7 => ?_)
              · have c7 : r4 = 0 := c7
                rw [if_pos c7] at q
                refine w_aload_n (Ev.cm _) rfl rfl ?_
                refine w_bipush (Ev.cm _) rfl ?_
                refine w_bipush (Ev.cm _) rfl ?_
                obtain ⟨⟨r5, I5, L5⟩, e5, q⟩ := obs q
                dsimp only at q
                refine w_cstat (as := [.int 111, .int 114]) (st := [.ref 331]) (Ev.cm _) rfl rfl rfl (Nat.le_of_ble_eq_true rfl) (Nat.le_of_ble_eq_true rfl) (eo_M_w2 (g := ?_) e5)
                show Wp _ _ _ _ _ _ _ 100 [(0, .ref 331)] [.long r5, .ref 331] (HS I5 L5 X)
                obtain ⟨⟨r6, I6, L6⟩, e6, q⟩ := obs q
                dsimp only at q
                refine w_cvirt (o := 331) (as := [.long r5]) (st := []) (Ev.cm _) rfl rfl rfl (Nat.le_of_ble_eq_true rfl) (Nat.le_of_ble_eq_true rfl) rfl (Nat.le_of_ble_eq_true rfl) (eo_M_isWord (g := ?_) e6)
                show Wp _ _ _ _ _ _ _ 103 [(0, .ref 331)] [.int r6] (HS I6 L6 X)
                refine w_if_eq (Ev.cm _) rfl (fun c8 => ?_) (fun c8 => ?_)
                · have c8 : r6 = 0 := c8
                  rw [if_pos c8] at q
                  refine w_iconst (Ev.cm _) rfl ?_
                  refine w_ireturn (Ev.cm _) rfl trivial rf0 ?_
                  cases q
                  exact g
                · have c8 : ¬ (r6 = 0) := c8
                  rw [if_neg c8] at q
                  refine w_bipush (Ev.cm _) rfl ?_
                  refine w_goto (Ev.cm _) rfl ?_
                  refine w_ireturn (Ev.cm _) rfl trivial rf0 ?_
                  cases q
                  exact g
              · have c7 : ¬ (r4 = 0) := c7
                rw [if_neg c7] at q
                refine w_bipush (Ev.cm _) rfl ?_
                refine w_goto (Ev.cm _) rfl ?_
                refine w_ireturn (Ev.cm _) rfl trivial rf0 ?_
                cases q
                exact g
            · have c6 : r2 = 0 := c6
              rw [if_pos c6] at q
              refine w_aload_n (Ev.cm _) rfl rfl ?_
              obtain ⟨⟨r7, I7, L7⟩, e7, q⟩ := obs q
              dsimp only at q
              refine w_cvirt (o := 331) (as := []) (st := []) (Ev.cm _) rfl rfl rfl (Nat.le_of_ble_eq_true rfl) (Nat.le_of_ble_eq_true rfl) rfl (Nat.le_of_ble_eq_true rfl) (eo_M_compareOf (g := ?_) e7)
              show Wp _ _ _ _ _ _ _ 70 [(0, .ref 331)] [.int r7] (HS I7 L7 X)
              refine w_ireturn (Ev.cm _) rfl trivial rf0 ?_
              cases q
              exact g
          · have c5 : ¬ (r1 = 42) := c5
            rw [if_neg c5] at q
            refine w_iconst (Ev.cm _) rfl ?_
            refine w_ireturn (Ev.cm _) rfl trivial rf0 ?_
            cases q
            exact g
        · have c4 : I 331 9 = 47 := c4
          rw [if_pos c4] at q
          refine w_bipush (Ev.cm _) rfl ?_
          refine w_ireturn (Ev.cm _) rfl trivial rf0 ?_
          cases q
          exact g
      · have c3 : I 331 9 = 42 := c3
        rw [if_pos c3] at q
        refine w_bipush (Ev.cm _) rfl ?_
        refine w_ireturn (Ev.cm _) rfl trivial rf0 ?_
        cases q
        exact g
    · have c2 : I 331 9 = 45 := c2
      rw [if_pos c2] at q
      refine w_bipush (Ev.cm _) rfl ?_
      refine w_ireturn (Ev.cm _) rfl trivial rf0 ?_
      cases q
      exact g
  · have c1 : I 331 9 = 43 := c1
    rw [if_pos c1] at q
    refine w_bipush (Ev.cm _) rfl ?_
    refine w_ireturn (Ev.cm _) rfl trivial rf0 ?_
    cases q
    exact g
def FO_M_partOf (fu : Nat) (p0 : Int32) (I : Nat → Nat → Int32) (L : Nat → Nat → Int64) : Option (Int32 × (Nat → Nat → Int32) × (Nat → Nat → Int64)) := if p0 = 40 then (if I 331 9 = 41 then (some (0, I, L)) else (some ((-1), I, L))) else (if p0 = 42 then ((FO_M_w4 fu 116 104 101 110 I L).bind (fun u1 => let r1 := u1.1; let I1 := u1.2.1; let L1 := u1.2.2; (FO_M_isWord fu r1 I1 L1).bind (fun u2 => let r2 := u2.1; let I2 := u2.2.1; let L2 := u2.2.2; if r2 = 0 then (some ((-1), I2, L2)) else ((FO_M_isCompared fu  I2 L2).bind (fun u3 => let r3 := u3.1; let I3 := u3.2.1; let L3 := u3.2.2; if r3 = 0 then (some ((-1), I3, L3)) else (some (43, I3, L3))))))) else (if p0 = 43 then ((FO_M_w4 fu 101 108 115 101 I L).bind (fun u4 => let r4 := u4.1; let I4 := u4.2.1; let L4 := u4.2.2; (FO_M_isWord fu r4 I4 L4).bind (fun u5 => let r5 := u5.1; let I5 := u5.2.1; let L5 := u5.2.2; if r5 = 0 then (some ((-1), I5, L5)) else (some (44, I5, L5))))) else (if p0 = 44 then ((FO_M_w3 fu 101 110 100 I L).bind (fun u6 => let r6 := u6.1; let I6 := u6.2.1; let L6 := u6.2.2; (FO_M_isWord fu r6 I6 L6).bind (fun u7 => let r7 := u7.1; let I7 := u7.2.1; let L7 := u7.2.2; if r7 = 0 then (some ((-1), I7, L7)) else (some (0, I7, L7))))) else (some ((-1), I, L)))))
set_option maxHeartbeats 20000000 in
set_option maxRecDepth 20000 in
theorem eo_M_partOf {d fu : Nat} {p0 : Int32} {I : Nat → Nat → Int32} {L : Nat → Nat → Int64} {X : Nat × (Nat → Int32)} {Q : PQ} {res : Int32 × (Nat → Nat → Int32) × (Nat → Nat → Int64)}  (g : Q (some (.int res.1)) (HS res.2.1 res.2.2 X)) (q : FO_M_partOf fu p0 I L = some res) : Ev (d + 4) m_M_partOf [.ref 331, .int p0] (HS I L X) Q := by
  unfold FO_M_partOf at q
  refine ev_start (d := d + 3) rfl rfl rfl (Nat.le_of_ble_eq_true rfl) ?_
  show Wp (Ev (d + 3)) cd_M_partOf (0, 0) (some .int) _ _ Q 0 [(0, .ref 331), (1, .int p0)] [] (HS I L X)
  refine w_iload_n (Ev.cm _) rfl rfl ?_
  refine w_tswL (Ev.cm _) [(40, 35), (42, 50), (43, 82), (44, 107)] rfl (by decide +kernel) (by decide +kernel) ?_
  refine ⟨fun c1 => ?_, fun c1_0 => ⟨fun c1 => ?_, fun c1_1 => ⟨fun c1 => ?_, fun c1_2 => ⟨fun c1 => ?_, fun c1_3 => ?_⟩⟩⟩⟩
  · have c1 : p0 = 40 := sw_v c1 (by decide)
    rw [if_pos c1] at q
    show Wp _ _ _ _ _ _ _ 36 [(0, .ref 331), (1, .int p0)] [] (HS I L X)
    refine w_aload_n (Ev.cm _) rfl rfl ?_
    refine w_getI (Ev.cm _) rfl (Nat.le_of_ble_eq_true rfl) rfl ?_
    refine w_bipush (Ev.cm _) rfl ?_
    refine w_icmp_ne (Ev.cm _) rfl (fun c2 => ?_) (fun c2 => ?_)
    · have c2 : ¬ (I 331 9 = 41) := c2
      rw [if_neg c2] at q
      refine w_iconst (Ev.cm _) rfl ?_
      refine w_ireturn (Ev.cm _) rfl trivial rf0 ?_
      cases q
      exact g
    · have c2 : I 331 9 = 41 := c2
      rw [if_pos c2] at q
      refine w_iconst (Ev.cm _) rfl ?_
      refine w_goto (Ev.cm _) rfl ?_
      refine w_ireturn (Ev.cm _) rfl trivial rf0 ?_
      cases q
      exact g
  · have c1_0 : ¬ p0 = 40 := sw_w c1_0 (by decide)
    have c1 : p0 = 42 := sw_v c1 (by decide)
    rw [if_neg c1_0, if_pos c1] at q
    show Wp _ _ _ _ _ _ _ 51 [(0, .ref 331), (1, .int p0)] [] (HS I L X)
    refine w_aload_n (Ev.cm _) rfl rfl ?_
    refine w_bipush (Ev.cm _) rfl ?_
    refine w_bipush (Ev.cm _) rfl ?_
    refine w_bipush (Ev.cm _) rfl ?_
    refine w_bipush (Ev.cm _) rfl ?_
    obtain ⟨⟨r1, I1, L1⟩, e1, q⟩ := obs q
    dsimp only at q
    refine w_cstat (as := [.int 116, .int 104, .int 101, .int 110]) (st := [.ref 331]) (Ev.cm _) rfl rfl rfl (Nat.le_of_ble_eq_true rfl) (Nat.le_of_ble_eq_true rfl) (eo_M_w4 (g := ?_) e1)
    show Wp _ _ _ _ _ _ _ 63 [(0, .ref 331), (1, .int p0)] [.long r1, .ref 331] (HS I1 L1 X)
    obtain ⟨⟨r2, I2, L2⟩, e2, q⟩ := obs q
    dsimp only at q
    refine w_cvirt (o := 331) (as := [.long r1]) (st := []) (Ev.cm _) rfl rfl rfl (Nat.le_of_ble_eq_true rfl) (Nat.le_of_ble_eq_true rfl) rfl (Nat.le_of_ble_eq_true rfl) (eo_M_isWord (g := ?_) e2)
    show Wp _ _ _ _ _ _ _ 66 [(0, .ref 331), (1, .int p0)] [.int r2] (HS I2 L2 X)
    refine w_if_eq (Ev.cm _) rfl (fun c3 => ?_) (fun c3 => ?_)
    · have c3 : r2 = 0 := c3
      rw [if_pos c3] at q
      refine w_iconst (Ev.cm _) rfl ?_
      refine w_ireturn (Ev.cm _) rfl trivial rf0 ?_
      cases q
      exact g
    · have c3 : ¬ (r2 = 0) := c3
      rw [if_neg c3] at q
      refine w_aload_n (Ev.cm _) rfl rfl ?_
      obtain ⟨⟨r3, I3, L3⟩, e3, q⟩ := obs q
      dsimp only at q
      refine w_cvirt (o := 331) (as := []) (st := []) (Ev.cm _) rfl rfl rfl (Nat.le_of_ble_eq_true rfl) (Nat.le_of_ble_eq_true rfl) rfl (Nat.le_of_ble_eq_true rfl) (eo_M_isCompared (g := ?_) e3)
      show Wp _ _ _ _ _ _ _ 73 [(0, .ref 331), (1, .int p0)] [.int r3] (HS I3 L3 X)
      refine w_if_eq (Ev.cm _) rfl (fun c4 => ?_) (fun c4 => ?_)
      · have c4 : r3 = 0 := c4
        rw [if_pos c4] at q
        refine w_iconst (Ev.cm _) rfl ?_
        refine w_ireturn (Ev.cm _) rfl trivial rf0 ?_
        cases q
        exact g
      · have c4 : ¬ (r3 = 0) := c4
        rw [if_neg c4] at q
        refine w_bipush (Ev.cm _) rfl ?_
        refine w_goto (Ev.cm _) rfl ?_
        refine w_ireturn (Ev.cm _) rfl trivial rf0 ?_
        cases q
        exact g
  · have c1_0 : ¬ p0 = 40 := sw_w c1_0 (by decide)
    have c1_1 : ¬ p0 = 42 := sw_w c1_1 (by decide)
    have c1 : p0 = 43 := sw_v c1 (by decide)
    rw [if_neg c1_0, if_neg c1_1, if_pos c1] at q
    show Wp _ _ _ _ _ _ _ 83 [(0, .ref 331), (1, .int p0)] [] (HS I L X)
    refine w_aload_n (Ev.cm _) rfl rfl ?_
    refine w_bipush (Ev.cm _) rfl ?_
    refine w_bipush (Ev.cm _) rfl ?_
    refine w_bipush (Ev.cm _) rfl ?_
    refine w_bipush (Ev.cm _) rfl ?_
    obtain ⟨⟨r4, I4, L4⟩, e4, q⟩ := obs q
    dsimp only at q
    refine w_cstat (as := [.int 101, .int 108, .int 115, .int 101]) (st := [.ref 331]) (Ev.cm _) rfl rfl rfl (Nat.le_of_ble_eq_true rfl) (Nat.le_of_ble_eq_true rfl) (eo_M_w4 (g := ?_) e4)
    show Wp _ _ _ _ _ _ _ 95 [(0, .ref 331), (1, .int p0)] [.long r4, .ref 331] (HS I4 L4 X)
    obtain ⟨⟨r5, I5, L5⟩, e5, q⟩ := obs q
    dsimp only at q
    refine w_cvirt (o := 331) (as := [.long r4]) (st := []) (Ev.cm _) rfl rfl rfl (Nat.le_of_ble_eq_true rfl) (Nat.le_of_ble_eq_true rfl) rfl (Nat.le_of_ble_eq_true rfl) (eo_M_isWord (g := ?_) e5)
    show Wp _ _ _ _ _ _ _ 98 [(0, .ref 331), (1, .int p0)] [.int r5] (HS I5 L5 X)
    refine w_if_eq (Ev.cm _) rfl (fun c5 => ?_) (fun c5 => ?_)
    · have c5 : r5 = 0 := c5
      rw [if_pos c5] at q
      refine w_iconst (Ev.cm _) rfl ?_
      refine w_ireturn (Ev.cm _) rfl trivial rf0 ?_
      cases q
      exact g
    · have c5 : ¬ (r5 = 0) := c5
      rw [if_neg c5] at q
      refine w_bipush (Ev.cm _) rfl ?_
      refine w_goto (Ev.cm _) rfl ?_
      refine w_ireturn (Ev.cm _) rfl trivial rf0 ?_
      cases q
      exact g
  · have c1_0 : ¬ p0 = 40 := sw_w c1_0 (by decide)
    have c1_1 : ¬ p0 = 42 := sw_w c1_1 (by decide)
    have c1_2 : ¬ p0 = 43 := sw_w c1_2 (by decide)
    have c1 : p0 = 44 := sw_v c1 (by decide)
    rw [if_neg c1_0, if_neg c1_1, if_neg c1_2, if_pos c1] at q
    show Wp _ _ _ _ _ _ _ 108 [(0, .ref 331), (1, .int p0)] [] (HS I L X)
    refine w_aload_n (Ev.cm _) rfl rfl ?_
    refine w_bipush (Ev.cm _) rfl ?_
    refine w_bipush (Ev.cm _) rfl ?_
    refine w_bipush (Ev.cm _) rfl ?_
    obtain ⟨⟨r6, I6, L6⟩, e6, q⟩ := obs q
    dsimp only at q
    refine w_cstat (as := [.int 101, .int 110, .int 100]) (st := [.ref 331]) (Ev.cm _) rfl rfl rfl (Nat.le_of_ble_eq_true rfl) (Nat.le_of_ble_eq_true rfl) (eo_M_w3 (g := ?_) e6)
    show Wp _ _ _ _ _ _ _ 118 [(0, .ref 331), (1, .int p0)] [.long r6, .ref 331] (HS I6 L6 X)
    obtain ⟨⟨r7, I7, L7⟩, e7, q⟩ := obs q
    dsimp only at q
    refine w_cvirt (o := 331) (as := [.long r6]) (st := []) (Ev.cm _) rfl rfl rfl (Nat.le_of_ble_eq_true rfl) (Nat.le_of_ble_eq_true rfl) rfl (Nat.le_of_ble_eq_true rfl) (eo_M_isWord (g := ?_) e7)
    show Wp _ _ _ _ _ _ _ 121 [(0, .ref 331), (1, .int p0)] [.int r7] (HS I7 L7 X)
    refine w_if_eq (Ev.cm _) rfl (fun c6 => ?_) (fun c6 => ?_)
    · have c6 : r7 = 0 := c6
      rw [if_pos c6] at q
      refine w_iconst (Ev.cm _) rfl ?_
      refine w_ireturn (Ev.cm _) rfl trivial rf0 ?_
      cases q
      exact g
    · have c6 : ¬ (r7 = 0) := c6
      rw [if_neg c6] at q
      refine w_iconst (Ev.cm _) rfl ?_
      refine w_goto (Ev.cm _) rfl ?_
      refine w_ireturn (Ev.cm _) rfl trivial rf0 ?_
      cases q
      exact g
  · have c1_0 : ¬ p0 = 40 := sw_w c1_0 (by decide)
    have c1_1 : ¬ p0 = 42 := sw_w c1_1 (by decide)
    have c1_2 : ¬ p0 = 43 := sw_w c1_2 (by decide)
    have c1_3 : ¬ p0 = 44 := sw_w c1_3 (by decide)
    rw [if_neg c1_0, if_neg c1_1, if_neg c1_2, if_neg c1_3] at q
    show Wp _ _ _ _ _ _ _ 130 [(0, .ref 331), (1, .int p0)] [] (HS I L X)
    refine w_iconst (Ev.cm _) rfl ?_
    refine w_ireturn (Ev.cm _) rfl trivial rf0 ?_
    cases q
    exact g
def FO_M_behindOne (fu : Nat) (I : Nat → Nat → Int32) (L : Nat → Nat → Int64) : Option (Int32 × (Nat → Nat → Int32) × (Nat → Nat → Int64)) := (FO_M_betweenOf fu  I L).bind (fun u1 => let r1 := u1.1; let I1 := u1.2.1; let L1 := u1.2.2; if r1 < 0 then ((FO_M_openNow fu  I1 L1).bind (fun u2 => let r2 := u2.1; let I2 := u2.2.1; let L2 := u2.2.2; (FO_M_partOf fu r2 I2 L2).bind (fun u3 => let r3 := u3.1; let I3 := u3.2.1; let L3 := u3.2.2; if 0 ≤ r3 then ((FO_M_settle fu 1 I3 L3).bind (fun u4 => let r4 := u4.1; let I4 := u4.2.1; let L4 := u4.2.2; (FO_M_nextToken fu  I4 L4).bind (fun u5 => let r5 := u5.1; let I5 := u5.2.1; let L5 := u5.2.2; if r3 = 0 then (if r2 = 44 then ((FO_M_emit fu 3 0 (sI (sI I5 331 17 ((I5 331 17) - 1)) 331 16 ((I5 331 16) - 1)) L5).bind (fun u9 => let r9 := u9.1; let I9 := u9.2.1; let L9 := u9.2.2; (FO_M_endOne fu  I9 L9).bind (fun u10 => let r10 := u10.1; let I10 := u10.2.1; let L10 := u10.2.2; some (r10, I10, L10)))) else ((FO_M_endOne fu  (sI (sI I5 331 17 ((I5 331 17) - 1)) 331 16 ((I5 331 16) - 1)) L5).bind (fun u8 => let r8 := u8.1; let I8 := u8.2.1; let L8 := u8.2.2; some (r8, I8, L8)))) else ((FO_M_openAt fu  I5 L5).bind (fun u6 => let r6 := u6.1; let I6 := u6.2.1; let L6 := u6.2.2; if 0 ≤ r6 ∧ r6 < 160 then (some (0, sI (sI I6 336 r6.toNatClampNeg r3) 331 18 0, L6)) else none))))) else (some ((-1), I3, L3))))) else ((FO_M_rank fu r1 I1 L1).bind (fun u11 => let r11 := u11.1; let I11 := u11.2.1; let L11 := u11.2.2; if r11 = 4 then ((FO_M_settle fu 5 I11 L11).bind (fun u16 => let r16 := u16.1; let I16 := u16.2.1; let L16 := u16.2.2; if 0 ≤ I16 331 16 ∧ I16 331 16 < 160 then ((FO_M_nextToken fu  (sI (sI (sI I16 336 ((I16 331 16).toNatClampNeg) r1) 331 16 ((I16 331 16) + 1)) 331 18 0) L16).bind (fun u18 => let r18 := u18.1; let I18 := u18.2.1; let L18 := u18.2.2; some (0, I18, L18))) else none)) else ((FO_M_rank fu r1 I11 L11).bind (fun u12 => let r12 := u12.1; let I12 := u12.2.1; let L12 := u12.2.2; (FO_M_settle fu r12 I12 L12).bind (fun u13 => let r13 := u13.1; let I13 := u13.2.1; let L13 := u13.2.2; if 0 ≤ I13 331 16 ∧ I13 331 16 < 160 then ((FO_M_nextToken fu  (sI (sI (sI I13 336 ((I13 331 16).toNatClampNeg) r1) 331 16 ((I13 331 16) + 1)) 331 18 0) L13).bind (fun u15 => let r15 := u15.1; let I15 := u15.2.1; let L15 := u15.2.2; some (0, I15, L15))) else none))))))
set_option maxHeartbeats 20000000 in
set_option maxRecDepth 20000 in
theorem eo_M_behindOne {d fu : Nat} {I : Nat → Nat → Int32} {L : Nat → Nat → Int64} {X : Nat × (Nat → Int32)} {Q : PQ} {res : Int32 × (Nat → Nat → Int32) × (Nat → Nat → Int64)}  (g : Q (some (.int res.1)) (HS res.2.1 res.2.2 X)) (q : FO_M_behindOne fu  I L = some res) : Ev (d + 5) m_M_behindOne [.ref 331] (HS I L X) Q := by
  unfold FO_M_behindOne at q
  refine ev_start (d := d + 4) rfl rfl rfl (Nat.le_of_ble_eq_true rfl) ?_
  show Wp (Ev (d + 4)) cd_M_behindOne (0, 0) (some .int) _ _ Q 0 [(0, .ref 331)] [] (HS I L X)
  refine w_aload_n (Ev.cm _) rfl rfl ?_
  obtain ⟨⟨r1, I1, L1⟩, e1, q⟩ := obs q
  dsimp only at q
  refine w_cvirt (o := 331) (as := []) (st := []) (Ev.cm _) rfl rfl rfl (Nat.le_of_ble_eq_true rfl) (Nat.le_of_ble_eq_true rfl) rfl (Nat.le_of_ble_eq_true rfl) (eo_M_betweenOf (g := ?_) e1)
  show Wp _ _ _ _ _ _ _ 4 [(0, .ref 331)] [.int r1] (HS I1 L1 X)
  refine w_istore_n (ls2 := [(0, .ref 331), (1, .int r1)]) (Ev.cm _) rfl rfl ?_
  refine w_iload_n (Ev.cm _) rfl rfl ?_
  refine w_if_lt (Ev.cm _) rfl (fun c1 => ?_) (fun c1 => ?_)
  · have c1 : r1 < 0 := c1
    rw [if_pos c1] at q
    refine w_aload_n (Ev.cm _) rfl rfl ?_
    obtain ⟨⟨r2, I2, L2⟩, e2, q⟩ := obs q
    dsimp only at q
    refine w_cvirt (o := 331) (as := []) (st := []) (Ev.cm _) rfl rfl rfl (Nat.le_of_ble_eq_true rfl) (Nat.le_of_ble_eq_true rfl) rfl (Nat.le_of_ble_eq_true rfl) (eo_M_openNow (g := ?_) e2)
    show Wp _ _ _ _ _ _ _ 64 [(0, .ref 331), (1, .int r1)] [.int r2] (HS I2 L2 X)
    refine w_istore_n (ls2 := [(0, .ref 331), (1, .int r1), (2, .int r2)]) (Ev.cm _) rfl rfl ?_
    refine w_aload_n (Ev.cm _) rfl rfl ?_
    refine w_iload_n (Ev.cm _) rfl rfl ?_
    obtain ⟨⟨r3, I3, L3⟩, e3, q⟩ := obs q
    dsimp only at q
    refine w_cvirt (o := 331) (as := [.int r2]) (st := []) (Ev.cm _) rfl rfl rfl (Nat.le_of_ble_eq_true rfl) (Nat.le_of_ble_eq_true rfl) rfl (Nat.le_of_ble_eq_true rfl) (eo_M_partOf (g := ?_) e3)
    show Wp _ _ _ _ _ _ _ 70 [(0, .ref 331), (1, .int r1), (2, .int r2)] [.int r3] (HS I3 L3 X)
    refine w_istore_n (ls2 := [(0, .ref 331), (1, .int r1), (2, .int r2), (3, .int r3)]) (Ev.cm _) rfl rfl ?_
    refine w_iload_n (Ev.cm _) rfl rfl ?_
    refine w_if_ge (Ev.cm _) rfl (fun c2 => ?_) (fun c2 => ?_)
    · have c2 : 0 ≤ r3 := c2
      rw [if_pos c2] at q
      refine w_aload_n (Ev.cm _) rfl rfl ?_
      refine w_iconst (Ev.cm _) rfl ?_
      obtain ⟨⟨r4, I4, L4⟩, e4, q⟩ := obs q
      dsimp only at q
      refine w_cvirt (o := 331) (as := [.int 1]) (st := []) (Ev.cm _) rfl rfl rfl (Nat.le_of_ble_eq_true rfl) (Nat.le_of_ble_eq_true rfl) rfl (Nat.le_of_ble_eq_true rfl) (eo_M_settle (g := ?_) e4)
      show Wp _ _ _ _ _ _ _ 82 [(0, .ref 331), (1, .int r1), (2, .int r2), (3, .int r3)] [] (HS I4 L4 X)
      refine w_aload_n (Ev.cm _) rfl rfl ?_
      obtain ⟨⟨r5, I5, L5⟩, e5, q⟩ := obs q
      dsimp only at q
      refine w_cvirt (o := 331) (as := []) (st := []) (Ev.cm _) rfl rfl rfl (Nat.le_of_ble_eq_true rfl) (Nat.le_of_ble_eq_true rfl) rfl (Nat.le_of_ble_eq_true rfl) (eo_M_nextToken (g := ?_) e5)
      show Wp _ _ _ _ _ _ _ 86 [(0, .ref 331), (1, .int r1), (2, .int r2), (3, .int r3)] [] (HS I5 L5 X)
      refine w_iload_n (Ev.cm _) rfl rfl ?_
      refine w_if_ne (Ev.cm _) rfl (fun c3 => ?_) (fun c3 => ?_)
      · have c3 : ¬ (r3 = 0) := c3
        rw [if_neg c3] at q
        refine w_aload_n (Ev.cm _) rfl rfl ?_
        refine w_getR (q := 336) (Ev.cm _) rfl (Nat.le_of_ble_eq_true rfl) rfl rfl ?_
        refine w_aload_n (Ev.cm _) rfl rfl ?_
        obtain ⟨⟨r6, I6, L6⟩, e6, q⟩ := obs q
        dsimp only at q
        refine w_cvirt (o := 331) (as := []) (st := [.ref 336]) (Ev.cm _) rfl rfl rfl (Nat.le_of_ble_eq_true rfl) (Nat.le_of_ble_eq_true rfl) rfl (Nat.le_of_ble_eq_true rfl) (eo_M_openAt (g := ?_) e6)
        show Wp _ _ _ _ _ _ _ 135 [(0, .ref 331), (1, .int r1), (2, .int r2), (3, .int r3)] [.int r6, .ref 336] (HS I6 L6 X)
        refine w_iload_n (Ev.cm _) rfl rfl ?_
        obtain ⟨b7, q⟩ := ois q
        refine w_iast (Ev.cm _) rfl (Nat.le_of_ble_eq_true rfl) rfl (show vp_in r6 160 from vpI 160 (by decide) b7.1 b7.2) ?_
        refine w_aload_n (Ev.cm _) rfl rfl ?_
        refine w_iconst (Ev.cm _) rfl ?_
        refine w_putZ (Ev.cm _) rfl (Nat.le_of_ble_eq_true rfl) rfl (by first | decide | exact bI_b) ?_
        refine w_iconst (Ev.cm _) rfl ?_
        refine w_ireturn (Ev.cm _) rfl trivial rf0 ?_
        cases q
        exact g
      · have c3 : r3 = 0 := c3
        rw [if_pos c3] at q
        refine w_aload_n (Ev.cm _) rfl rfl ?_
        refine w_dup (Ev.cm _) rfl rfl ?_
        refine w_getI (Ev.cm _) rfl (Nat.le_of_ble_eq_true rfl) rfl ?_
        refine w_iconst (Ev.cm _) rfl ?_
        refine w_isub (Ev.cm _) rfl ?_
        refine w_putI (Ev.cm _) rfl (Nat.le_of_ble_eq_true rfl) rfl ?_
        refine w_aload_n (Ev.cm _) rfl rfl ?_
        refine w_dup (Ev.cm _) rfl rfl ?_
        refine w_getI (Ev.cm _) rfl (Nat.le_of_ble_eq_true rfl) rfl ?_
        refine w_iconst (Ev.cm _) rfl ?_
        refine w_isub (Ev.cm _) rfl ?_
        refine w_putI (Ev.cm _) rfl (Nat.le_of_ble_eq_true rfl) rfl ?_
        refine w_iload_n (Ev.cm _) rfl rfl ?_
        refine w_bipush (Ev.cm _) rfl ?_
        refine w_icmp_ne (Ev.cm _) rfl (fun c4 => ?_) (fun c4 => ?_)
        · have c4 : ¬ (r2 = 44) := c4
          rw [if_neg c4] at q
          refine w_aload_n (Ev.cm _) rfl rfl ?_
          obtain ⟨⟨r8, I8, L8⟩, e8, q⟩ := obs q
          dsimp only at q
          refine w_cvirt (o := 331) (as := []) (st := []) (Ev.cm _) rfl rfl rfl (Nat.le_of_ble_eq_true rfl) (Nat.le_of_ble_eq_true rfl) rfl (Nat.le_of_ble_eq_true rfl) (eo_M_endOne (g := ?_) e8)
          show Wp _ _ _ _ _ _ _ 126 [(0, .ref 331), (1, .int r1), (2, .int r2), (3, .int r3)] [.int r8] (HS I8 L8 X)
          refine w_ireturn (Ev.cm _) rfl trivial rf0 ?_
          cases q
          exact g
        · have c4 : r2 = 44 := c4
          rw [if_pos c4] at q
          refine w_aload_n (Ev.cm _) rfl rfl ?_
          refine w_iconst (Ev.cm _) rfl ?_
          refine w_iconst (Ev.cm _) rfl ?_
          obtain ⟨⟨r9, I9, L9⟩, e9, q⟩ := obs q
          dsimp only at q
          refine w_cvirt (o := 331) (as := [.int 3, .int 0]) (st := []) (Ev.cm _) rfl rfl rfl (Nat.le_of_ble_eq_true rfl) (Nat.le_of_ble_eq_true rfl) rfl (Nat.le_of_ble_eq_true rfl) (eo_M_emit (g := ?_) e9)
          show Wp _ _ _ _ _ _ _ 122 [(0, .ref 331), (1, .int r1), (2, .int r2), (3, .int r3)] [] (HS I9 L9 X)
          refine w_aload_n (Ev.cm _) rfl rfl ?_
          obtain ⟨⟨r10, I10, L10⟩, e10, q⟩ := obs q
          dsimp only at q
          refine w_cvirt (o := 331) (as := []) (st := []) (Ev.cm _) rfl rfl rfl (Nat.le_of_ble_eq_true rfl) (Nat.le_of_ble_eq_true rfl) rfl (Nat.le_of_ble_eq_true rfl) (eo_M_endOne (g := ?_) e10)
          show Wp _ _ _ _ _ _ _ 126 [(0, .ref 331), (1, .int r1), (2, .int r2), (3, .int r3)] [.int r10] (HS I10 L10 X)
          refine w_ireturn (Ev.cm _) rfl trivial rf0 ?_
          cases q
          exact g
    · have c2 : ¬ (0 ≤ r3) := c2
      rw [if_neg c2] at q
      refine w_iconst (Ev.cm _) rfl ?_
      refine w_ireturn (Ev.cm _) rfl trivial rf0 ?_
      cases q
      exact g
  · have c1 : ¬ (r1 < 0) := c1
    rw [if_neg c1] at q
    refine w_aload_n (Ev.cm _) rfl rfl ?_
    refine w_iload_n (Ev.cm _) rfl rfl ?_
    obtain ⟨⟨r11, I11, L11⟩, e11, q⟩ := obs q
    dsimp only at q
    refine w_cstat (as := [.int r1]) (st := [.ref 331]) (Ev.cm _) rfl rfl rfl (Nat.le_of_ble_eq_true rfl) (Nat.le_of_ble_eq_true rfl) (eo_M_rank (g := ?_) e11)
    show Wp _ _ _ _ _ _ _ 14 [(0, .ref 331), (1, .int r1)] [.int r11, .ref 331] (HS I11 L11 X)
    refine w_iconst (Ev.cm _) rfl ?_
    refine w_icmp_ne (Ev.cm _) rfl (fun c5 => ?_) (fun c5 => ?_)
    · have c5 : ¬ (r11 = 4) := c5
      rw [if_neg c5] at q
      refine w_iload_n (Ev.cm _) rfl rfl ?_
      obtain ⟨⟨r12, I12, L12⟩, e12, q⟩ := obs q
      dsimp only at q
      refine w_cstat (as := [.int r1]) (st := [.ref 331]) (Ev.cm _) rfl rfl rfl (Nat.le_of_ble_eq_true rfl) (Nat.le_of_ble_eq_true rfl) (eo_M_rank (g := ?_) e12)
      show Wp _ _ _ _ _ _ _ 26 [(0, .ref 331), (1, .int r1)] [.int r12, .ref 331] (HS I12 L12 X)
      obtain ⟨⟨r13, I13, L13⟩, e13, q⟩ := obs q
      dsimp only at q
      refine w_cvirt (o := 331) (as := [.int r12]) (st := []) (Ev.cm _) rfl rfl rfl (Nat.le_of_ble_eq_true rfl) (Nat.le_of_ble_eq_true rfl) rfl (Nat.le_of_ble_eq_true rfl) (eo_M_settle (g := ?_) e13)
      show Wp _ _ _ _ _ _ _ 29 [(0, .ref 331), (1, .int r1)] [] (HS I13 L13 X)
      refine w_aload_n (Ev.cm _) rfl rfl ?_
      refine w_getR (q := 336) (Ev.cm _) rfl (Nat.le_of_ble_eq_true rfl) rfl rfl ?_
      refine w_aload_n (Ev.cm _) rfl rfl ?_
      refine w_getI (Ev.cm _) rfl (Nat.le_of_ble_eq_true rfl) rfl ?_
      refine w_iload_n (Ev.cm _) rfl rfl ?_
      obtain ⟨b14, q⟩ := ois q
      refine w_iast (Ev.cm _) rfl (Nat.le_of_ble_eq_true rfl) rfl (show vp_in (I13 331 16) 160 from vpI 160 (by decide) b14.1 b14.2) ?_
      refine w_aload_n (Ev.cm _) rfl rfl ?_
      refine w_dup (Ev.cm _) rfl rfl ?_
      refine w_getI (Ev.cm _) rfl (Nat.le_of_ble_eq_true rfl) rfl ?_
      refine w_iconst (Ev.cm _) rfl ?_
      refine w_iadd (Ev.cm _) rfl ?_
      refine w_putI (Ev.cm _) rfl (Nat.le_of_ble_eq_true rfl) rfl ?_
      refine w_aload_n (Ev.cm _) rfl rfl ?_
      refine w_iconst (Ev.cm _) rfl ?_
      refine w_putZ (Ev.cm _) rfl (Nat.le_of_ble_eq_true rfl) rfl (by first | decide | exact bI_b) ?_
      refine w_aload_n (Ev.cm _) rfl rfl ?_
      obtain ⟨⟨r15, I15, L15⟩, e15, q⟩ := obs q
      dsimp only at q
      refine w_cvirt (o := 331) (as := []) (st := []) (Ev.cm _) rfl rfl rfl (Nat.le_of_ble_eq_true rfl) (Nat.le_of_ble_eq_true rfl) rfl (Nat.le_of_ble_eq_true rfl) (eo_M_nextToken (g := ?_) e15)
      show Wp _ _ _ _ _ _ _ 58 [(0, .ref 331), (1, .int r1)] [] (HS I15 L15 X)
      refine w_iconst (Ev.cm _) rfl ?_
      refine w_ireturn (Ev.cm _) rfl trivial rf0 ?_
      cases q
      exact g
    · have c5 : r11 = 4 := c5
      rw [if_pos c5] at q
      refine w_iconst (Ev.cm _) rfl ?_
      refine w_goto (Ev.cm _) rfl ?_
      obtain ⟨⟨r16, I16, L16⟩, e16, q⟩ := obs q
      dsimp only at q
      refine w_cvirt (o := 331) (as := [.int 5]) (st := []) (Ev.cm _) rfl rfl rfl (Nat.le_of_ble_eq_true rfl) (Nat.le_of_ble_eq_true rfl) rfl (Nat.le_of_ble_eq_true rfl) (eo_M_settle (g := ?_) e16)
      show Wp _ _ _ _ _ _ _ 29 [(0, .ref 331), (1, .int r1)] [] (HS I16 L16 X)
      refine w_aload_n (Ev.cm _) rfl rfl ?_
      refine w_getR (q := 336) (Ev.cm _) rfl (Nat.le_of_ble_eq_true rfl) rfl rfl ?_
      refine w_aload_n (Ev.cm _) rfl rfl ?_
      refine w_getI (Ev.cm _) rfl (Nat.le_of_ble_eq_true rfl) rfl ?_
      refine w_iload_n (Ev.cm _) rfl rfl ?_
      obtain ⟨b17, q⟩ := ois q
      refine w_iast (Ev.cm _) rfl (Nat.le_of_ble_eq_true rfl) rfl (show vp_in (I16 331 16) 160 from vpI 160 (by decide) b17.1 b17.2) ?_
      refine w_aload_n (Ev.cm _) rfl rfl ?_
      refine w_dup (Ev.cm _) rfl rfl ?_
      refine w_getI (Ev.cm _) rfl (Nat.le_of_ble_eq_true rfl) rfl ?_
      refine w_iconst (Ev.cm _) rfl ?_
      refine w_iadd (Ev.cm _) rfl ?_
      refine w_putI (Ev.cm _) rfl (Nat.le_of_ble_eq_true rfl) rfl ?_
      refine w_aload_n (Ev.cm _) rfl rfl ?_
      refine w_iconst (Ev.cm _) rfl ?_
      refine w_putZ (Ev.cm _) rfl (Nat.le_of_ble_eq_true rfl) rfl (by first | decide | exact bI_b) ?_
      refine w_aload_n (Ev.cm _) rfl rfl ?_
      obtain ⟨⟨r18, I18, L18⟩, e18, q⟩ := obs q
      dsimp only at q
      refine w_cvirt (o := 331) (as := []) (st := []) (Ev.cm _) rfl rfl rfl (Nat.le_of_ble_eq_true rfl) (Nat.le_of_ble_eq_true rfl) rfl (Nat.le_of_ble_eq_true rfl) (eo_M_nextToken (g := ?_) e18)
      show Wp _ _ _ _ _ _ _ 58 [(0, .ref 331), (1, .int r1)] [] (HS I18 L18 X)
      refine w_iconst (Ev.cm _) rfl ?_
      refine w_ireturn (Ev.cm _) rfl trivial rf0 ?_
      cases q
      exact g
def FO_M_figure (fu : Nat) (p0 : Int32) (p1 : Int32) (p2 : Int32) (I : Nat → Nat → Int32) (L : Nat → Nat → Int64) : Option (Int32 × (Nat → Nat → Int32) × (Nat → Nat → Int64)) := if I 331 9 = 1 then (if p1 ≤ (I 331 10) ∧ (I 331 10) ≤ p2 then (if 0 ≤ p0 ∧ p0 < 2724 then ((FO_M_nextToken fu  (sI I 334 p0.toNatClampNeg (I 331 10)) L).bind (fun u2 => let r2 := u2.1; let I2 := u2.2.1; let L2 := u2.2.2; some (0, I2, L2))) else none) else (some (2, I, L))) else (some (1, I, L))
set_option maxHeartbeats 20000000 in
set_option maxRecDepth 20000 in
theorem eo_M_figure {d fu : Nat} {p0 : Int32} {p1 : Int32} {p2 : Int32} {I : Nat → Nat → Int32} {L : Nat → Nat → Int64} {X : Nat × (Nat → Int32)} {Q : PQ} {res : Int32 × (Nat → Nat → Int32) × (Nat → Nat → Int64)}  (g : Q (some (.int res.1)) (HS res.2.1 res.2.2 X)) (q : FO_M_figure fu p0 p1 p2 I L = some res) : Ev (d + 3) m_M_figure [.ref 331, .int p0, .int p1, .int p2] (HS I L X) Q := by
  unfold FO_M_figure at q
  refine ev_start (d := d + 2) rfl rfl rfl (Nat.le_of_ble_eq_true rfl) ?_
  show Wp (Ev (d + 2)) cd_M_figure (0, 0) (some .int) _ _ Q 0 [(0, .ref 331), (1, .int p0), (2, .int p1), (3, .int p2)] [] (HS I L X)
  refine w_aload_n (Ev.cm _) rfl rfl ?_
  refine w_getI (Ev.cm _) rfl (Nat.le_of_ble_eq_true rfl) rfl ?_
  refine w_iconst (Ev.cm _) rfl ?_
  refine w_icmp_eq (Ev.cm _) rfl (fun c1 => ?_) (fun c1 => ?_)
  · have c1 : I 331 9 = 1 := c1
    rw [if_pos c1] at q
    refine w_aload_n (Ev.cm _) rfl rfl ?_
    refine w_getI (Ev.cm _) rfl (Nat.le_of_ble_eq_true rfl) rfl ?_
    refine w_iload_n (Ev.cm _) rfl rfl ?_
    refine w_iload_n (Ev.cm _) rfl rfl ?_
    refine w_cstat (as := [.int (I 331 10), .int p1, .int p2]) (st := []) (Ev.cm _) rfl rfl rfl (Nat.le_of_ble_eq_true rfl) (Nat.le_of_ble_eq_true rfl) (m_isIn ?_)
    show Wp _ _ _ _ _ _ _ 19 [(0, .ref 331), (1, .int p0), (2, .int p1), (3, .int p2)] [.int (bI (p1 ≤ (I 331 10) ∧ (I 331 10) ≤ p2))] (HS I L X)
    refine w_if_ne (Ev.cm _) rfl (fun c2 => ?_) (fun c2 => ?_)
    · have c2 : p1 ≤ (I 331 10) ∧ (I 331 10) ≤ p2 := bI_1.mp c2
      rw [if_pos c2] at q
      refine w_aload_n (Ev.cm _) rfl rfl ?_
      refine w_getR (q := 334) (Ev.cm _) rfl (Nat.le_of_ble_eq_true rfl) rfl rfl ?_
      refine w_iload_n (Ev.cm _) rfl rfl ?_
      refine w_aload_n (Ev.cm _) rfl rfl ?_
      refine w_getI (Ev.cm _) rfl (Nat.le_of_ble_eq_true rfl) rfl ?_
      obtain ⟨b1, q⟩ := ois q
      refine w_iast (Ev.cm _) rfl (Nat.le_of_ble_eq_true rfl) rfl (show vp_in p0 2724 from vpI 2724 (by decide) b1.1 b1.2) ?_
      refine w_aload_n (Ev.cm _) rfl rfl ?_
      obtain ⟨⟨r2, I2, L2⟩, e2, q⟩ := obs q
      dsimp only at q
      refine w_cvirt (o := 331) (as := []) (st := []) (Ev.cm _) rfl rfl rfl (Nat.le_of_ble_eq_true rfl) (Nat.le_of_ble_eq_true rfl) rfl (Nat.le_of_ble_eq_true rfl) (eo_M_nextToken (g := ?_) e2)
      show Wp _ _ _ _ _ _ _ 38 [(0, .ref 331), (1, .int p0), (2, .int p1), (3, .int p2)] [] (HS I2 L2 X)
      refine w_iconst (Ev.cm _) rfl ?_
      refine w_ireturn (Ev.cm _) rfl trivial rf0 ?_
      cases q
      exact g
    · have c2 : ¬ (p1 ≤ (I 331 10) ∧ (I 331 10) ≤ p2) := bI_0.mp c2
      rw [if_neg c2] at q
      refine w_iconst (Ev.cm _) rfl ?_
      refine w_ireturn (Ev.cm _) rfl trivial rf0 ?_
      cases q
      exact g
  · have c1 : ¬ (I 331 9 = 1) := c1
    rw [if_neg c1] at q
    refine w_iconst (Ev.cm _) rfl ?_
    refine w_ireturn (Ev.cm _) rfl trivial rf0 ?_
    cases q
    exact g
def FO_M_pair (fu : Nat) (p0 : Int32) (p1 : Int32) (p2 : Int32) (p3 : Int64) (p4 : Int32) (p5 : Int32) (I : Nat → Nat → Int32) (L : Nat → Nat → Int64) : Option (Int32 × (Nat → Nat → Int32) × (Nat → Nat → Int64)) := (FO_M_figure fu (p0 + 1) p1 p2 I L).bind (fun u1 => let r1 := u1.1; let I1 := u1.2.1; let L1 := u1.2.2; if r1 = 0 then ((FO_M_isWord fu p3 I1 L1).bind (fun u2 => let r2 := u2.1; let I2 := u2.2.1; let L2 := u2.2.2; if r2 = 0 then (some (1, I2, L2)) else ((FO_M_nextToken fu  I2 L2).bind (fun u3 => let r3 := u3.1; let I3 := u3.2.1; let L3 := u3.2.2; (FO_M_figure fu (p0 + 2) p4 p5 I3 L3).bind (fun u4 => let r4 := u4.1; let I4 := u4.2.1; let L4 := u4.2.2; some (r4, I4, L4)))))) else (some (r1, I1, L1)))
set_option maxHeartbeats 20000000 in
set_option maxRecDepth 20000 in
theorem eo_M_pair {d fu : Nat} {p0 : Int32} {p1 : Int32} {p2 : Int32} {p3 : Int64} {p4 : Int32} {p5 : Int32} {I : Nat → Nat → Int32} {L : Nat → Nat → Int64} {X : Nat × (Nat → Int32)} {Q : PQ} {res : Int32 × (Nat → Nat → Int32) × (Nat → Nat → Int64)}  (g : Q (some (.int res.1)) (HS res.2.1 res.2.2 X)) (q : FO_M_pair fu p0 p1 p2 p3 p4 p5 I L = some res) : Ev (d + 4) m_M_pair [.ref 331, .int p0, .int p1, .int p2, .long p3, .int p4, .int p5] (HS I L X) Q := by
  unfold FO_M_pair at q
  refine ev_start (d := d + 3) rfl rfl rfl (Nat.le_of_ble_eq_true rfl) ?_
  show Wp (Ev (d + 3)) cd_M_pair (0, 0) (some .int) _ _ Q 0 [(0, .ref 331), (1, .int p0), (2, .int p1), (3, .int p2), (4, .long p3), (6, .int p4), (7, .int p5)] [] (HS I L X)
  refine w_aload_n (Ev.cm _) rfl rfl ?_
  refine w_iload_n (Ev.cm _) rfl rfl ?_
  refine w_iconst (Ev.cm _) rfl ?_
  refine w_iadd (Ev.cm _) rfl ?_
  refine w_iload_n (Ev.cm _) rfl rfl ?_
  refine w_iload_n (Ev.cm _) rfl rfl ?_
  obtain ⟨⟨r1, I1, L1⟩, e1, q⟩ := obs q
  dsimp only at q
  refine w_cvirt (o := 331) (as := [.int (p0 + 1), .int p1, .int p2]) (st := []) (Ev.cm _) rfl rfl rfl (Nat.le_of_ble_eq_true rfl) (Nat.le_of_ble_eq_true rfl) rfl (Nat.le_of_ble_eq_true rfl) (eo_M_figure (g := ?_) e1)
  show Wp _ _ _ _ _ _ _ 9 [(0, .ref 331), (1, .int p0), (2, .int p1), (3, .int p2), (4, .long p3), (6, .int p4), (7, .int p5)] [.int r1] (HS I1 L1 X)
  refine w_istore (ls2 := [(0, .ref 331), (1, .int p0), (2, .int p1), (3, .int p2), (4, .long p3), (6, .int p4), (7, .int p5), (8, .int r1)]) (Ev.cm _) rfl rfl ?_
  refine w_iload (Ev.cm _) rfl rfl ?_
  refine w_if_eq (Ev.cm _) rfl (fun c1 => ?_) (fun c1 => ?_)
  · have c1 : r1 = 0 := c1
    rw [if_pos c1] at q
    refine w_aload_n (Ev.cm _) rfl rfl ?_
    refine w_lload (Ev.cm _) rfl rfl ?_
    obtain ⟨⟨r2, I2, L2⟩, e2, q⟩ := obs q
    dsimp only at q
    refine w_cvirt (o := 331) (as := [.long p3]) (st := []) (Ev.cm _) rfl rfl rfl (Nat.le_of_ble_eq_true rfl) (Nat.le_of_ble_eq_true rfl) rfl (Nat.le_of_ble_eq_true rfl) (eo_M_isWord (g := ?_) e2)
    show Wp _ _ _ _ _ _ _ 25 [(0, .ref 331), (1, .int p0), (2, .int p1), (3, .int p2), (4, .long p3), (6, .int p4), (7, .int p5), (8, .int r1)] [.int r2] (HS I2 L2 X)
    refine w_if_ne (Ev.cm _) rfl (fun c2 => ?_) (fun c2 => ?_)
    · have c2 : ¬ (r2 = 0) := c2
      rw [if_neg c2] at q
      refine w_aload_n (Ev.cm _) rfl rfl ?_
      obtain ⟨⟨r3, I3, L3⟩, e3, q⟩ := obs q
      dsimp only at q
      refine w_cvirt (o := 331) (as := []) (st := []) (Ev.cm _) rfl rfl rfl (Nat.le_of_ble_eq_true rfl) (Nat.le_of_ble_eq_true rfl) rfl (Nat.le_of_ble_eq_true rfl) (eo_M_nextToken (g := ?_) e3)
      show Wp _ _ _ _ _ _ _ 34 [(0, .ref 331), (1, .int p0), (2, .int p1), (3, .int p2), (4, .long p3), (6, .int p4), (7, .int p5), (8, .int r1)] [] (HS I3 L3 X)
      refine w_aload_n (Ev.cm _) rfl rfl ?_
      refine w_iload_n (Ev.cm _) rfl rfl ?_
      refine w_iconst (Ev.cm _) rfl ?_
      refine w_iadd (Ev.cm _) rfl ?_
      refine w_iload (Ev.cm _) rfl rfl ?_
      refine w_iload (Ev.cm _) rfl rfl ?_
      obtain ⟨⟨r4, I4, L4⟩, e4, q⟩ := obs q
      dsimp only at q
      refine w_cvirt (o := 331) (as := [.int (p0 + 2), .int p4, .int p5]) (st := []) (Ev.cm _) rfl rfl rfl (Nat.le_of_ble_eq_true rfl) (Nat.le_of_ble_eq_true rfl) rfl (Nat.le_of_ble_eq_true rfl) (eo_M_figure (g := ?_) e4)
      show Wp _ _ _ _ _ _ _ 45 [(0, .ref 331), (1, .int p0), (2, .int p1), (3, .int p2), (4, .long p3), (6, .int p4), (7, .int p5), (8, .int r1)] [.int r4] (HS I4 L4 X)
      refine w_ireturn (Ev.cm _) rfl trivial rf0 ?_
      cases q
      exact g
    · have c2 : r2 = 0 := c2
      rw [if_pos c2] at q
      refine w_iconst (Ev.cm _) rfl ?_
      refine w_ireturn (Ev.cm _) rfl trivial rf0 ?_
      cases q
      exact g
  · have c1 : ¬ (r1 = 0) := c1
    rw [if_neg c1] at q
    refine w_iload (Ev.cm _) rfl rfl ?_
    refine w_ireturn (Ev.cm _) rfl trivial rf0 ?_
    cases q
    exact g
def FO_M_sortOf (fu : Nat) (I : Nat → Nat → Int32) (L : Nat → Nat → Int64) : Option (Int32 × (Nat → Nat → Int32) × (Nat → Nat → Int64)) := (FO_M_w5 fu 116 105 99 107 115 I L).bind (fun u1 => let r1 := u1.1; let I1 := u1.2.1; let L1 := u1.2.2; (FO_M_isWord fu r1 I1 L1).bind (fun u2 => let r2 := u2.1; let I2 := u2.2.1; let L2 := u2.2.2; if r2 = 0 then ((FO_M_w5 fu 104 101 97 114 115 I2 L2).bind (fun u3 => let r3 := u3.1; let I3 := u3.2.1; let L3 := u3.2.2; (FO_M_isWord fu r3 I3 L3).bind (fun u4 => let r4 := u4.1; let I4 := u4.2.1; let L4 := u4.2.2; if r4 = 0 then ((FO_M_w6 fu 108 111 100 103 101 114 I4 L4).bind (fun u5 => let r5 := u5.1; let I5 := u5.2.1; let L5 := u5.2.2; (FO_M_isWord fu r5 I5 L5).bind (fun u6 => let r6 := u6.1; let I6 := u6.2.1; let L6 := u6.2.2; if r6 = 0 then ((FO_M_w2 fu 117 112 I6 L6).bind (fun u7 => let r7 := u7.1; let I7 := u7.2.1; let L7 := u7.2.2; (FO_M_isWord fu r7 I7 L7).bind (fun u8 => let r8 := u8.1; let I8 := u8.2.1; let L8 := u8.2.2; if r8 = 0 then ((FO_M_w4 fu 100 111 119 110 I8 L8).bind (fun u9 => let r9 := u9.1; let I9 := u9.2.1; let L9 := u9.2.2; (FO_M_isWord fu r9 I9 L9).bind (fun u10 => let r10 := u10.1; let I10 := u10.2.1; let L10 := u10.2.2; if r10 = 0 then ((FO_M_w4 fu 104 97 110 103 I10 L10).bind (fun u11 => let r11 := u11.1; let I11 := u11.2.1; let L11 := u11.2.2; (FO_M_isWord fu r11 I11 L11).bind (fun u12 => let r12 := u12.1; let I12 := u12.2.1; let L12 := u12.2.2; if r12 = 0 then ((FO_M_w6 fu 117 110 104 97 110 103 I12 L12).bind (fun u13 => let r13 := u13.1; let I13 := u13.2.1; let L13 := u13.2.2; (FO_M_isWord fu r13 I13 L13).bind (fun u14 => let r14 := u14.1; let I14 := u14.2.1; let L14 := u14.2.2; if r14 = 0 then ((FO_M_w4 fu 104 111 117 114 I14 L14).bind (fun u15 => let r15 := u15.1; let I15 := u15.2.1; let L15 := u15.2.2; (FO_M_isWord fu r15 I15 L15).bind (fun u16 => let r16 := u16.1; let I16 := u16.2.1; let L16 := u16.2.2; if r16 = 0 then (some ((-1), I16, L16)) else (some (7, I16, L16))))) else (some (6, I14, L14))))) else (some (5, I12, L12))))) else (some (4, I10, L10))))) else (some (3, I8, L8))))) else (some (2, I6, L6))))) else (some (1, I4, L4))))) else (some (0, I2, L2))))
set_option maxHeartbeats 20000000 in
set_option maxRecDepth 20000 in
theorem eo_M_sortOf {d fu : Nat} {I : Nat → Nat → Int32} {L : Nat → Nat → Int64} {X : Nat × (Nat → Int32)} {Q : PQ} {res : Int32 × (Nat → Nat → Int32) × (Nat → Nat → Int64)}  (g : Q (some (.int res.1)) (HS res.2.1 res.2.2 X)) (q : FO_M_sortOf fu  I L = some res) : Ev (d + 6) m_M_sortOf [.ref 331] (HS I L X) Q := by
  unfold FO_M_sortOf at q
  refine ev_start (d := d + 5) rfl rfl rfl (Nat.le_of_ble_eq_true rfl) ?_
  show Wp (Ev (d + 5)) cd_M_sortOf (0, 0) (some .int) _ _ Q 0 [(0, .ref 331)] [] (HS I L X)
  refine w_aload_n (Ev.cm _) rfl rfl ?_
  refine w_bipush (Ev.cm _) rfl ?_
  refine w_bipush (Ev.cm _) rfl ?_
  refine w_bipush (Ev.cm _) rfl ?_
  refine w_bipush (Ev.cm _) rfl ?_
  refine w_bipush (Ev.cm _) rfl ?_
  obtain ⟨⟨r1, I1, L1⟩, e1, q⟩ := obs q
  dsimp only at q
  refine w_cstat (as := [.int 116, .int 105, .int 99, .int 107, .int 115]) (st := [.ref 331]) (Ev.cm _) rfl rfl rfl (Nat.le_of_ble_eq_true rfl) (Nat.le_of_ble_eq_true rfl) (eo_M_w5 (g := ?_) e1)
  show Wp _ _ _ _ _ _ _ 14 [(0, .ref 331)] [.long r1, .ref 331] (HS I1 L1 X)
  obtain ⟨⟨r2, I2, L2⟩, e2, q⟩ := obs q
  dsimp only at q
  refine w_cvirt (o := 331) (as := [.long r1]) (st := []) (Ev.cm _) rfl rfl rfl (Nat.le_of_ble_eq_true rfl) (Nat.le_of_ble_eq_true rfl) rfl (Nat.le_of_ble_eq_true rfl) (eo_M_isWord (g := ?_) e2)
  show Wp _ _ _ _ _ _ _ 17 [(0, .ref 331)] [.int r2] (HS I2 L2 X)
  refine w_if_eq (Ev.cm _) rfl (fun c1 => ?_) (fun c1 => ?_)
  · have c1 : r2 = 0 := c1
    rw [if_pos c1] at q
    refine w_aload_n (Ev.cm _) rfl rfl ?_
    refine w_bipush (Ev.cm _) rfl ?_
    refine w_bipush (Ev.cm _) rfl ?_
    refine w_bipush (Ev.cm _) rfl ?_
    refine w_bipush (Ev.cm _) rfl ?_
    refine w_bipush (Ev.cm _) rfl ?_
    obtain ⟨⟨r3, I3, L3⟩, e3, q⟩ := obs q
    dsimp only at q
    refine w_cstat (as := [.int 104, .int 101, .int 97, .int 114, .int 115]) (st := [.ref 331]) (Ev.cm _) rfl rfl rfl (Nat.le_of_ble_eq_true rfl) (Nat.le_of_ble_eq_true rfl) (eo_M_w5 (g := ?_) e3)
    show Wp _ _ _ _ _ _ _ 36 [(0, .ref 331)] [.long r3, .ref 331] (HS I3 L3 X)
    obtain ⟨⟨r4, I4, L4⟩, e4, q⟩ := obs q
    dsimp only at q
    refine w_cvirt (o := 331) (as := [.long r3]) (st := []) (Ev.cm _) rfl rfl rfl (Nat.le_of_ble_eq_true rfl) (Nat.le_of_ble_eq_true rfl) rfl (Nat.le_of_ble_eq_true rfl) (eo_M_isWord (g := ?_) e4)
    show Wp _ _ _ _ _ _ _ 39 [(0, .ref 331)] [.int r4] (HS I4 L4 X)
    refine w_if_eq (Ev.cm _) rfl (fun c2 => ?_) (fun c2 => ?_)
    · have c2 : r4 = 0 := c2
      rw [if_pos c2] at q
      refine w_aload_n (Ev.cm _) rfl rfl ?_
      refine w_bipush (Ev.cm _) rfl ?_
      refine w_bipush (Ev.cm _) rfl ?_
      refine w_bipush (Ev.cm _) rfl ?_
      refine w_bipush (Ev.cm _) rfl ?_
      refine w_bipush (Ev.cm _) rfl ?_
      refine w_bipush (Ev.cm _) rfl ?_
      obtain ⟨⟨r5, I5, L5⟩, e5, q⟩ := obs q
      dsimp only at q
      refine w_cstat (as := [.int 108, .int 111, .int 100, .int 103, .int 101, .int 114]) (st := [.ref 331]) (Ev.cm _) rfl rfl rfl (Nat.le_of_ble_eq_true rfl) (Nat.le_of_ble_eq_true rfl) (eo_M_w6 (g := ?_) e5)
      show Wp _ _ _ _ _ _ _ 60 [(0, .ref 331)] [.long r5, .ref 331] (HS I5 L5 X)
      obtain ⟨⟨r6, I6, L6⟩, e6, q⟩ := obs q
      dsimp only at q
      refine w_cvirt (o := 331) (as := [.long r5]) (st := []) (Ev.cm _) rfl rfl rfl (Nat.le_of_ble_eq_true rfl) (Nat.le_of_ble_eq_true rfl) rfl (Nat.le_of_ble_eq_true rfl) (eo_M_isWord (g := ?_) e6)
      show Wp _ _ _ _ _ _ _ 63 [(0, .ref 331)] [.int r6] (HS I6 L6 X)
      refine w_if_eq (Ev.cm _) rfl (fun c3 => ?_) (fun c3 => ?_)
      · have c3 : r6 = 0 := c3
        rw [if_pos c3] at q
        refine w_aload_n (Ev.cm _) rfl rfl ?_
        refine w_bipush (Ev.cm _) rfl ?_
        refine w_bipush (Ev.cm _) rfl ?_
        obtain ⟨⟨r7, I7, L7⟩, e7, q⟩ := obs q
        dsimp only at q
        refine w_cstat (as := [.int 117, .int 112]) (st := [.ref 331]) (Ev.cm _) rfl rfl rfl (Nat.le_of_ble_eq_true rfl) (Nat.le_of_ble_eq_true rfl) (eo_M_w2 (g := ?_) e7)
        show Wp _ _ _ _ _ _ _ 76 [(0, .ref 331)] [.long r7, .ref 331] (HS I7 L7 X)
        obtain ⟨⟨r8, I8, L8⟩, e8, q⟩ := obs q
        dsimp only at q
        refine w_cvirt (o := 331) (as := [.long r7]) (st := []) (Ev.cm _) rfl rfl rfl (Nat.le_of_ble_eq_true rfl) (Nat.le_of_ble_eq_true rfl) rfl (Nat.le_of_ble_eq_true rfl) (eo_M_isWord (g := ?_) e8)
        show Wp _ _ _ _ _ _ _ 79 [(0, .ref 331)] [.int r8] (HS I8 L8 X)
        refine w_if_eq (Ev.cm _) rfl (fun c4 => ?_) (fun c4 => ?_)
        · have c4 : r8 = 0 := c4
          rw [if_pos c4] at q
          refine w_aload_n (Ev.cm _) rfl rfl ?_
          refine w_bipush (Ev.cm _) rfl ?_
          refine w_bipush (Ev.cm _) rfl ?_
          refine w_bipush (Ev.cm _) rfl ?_
          refine w_bipush (Ev.cm _) rfl ?_
          obtain ⟨⟨r9, I9, L9⟩, e9, q⟩ := obs q
          dsimp only at q
          refine w_cstat (as := [.int 100, .int 111, .int 119, .int 110]) (st := [.ref 331]) (Ev.cm _) rfl rfl rfl (Nat.le_of_ble_eq_true rfl) (Nat.le_of_ble_eq_true rfl) (eo_M_w4 (g := ?_) e9)
          show Wp _ _ _ _ _ _ _ 96 [(0, .ref 331)] [.long r9, .ref 331] (HS I9 L9 X)
          obtain ⟨⟨r10, I10, L10⟩, e10, q⟩ := obs q
          dsimp only at q
          refine w_cvirt (o := 331) (as := [.long r9]) (st := []) (Ev.cm _) rfl rfl rfl (Nat.le_of_ble_eq_true rfl) (Nat.le_of_ble_eq_true rfl) rfl (Nat.le_of_ble_eq_true rfl) (eo_M_isWord (g := ?_) e10)
          show Wp _ _ _ _ _ _ _ 99 [(0, .ref 331)] [.int r10] (HS I10 L10 X)
          refine w_if_eq (Ev.cm _) rfl (fun c5 => ?_) (fun c5 => ?_)
          · have c5 : r10 = 0 := c5
            rw [if_pos c5] at q
            refine w_aload_n (Ev.cm _) rfl rfl ?_
            refine w_bipush (Ev.cm _) rfl ?_
            refine w_bipush (Ev.cm _) rfl ?_
            refine w_bipush (Ev.cm _) rfl ?_
            refine w_bipush (Ev.cm _) rfl ?_
            obtain ⟨⟨r11, I11, L11⟩, e11, q⟩ := obs q
            dsimp only at q
            refine w_cstat (as := [.int 104, .int 97, .int 110, .int 103]) (st := [.ref 331]) (Ev.cm _) rfl rfl rfl (Nat.le_of_ble_eq_true rfl) (Nat.le_of_ble_eq_true rfl) (eo_M_w4 (g := ?_) e11)
            show Wp _ _ _ _ _ _ _ 116 [(0, .ref 331)] [.long r11, .ref 331] (HS I11 L11 X)
            obtain ⟨⟨r12, I12, L12⟩, e12, q⟩ := obs q
            dsimp only at q
            refine w_cvirt (o := 331) (as := [.long r11]) (st := []) (Ev.cm _) rfl rfl rfl (Nat.le_of_ble_eq_true rfl) (Nat.le_of_ble_eq_true rfl) rfl (Nat.le_of_ble_eq_true rfl) (eo_M_isWord (g := ?_) e12)
            show Wp _ _ _ _ _ _ _ 119 [(0, .ref 331)] [.int r12] (HS I12 L12 X)
            refine w_if_eq (Ev.cm _) rfl (fun c6 => ?_) (fun c6 => ?_)
            · have c6 : r12 = 0 := c6
              rw [if_pos c6] at q
              refine w_aload_n (Ev.cm _) rfl rfl ?_
              refine w_bipush (Ev.cm _) rfl ?_
              refine w_bipush (Ev.cm _) rfl ?_
              refine w_bipush (Ev.cm _) rfl ?_
              refine w_bipush (Ev.cm _) rfl ?_
              refine w_bipush (Ev.cm _) rfl ?_
              refine w_bipush (Ev.cm _) rfl ?_
              obtain ⟨⟨r13, I13, L13⟩, e13, q⟩ := obs q
              dsimp only at q
              refine w_cstat (as := [.int 117, .int 110, .int 104, .int 97, .int 110, .int 103]) (st := [.ref 331]) (Ev.cm _) rfl rfl rfl (Nat.le_of_ble_eq_true rfl) (Nat.le_of_ble_eq_true rfl) (eo_M_w6 (g := ?_) e13)
              show Wp _ _ _ _ _ _ _ 140 [(0, .ref 331)] [.long r13, .ref 331] (HS I13 L13 X)
              obtain ⟨⟨r14, I14, L14⟩, e14, q⟩ := obs q
              dsimp only at q
              refine w_cvirt (o := 331) (as := [.long r13]) (st := []) (Ev.cm _) rfl rfl rfl (Nat.le_of_ble_eq_true rfl) (Nat.le_of_ble_eq_true rfl) rfl (Nat.le_of_ble_eq_true rfl) (eo_M_isWord (g := ?_) e14)
              show Wp _ _ _ _ _ _ _ 143 [(0, .ref 331)] [.int r14] (HS I14 L14 X)
              refine w_if_eq (Ev.cm _) rfl (fun c7 => ?_) (fun c7 => ?_)
              · have c7 : r14 = 0 := c7
                rw [if_pos c7] at q
                refine w_aload_n (Ev.cm _) rfl rfl ?_
                refine w_bipush (Ev.cm _) rfl ?_
                refine w_bipush (Ev.cm _) rfl ?_
                refine w_bipush (Ev.cm _) rfl ?_
                refine w_bipush (Ev.cm _) rfl ?_
                obtain ⟨⟨r15, I15, L15⟩, e15, q⟩ := obs q
                dsimp only at q
                refine w_cstat (as := [.int 104, .int 111, .int 117, .int 114]) (st := [.ref 331]) (Ev.cm _) rfl rfl rfl (Nat.le_of_ble_eq_true rfl) (Nat.le_of_ble_eq_true rfl) (eo_M_w4 (g := ?_) e15)
                show Wp _ _ _ _ _ _ _ 163 [(0, .ref 331)] [.long r15, .ref 331] (HS I15 L15 X)
                obtain ⟨⟨r16, I16, L16⟩, e16, q⟩ := obs q
                dsimp only at q
                refine w_cvirt (o := 331) (as := [.long r15]) (st := []) (Ev.cm _) rfl rfl rfl (Nat.le_of_ble_eq_true rfl) (Nat.le_of_ble_eq_true rfl) rfl (Nat.le_of_ble_eq_true rfl) (eo_M_isWord (g := ?_) e16)
                show Wp _ _ _ _ _ _ _ 166 [(0, .ref 331)] [.int r16] (HS I16 L16 X)
                refine w_if_eq (Ev.cm _) rfl (fun c8 => ?_) (fun c8 => ?_)
                · have c8 : r16 = 0 := c8
                  rw [if_pos c8] at q
                  refine w_iconst (Ev.cm _) rfl ?_
                  refine w_ireturn (Ev.cm _) rfl trivial rf0 ?_
                  cases q
                  exact g
                · have c8 : ¬ (r16 = 0) := c8
                  rw [if_neg c8] at q
                  refine w_bipush (Ev.cm _) rfl ?_
                  refine w_goto (Ev.cm _) rfl ?_
                  refine w_ireturn (Ev.cm _) rfl trivial rf0 ?_
                  cases q
                  exact g
              · have c7 : ¬ (r14 = 0) := c7
                rw [if_neg c7] at q
                refine w_bipush (Ev.cm _) rfl ?_
                refine w_goto (Ev.cm _) rfl ?_
                refine w_ireturn (Ev.cm _) rfl trivial rf0 ?_
                cases q
                exact g
            · have c6 : ¬ (r12 = 0) := c6
              rw [if_neg c6] at q
              refine w_iconst (Ev.cm _) rfl ?_
              refine w_ireturn (Ev.cm _) rfl trivial rf0 ?_
              cases q
              exact g
          · have c5 : ¬ (r10 = 0) := c5
            rw [if_neg c5] at q
            refine w_iconst (Ev.cm _) rfl ?_
            refine w_ireturn (Ev.cm _) rfl trivial rf0 ?_
            cases q
            exact g
        · have c4 : ¬ (r8 = 0) := c4
          rw [if_neg c4] at q
          refine w_iconst (Ev.cm _) rfl ?_
          refine w_ireturn (Ev.cm _) rfl trivial rf0 ?_
          cases q
          exact g
      · have c3 : ¬ (r6 = 0) := c3
        rw [if_neg c3] at q
        refine w_iconst (Ev.cm _) rfl ?_
        refine w_ireturn (Ev.cm _) rfl trivial rf0 ?_
        cases q
        exact g
    · have c2 : ¬ (r4 = 0) := c2
      rw [if_neg c2] at q
      refine w_iconst (Ev.cm _) rfl ?_
      refine w_ireturn (Ev.cm _) rfl trivial rf0 ?_
      cases q
      exact g
  · have c1 : ¬ (r2 = 0) := c1
    rw [if_neg c1] at q
    refine w_iconst (Ev.cm _) rfl ?_
    refine w_ireturn (Ev.cm _) rfl trivial rf0 ?_
    cases q
    exact g
def FO_M_fault (fu : Nat) (p0 : Int32) (I : Nat → Nat → Int32) (L : Nat → Nat → Int64) : Option (Int32 × (Nat → Nat → Int32) × (Nat → Nat → Int64)) := if p0 = 0 then (some (I 331 5, I, L)) else (if p0 = 1 then (some (I 331 6, I, L)) else (some ((-1), I, L)))
set_option maxHeartbeats 20000000 in
set_option maxRecDepth 20000 in
theorem eo_M_fault {d fu : Nat} {p0 : Int32} {I : Nat → Nat → Int32} {L : Nat → Nat → Int64} {X : Nat × (Nat → Int32)} {Q : PQ} {res : Int32 × (Nat → Nat → Int32) × (Nat → Nat → Int64)}  (g : Q (some (.int res.1)) (HS res.2.1 res.2.2 X)) (q : FO_M_fault fu p0 I L = some res) : Ev (d + 1) m_M_fault [.ref 331, .int p0] (HS I L X) Q := by
  unfold FO_M_fault at q
  refine ev_start (d := d + 0) rfl rfl rfl (Nat.le_of_ble_eq_true rfl) ?_
  show Wp (Ev (d + 0)) cd_M_fault (0, 0) (some .int) _ _ Q 0 [(0, .ref 331), (1, .int p0)] [] (HS I L X)
  refine w_iload_n (Ev.cm _) rfl rfl ?_
  refine w_if_ne (Ev.cm _) rfl (fun c1 => ?_) (fun c1 => ?_)
  · have c1 : ¬ (p0 = 0) := c1
    rw [if_neg c1] at q
    refine w_iload_n (Ev.cm _) rfl rfl ?_
    refine w_iconst (Ev.cm _) rfl ?_
    refine w_icmp_ne (Ev.cm _) rfl (fun c2 => ?_) (fun c2 => ?_)
    · have c2 : ¬ (p0 = 1) := c2
      rw [if_neg c2] at q
      refine w_iconst (Ev.cm _) rfl ?_
      refine w_ireturn (Ev.cm _) rfl trivial rf0 ?_
      cases q
      exact g
    · have c2 : p0 = 1 := c2
      rw [if_pos c2] at q
      refine w_aload_n (Ev.cm _) rfl rfl ?_
      refine w_getI (Ev.cm _) rfl (Nat.le_of_ble_eq_true rfl) rfl ?_
      refine w_goto (Ev.cm _) rfl ?_
      refine w_ireturn (Ev.cm _) rfl trivial rf0 ?_
      cases q
      exact g
  · have c1 : p0 = 0 := c1
    rw [if_pos c1] at q
    refine w_aload_n (Ev.cm _) rfl rfl ?_
    refine w_getI (Ev.cm _) rfl (Nat.le_of_ble_eq_true rfl) rfl ?_
    refine w_goto (Ev.cm _) rfl ?_
    refine w_ireturn (Ev.cm _) rfl trivial rf0 ?_
    cases q
    exact g
def FO_M_by (fu : Nat) (p0 : Int32) (I : Nat → Nat → Int32) (L : Nat → Nat → Int64) : Option (Int32 × (Nat → Nat → Int32) × (Nat → Nat → Int64)) := if (-1 : Int32) ≤ p0 ∧ p0 ≤ ((I 332 1) - 1) then (some (1, sI I 332 2 p0, L)) else (some (0, I, L))
set_option maxHeartbeats 20000000 in
set_option maxRecDepth 20000 in
theorem eo_M_by {d fu : Nat} {p0 : Int32} {I : Nat → Nat → Int32} {L : Nat → Nat → Int64} {X : Nat × (Nat → Int32)} {Q : PQ} {res : Int32 × (Nat → Nat → Int32) × (Nat → Nat → Int64)}  (g : Q (some (.int res.1)) (HS res.2.1 res.2.2 X)) (q : FO_M_by fu p0 I L = some res) : Ev (d + 2) m_M_by [.ref 331, .int p0] (HS I L X) Q := by
  unfold FO_M_by at q
  refine ev_start (d := d + 1) rfl rfl rfl (Nat.le_of_ble_eq_true rfl) ?_
  show Wp (Ev (d + 1)) cd_M_by (0, 0) (some .boolean) _ _ Q 0 [(0, .ref 331), (1, .int p0)] [] (HS I L X)
  refine w_iload_n (Ev.cm _) rfl rfl ?_
  refine w_iconst (Ev.cm _) rfl ?_
  refine w_aload_n (Ev.cm _) rfl rfl ?_
  refine w_getR (q := 332) (Ev.cm _) rfl (Nat.le_of_ble_eq_true rfl) rfl rfl ?_
  refine w_iconst (Ev.cm _) rfl ?_
  refine w_iald (Ev.cm _) rfl (Nat.le_of_ble_eq_true rfl) rfl (show vp_in 1 1541 from vpI 1541 (by decide) (by decide) (by decide)) ?_
  refine w_iconst (Ev.cm _) rfl ?_
  refine w_isub (Ev.cm _) rfl ?_
  refine w_cstat (as := [.int p0, .int (-1), .int ((I 332 1) - 1)]) (st := []) (Ev.cm _) rfl rfl rfl (Nat.le_of_ble_eq_true rfl) (Nat.le_of_ble_eq_true rfl) (m_isIn ?_)
  show Wp _ _ _ _ _ _ _ 13 [(0, .ref 331), (1, .int p0)] [.int (bI ((-1 : Int32) ≤ p0 ∧ p0 ≤ ((I 332 1) - 1)))] (HS I L X)
  refine w_if_ne (Ev.cm _) rfl (fun c1 => ?_) (fun c1 => ?_)
  · have c1 : (-1 : Int32) ≤ p0 ∧ p0 ≤ ((I 332 1) - 1) := bI_1.mp c1
    rw [if_pos c1] at q
    refine w_aload_n (Ev.cm _) rfl rfl ?_
    refine w_getR (q := 332) (Ev.cm _) rfl (Nat.le_of_ble_eq_true rfl) rfl rfl ?_
    refine w_iconst (Ev.cm _) rfl ?_
    refine w_iload_n (Ev.cm _) rfl rfl ?_
    refine w_iast (Ev.cm _) rfl (Nat.le_of_ble_eq_true rfl) rfl (show vp_in 2 1541 from vpI 1541 (by decide) (by decide) (by decide)) ?_
    refine w_iconst (Ev.cm _) rfl ?_
    refine w_ireturn (Ev.cm _) rfl (by first | exact rok_0 | exact rok_1 | exact rok_b) rf0 ?_
    cases q
    exact g
  · have c1 : ¬ ((-1 : Int32) ≤ p0 ∧ p0 ≤ ((I 332 1) - 1)) := bI_0.mp c1
    rw [if_neg c1] at q
    refine w_iconst (Ev.cm _) rfl ?_
    refine w_ireturn (Ev.cm _) rfl (by first | exact rok_0 | exact rok_1 | exact rok_b) rf0 ?_
    cases q
    exact g
def FO_M_clip (fu : Nat) (p0 : Int64) (I : Nat → Nat → Int32) (L : Nat → Nat → Int64) : Option (Int64 × (Nat → Nat → Int32) × (Nat → Nat → Int64)) := if lg_cmp p0 1000000 ≤ 0 then (if 0 ≤ lg_cmp p0 (-1000000) then (some (p0, I, L)) else (some ((-1000000), I, L))) else (some (1000000, I, L))
set_option maxHeartbeats 20000000 in
set_option maxRecDepth 20000 in
theorem eo_M_clip {d fu : Nat} {p0 : Int64} {I : Nat → Nat → Int32} {L : Nat → Nat → Int64} {X : Nat × (Nat → Int32)} {Q : PQ} {res : Int64 × (Nat → Nat → Int32) × (Nat → Nat → Int64)}  (g : Q (some (.long res.1)) (HS res.2.1 res.2.2 X)) (q : FO_M_clip fu p0 I L = some res) : Ev (d + 1) m_M_clip [.long p0] (HS I L X) Q := by
  unfold FO_M_clip at q
  refine ev_start (d := d + 0) rfl rfl rfl (Nat.le_of_ble_eq_true rfl) ?_
  show Wp (Ev (d + 0)) cd_M_clip (0, 0) (some .long) _ _ Q 0 [(0, .long p0)] [] (HS I L X)
  refine w_lload_n (Ev.cm _) rfl rfl ?_
  refine w_ldc2_w (Ev.cm _) rfl ?_
  refine w_lcmp (Ev.cm _) rfl ?_
  refine w_if_le (Ev.cm _) rfl (fun c1 => ?_) (fun c1 => ?_)
  · have c1 : lg_cmp p0 1000000 ≤ 0 := c1
    rw [if_pos c1] at q
    refine w_lload_n (Ev.cm _) rfl rfl ?_
    refine w_ldc2_w (Ev.cm _) rfl ?_
    refine w_lcmp (Ev.cm _) rfl ?_
    refine w_if_ge (Ev.cm _) rfl (fun c2 => ?_) (fun c2 => ?_)
    · have c2 : 0 ≤ lg_cmp p0 (-1000000) := c2
      rw [if_pos c2] at q
      refine w_lload_n (Ev.cm _) rfl rfl ?_
      refine w_lreturn (Ev.cm _) rfl rfl rf0 ?_
      cases q
      exact g
    · have c2 : ¬ (0 ≤ lg_cmp p0 (-1000000)) := c2
      rw [if_neg c2] at q
      refine w_ldc2_w (Ev.cm _) rfl ?_
      refine w_goto (Ev.cm _) rfl ?_
      refine w_lreturn (Ev.cm _) rfl rfl rf0 ?_
      cases q
      exact g
  · have c1 : ¬ (lg_cmp p0 1000000 ≤ 0) := c1
    rw [if_neg c1] at q
    refine w_ldc2_w (Ev.cm _) rfl ?_
    refine w_goto (Ev.cm _) rfl ?_
    refine w_lreturn (Ev.cm _) rfl rfl rf0 ?_
    cases q
    exact g
def FO_M_two (fu : Nat) (p0 : Int32) (p1 : Int64) (p2 : Int64) (I : Nat → Nat → Int32) (L : Nat → Nat → Int64) : Option (Int64 × (Nat → Nat → Int32) × (Nat → Nat → Int64)) := if p0 = 6 then ((FO_M_clip fu (p1 + p2) I L).bind (fun u1 => let r1 := u1.1; let I1 := u1.2.1; let L1 := u1.2.2; some (r1, I1, L1))) else (if p0 = 7 then ((FO_M_clip fu (p1 - p2) I L).bind (fun u2 => let r2 := u2.1; let I2 := u2.2.1; let L2 := u2.2.2; some (r2, I2, L2))) else (if p0 = 8 then ((FO_M_clip fu (p1 * p2) I L).bind (fun u3 => let r3 := u3.1; let I3 := u3.2.1; let L3 := u3.2.2; some (r3, I3, L3))) else (if lg_cmp p2 0 = 0 then (some (0, I, L)) else (if ¬ p2 = 0 then ((FO_M_clip fu (p1 / p2) I L).bind (fun u5 => let r5 := u5.1; let I5 := u5.2.1; let L5 := u5.2.2; some (r5, I5, L5))) else none))))
set_option maxHeartbeats 20000000 in
set_option maxRecDepth 20000 in
theorem eo_M_two {d fu : Nat} {p0 : Int32} {p1 : Int64} {p2 : Int64} {I : Nat → Nat → Int32} {L : Nat → Nat → Int64} {X : Nat × (Nat → Int32)} {Q : PQ} {res : Int64 × (Nat → Nat → Int32) × (Nat → Nat → Int64)}  (g : Q (some (.long res.1)) (HS res.2.1 res.2.2 X)) (q : FO_M_two fu p0 p1 p2 I L = some res) : Ev (d + 2) m_M_two [.int p0, .long p1, .long p2] (HS I L X) Q := by
  unfold FO_M_two at q
  refine ev_start (d := d + 1) rfl rfl rfl (Nat.le_of_ble_eq_true rfl) ?_
  show Wp (Ev (d + 1)) cd_M_two (0, 0) (some .long) _ _ Q 0 [(0, .int p0), (1, .long p1), (3, .long p2)] [] (HS I L X)
  refine w_iload_n (Ev.cm _) rfl rfl ?_
  refine w_tswL (Ev.cm _) [(6, 27), (7, 34), (8, 41)] rfl (by decide +kernel) (by decide +kernel) ?_
  refine ⟨fun c1 => ?_, fun c1_0 => ⟨fun c1 => ?_, fun c1_1 => ⟨fun c1 => ?_, fun c1_2 => ?_⟩⟩⟩
  · have c1 : p0 = 6 := sw_v c1 (by decide)
    rw [if_pos c1] at q
    show Wp _ _ _ _ _ _ _ 28 [(0, .int p0), (1, .long p1), (3, .long p2)] [] (HS I L X)
    refine w_lload_n (Ev.cm _) rfl rfl ?_
    refine w_lload_n (Ev.cm _) rfl rfl ?_
    refine w_ladd (Ev.cm _) rfl ?_
    obtain ⟨⟨r1, I1, L1⟩, e1, q⟩ := obs q
    dsimp only at q
    refine w_cstat (as := [.long (p1 + p2)]) (st := []) (Ev.cm _) rfl rfl rfl (Nat.le_of_ble_eq_true rfl) (Nat.le_of_ble_eq_true rfl) (eo_M_clip (g := ?_) e1)
    show Wp _ _ _ _ _ _ _ 34 [(0, .int p0), (1, .long p1), (3, .long p2)] [.long r1] (HS I1 L1 X)
    refine w_lreturn (Ev.cm _) rfl rfl rf0 ?_
    cases q
    exact g
  · have c1_0 : ¬ p0 = 6 := sw_w c1_0 (by decide)
    have c1 : p0 = 7 := sw_v c1 (by decide)
    rw [if_neg c1_0, if_pos c1] at q
    show Wp _ _ _ _ _ _ _ 35 [(0, .int p0), (1, .long p1), (3, .long p2)] [] (HS I L X)
    refine w_lload_n (Ev.cm _) rfl rfl ?_
    refine w_lload_n (Ev.cm _) rfl rfl ?_
    refine w_lsub (Ev.cm _) rfl ?_
    obtain ⟨⟨r2, I2, L2⟩, e2, q⟩ := obs q
    dsimp only at q
    refine w_cstat (as := [.long (p1 - p2)]) (st := []) (Ev.cm _) rfl rfl rfl (Nat.le_of_ble_eq_true rfl) (Nat.le_of_ble_eq_true rfl) (eo_M_clip (g := ?_) e2)
    show Wp _ _ _ _ _ _ _ 41 [(0, .int p0), (1, .long p1), (3, .long p2)] [.long r2] (HS I2 L2 X)
    refine w_lreturn (Ev.cm _) rfl rfl rf0 ?_
    cases q
    exact g
  · have c1_0 : ¬ p0 = 6 := sw_w c1_0 (by decide)
    have c1_1 : ¬ p0 = 7 := sw_w c1_1 (by decide)
    have c1 : p0 = 8 := sw_v c1 (by decide)
    rw [if_neg c1_0, if_neg c1_1, if_pos c1] at q
    show Wp _ _ _ _ _ _ _ 42 [(0, .int p0), (1, .long p1), (3, .long p2)] [] (HS I L X)
    refine w_lload_n (Ev.cm _) rfl rfl ?_
    refine w_lload_n (Ev.cm _) rfl rfl ?_
    refine w_lmul (Ev.cm _) rfl ?_
    obtain ⟨⟨r3, I3, L3⟩, e3, q⟩ := obs q
    dsimp only at q
    refine w_cstat (as := [.long (p1 * p2)]) (st := []) (Ev.cm _) rfl rfl rfl (Nat.le_of_ble_eq_true rfl) (Nat.le_of_ble_eq_true rfl) (eo_M_clip (g := ?_) e3)
    show Wp _ _ _ _ _ _ _ 48 [(0, .int p0), (1, .long p1), (3, .long p2)] [.long r3] (HS I3 L3 X)
    refine w_lreturn (Ev.cm _) rfl rfl rf0 ?_
    cases q
    exact g
  · have c1_0 : ¬ p0 = 6 := sw_w c1_0 (by decide)
    have c1_1 : ¬ p0 = 7 := sw_w c1_1 (by decide)
    have c1_2 : ¬ p0 = 8 := sw_w c1_2 (by decide)
    rw [if_neg c1_0, if_neg c1_1, if_neg c1_2] at q
    show Wp _ _ _ _ _ _ _ 49 [(0, .int p0), (1, .long p1), (3, .long p2)] [] (HS I L X)
    refine w_lload_n (Ev.cm _) rfl rfl ?_
    refine w_lconst (Ev.cm _) rfl ?_
    refine w_lcmp (Ev.cm _) rfl ?_
    refine w_if_ne (Ev.cm _) rfl (fun c2 => ?_) (fun c2 => ?_)
    · have c2 : ¬ (lg_cmp p2 0 = 0) := c2
      rw [if_neg c2] at q
      refine w_lload_n (Ev.cm _) rfl rfl ?_
      refine w_lload_n (Ev.cm _) rfl rfl ?_
      obtain ⟨b4, q⟩ := ois q
      refine w_ldiv (Ev.cm _) rfl b4 ?_
      obtain ⟨⟨r5, I5, L5⟩, e5, q⟩ := obs q
      dsimp only at q
      refine w_cstat (as := [.long (p1 / p2)]) (st := []) (Ev.cm _) rfl rfl rfl (Nat.le_of_ble_eq_true rfl) (Nat.le_of_ble_eq_true rfl) (eo_M_clip (g := ?_) e5)
      show Wp _ _ _ _ _ _ _ 65 [(0, .int p0), (1, .long p1), (3, .long p2)] [.long r5] (HS I5 L5 X)
      refine w_lreturn (Ev.cm _) rfl rfl rf0 ?_
      cases q
      exact g
    · have c2 : lg_cmp p2 0 = 0 := c2
      rw [if_pos c2] at q
      refine w_lconst (Ev.cm _) rfl ?_
      refine w_goto (Ev.cm _) rfl ?_
      refine w_lreturn (Ev.cm _) rfl rfl rf0 ?_
      cases q
      exact g
def FO_M_isAsked (fu : Nat) (p0 : Int32) (p1 : Int64) (p2 : Int64) (I : Nat → Nat → Int32) (L : Nat → Nat → Int64) : Option (Int32 × (Nat → Nat → Int32) × (Nat → Nat → Int64)) := if p0 = 10 then (if 0 ≤ lg_cmp p1 p2 then (some (0, I, L)) else (some (1, I, L))) else (if p0 = 11 then (if 0 < lg_cmp p1 p2 then (some (0, I, L)) else (some (1, I, L))) else (if p0 = 12 then (if lg_cmp p1 p2 ≤ 0 then (some (0, I, L)) else (some (1, I, L))) else (if p0 = 13 then (if lg_cmp p1 p2 < 0 then (some (0, I, L)) else (some (1, I, L))) else (if p0 = 14 then (if lg_cmp p1 p2 = 0 then (some (1, I, L)) else (some (0, I, L))) else (if lg_cmp p1 p2 = 0 then (some (0, I, L)) else (some (1, I, L)))))))
set_option maxHeartbeats 20000000 in
set_option maxRecDepth 20000 in
theorem eo_M_isAsked {d fu : Nat} {p0 : Int32} {p1 : Int64} {p2 : Int64} {I : Nat → Nat → Int32} {L : Nat → Nat → Int64} {X : Nat × (Nat → Int32)} {Q : PQ} {res : Int32 × (Nat → Nat → Int32) × (Nat → Nat → Int64)}  (g : Q (some (.int res.1)) (HS res.2.1 res.2.2 X)) (q : FO_M_isAsked fu p0 p1 p2 I L = some res) : Ev (d + 1) m_M_isAsked [.int p0, .long p1, .long p2] (HS I L X) Q := by
  unfold FO_M_isAsked at q
  refine ev_start (d := d + 0) rfl rfl rfl (Nat.le_of_ble_eq_true rfl) ?_
  show Wp (Ev (d + 0)) cd_M_isAsked (0, 0) (some .boolean) _ _ Q 0 [(0, .int p0), (1, .long p1), (3, .long p2)] [] (HS I L X)
  refine w_iload_n (Ev.cm _) rfl rfl ?_
  refine w_bipush (Ev.cm _) rfl ?_
  refine w_icmp_ne (Ev.cm _) rfl (fun c1 => ?_) (fun c1 => ?_)
  · have c1 : ¬ (p0 = 10) := c1
    rw [if_neg c1] at q
    refine w_iload_n (Ev.cm _) rfl rfl ?_
    refine w_bipush (Ev.cm _) rfl ?_
    refine w_icmp_ne (Ev.cm _) rfl (fun c2 => ?_) (fun c2 => ?_)
    · have c2 : ¬ (p0 = 11) := c2
      rw [if_neg c2] at q
      refine w_iload_n (Ev.cm _) rfl rfl ?_
      refine w_bipush (Ev.cm _) rfl ?_
      refine w_icmp_ne (Ev.cm _) rfl (fun c3 => ?_) (fun c3 => ?_)
      · have c3 : ¬ (p0 = 12) := c3
        rw [if_neg c3] at q
        refine w_iload_n (Ev.cm _) rfl rfl ?_
        refine w_bipush (Ev.cm _) rfl ?_
        refine w_icmp_ne (Ev.cm _) rfl (fun c4 => ?_) (fun c4 => ?_)
        · have c4 : ¬ (p0 = 13) := c4
          rw [if_neg c4] at q
          refine w_iload_n (Ev.cm _) rfl rfl ?_
          refine w_bipush (Ev.cm _) rfl ?_
          refine w_icmp_ne (Ev.cm _) rfl (fun c5 => ?_) (fun c5 => ?_)
          · have c5 : ¬ (p0 = 14) := c5
            rw [if_neg c5] at q
            refine w_lload_n (Ev.cm _) rfl rfl ?_
            refine w_lload_n (Ev.cm _) rfl rfl ?_
            refine w_lcmp (Ev.cm _) rfl ?_
            refine w_if_eq (Ev.cm _) rfl (fun c6 => ?_) (fun c6 => ?_)
            · have c6 : lg_cmp p1 p2 = 0 := c6
              rw [if_pos c6] at q
              refine w_iconst (Ev.cm _) rfl ?_
              refine w_ireturn (Ev.cm _) rfl (by first | exact rok_0 | exact rok_1 | exact rok_b) rf0 ?_
              cases q
              exact g
            · have c6 : ¬ (lg_cmp p1 p2 = 0) := c6
              rw [if_neg c6] at q
              refine w_iconst (Ev.cm _) rfl ?_
              refine w_goto (Ev.cm _) rfl ?_
              refine w_ireturn (Ev.cm _) rfl (by first | exact rok_0 | exact rok_1 | exact rok_b) rf0 ?_
              cases q
              exact g
          · have c5 : p0 = 14 := c5
            rw [if_pos c5] at q
            refine w_lload_n (Ev.cm _) rfl rfl ?_
            refine w_lload_n (Ev.cm _) rfl rfl ?_
            refine w_lcmp (Ev.cm _) rfl ?_
            refine w_if_ne (Ev.cm _) rfl (fun c7 => ?_) (fun c7 => ?_)
            · have c7 : ¬ (lg_cmp p1 p2 = 0) := c7
              rw [if_neg c7] at q
              refine w_iconst (Ev.cm _) rfl ?_
              refine w_goto (Ev.cm _) rfl ?_
              refine w_ireturn (Ev.cm _) rfl (by first | exact rok_0 | exact rok_1 | exact rok_b) rf0 ?_
              cases q
              exact g
            · have c7 : lg_cmp p1 p2 = 0 := c7
              rw [if_pos c7] at q
              refine w_iconst (Ev.cm _) rfl ?_
              refine w_goto (Ev.cm _) rfl ?_
              refine w_ireturn (Ev.cm _) rfl (by first | exact rok_0 | exact rok_1 | exact rok_b) rf0 ?_
              cases q
              exact g
        · have c4 : p0 = 13 := c4
          rw [if_pos c4] at q
          refine w_lload_n (Ev.cm _) rfl rfl ?_
          refine w_lload_n (Ev.cm _) rfl rfl ?_
          refine w_lcmp (Ev.cm _) rfl ?_
          refine w_if_lt (Ev.cm _) rfl (fun c8 => ?_) (fun c8 => ?_)
          · have c8 : lg_cmp p1 p2 < 0 := c8
            rw [if_pos c8] at q
            refine w_iconst (Ev.cm _) rfl ?_
            refine w_goto (Ev.cm _) rfl ?_
            refine w_ireturn (Ev.cm _) rfl (by first | exact rok_0 | exact rok_1 | exact rok_b) rf0 ?_
            cases q
            exact g
          · have c8 : ¬ (lg_cmp p1 p2 < 0) := c8
            rw [if_neg c8] at q
            refine w_iconst (Ev.cm _) rfl ?_
            refine w_goto (Ev.cm _) rfl ?_
            refine w_ireturn (Ev.cm _) rfl (by first | exact rok_0 | exact rok_1 | exact rok_b) rf0 ?_
            cases q
            exact g
      · have c3 : p0 = 12 := c3
        rw [if_pos c3] at q
        refine w_lload_n (Ev.cm _) rfl rfl ?_
        refine w_lload_n (Ev.cm _) rfl rfl ?_
        refine w_lcmp (Ev.cm _) rfl ?_
        refine w_if_le (Ev.cm _) rfl (fun c9 => ?_) (fun c9 => ?_)
        · have c9 : lg_cmp p1 p2 ≤ 0 := c9
          rw [if_pos c9] at q
          refine w_iconst (Ev.cm _) rfl ?_
          refine w_goto (Ev.cm _) rfl ?_
          refine w_ireturn (Ev.cm _) rfl (by first | exact rok_0 | exact rok_1 | exact rok_b) rf0 ?_
          cases q
          exact g
        · have c9 : ¬ (lg_cmp p1 p2 ≤ 0) := c9
          rw [if_neg c9] at q
          refine w_iconst (Ev.cm _) rfl ?_
          refine w_goto (Ev.cm _) rfl ?_
          refine w_ireturn (Ev.cm _) rfl (by first | exact rok_0 | exact rok_1 | exact rok_b) rf0 ?_
          cases q
          exact g
    · have c2 : p0 = 11 := c2
      rw [if_pos c2] at q
      refine w_lload_n (Ev.cm _) rfl rfl ?_
      refine w_lload_n (Ev.cm _) rfl rfl ?_
      refine w_lcmp (Ev.cm _) rfl ?_
      refine w_if_gt (Ev.cm _) rfl (fun c10 => ?_) (fun c10 => ?_)
      · have c10 : 0 < lg_cmp p1 p2 := c10
        rw [if_pos c10] at q
        refine w_iconst (Ev.cm _) rfl ?_
        refine w_goto (Ev.cm _) rfl ?_
        refine w_ireturn (Ev.cm _) rfl (by first | exact rok_0 | exact rok_1 | exact rok_b) rf0 ?_
        cases q
        exact g
      · have c10 : ¬ (0 < lg_cmp p1 p2) := c10
        rw [if_neg c10] at q
        refine w_iconst (Ev.cm _) rfl ?_
        refine w_goto (Ev.cm _) rfl ?_
        refine w_ireturn (Ev.cm _) rfl (by first | exact rok_0 | exact rok_1 | exact rok_b) rf0 ?_
        cases q
        exact g
  · have c1 : p0 = 10 := c1
    rw [if_pos c1] at q
    refine w_lload_n (Ev.cm _) rfl rfl ?_
    refine w_lload_n (Ev.cm _) rfl rfl ?_
    refine w_lcmp (Ev.cm _) rfl ?_
    refine w_if_ge (Ev.cm _) rfl (fun c11 => ?_) (fun c11 => ?_)
    · have c11 : 0 ≤ lg_cmp p1 p2 := c11
      rw [if_pos c11] at q
      refine w_iconst (Ev.cm _) rfl ?_
      refine w_goto (Ev.cm _) rfl ?_
      refine w_ireturn (Ev.cm _) rfl (by first | exact rok_0 | exact rok_1 | exact rok_b) rf0 ?_
      cases q
      exact g
    · have c11 : ¬ (0 ≤ lg_cmp p1 p2) := c11
      rw [if_neg c11] at q
      refine w_iconst (Ev.cm _) rfl ?_
      refine w_goto (Ev.cm _) rfl ?_
      refine w_ireturn (Ev.cm _) rfl (by first | exact rok_0 | exact rok_1 | exact rok_b) rf0 ?_
      cases q
      exact g
def FO_M_hasCup (fu : Nat) (p0 : Int32) (I : Nat → Nat → Int32) (L : Nat → Nat → Int64) : Option (Int32 × (Nat → Nat → Int32) × (Nat → Nat → Int64)) := if 1 ≤ p0 ∧ p0 ≤ 12 then ((FO_M_has fu (I 332 10) p0 I L).bind (fun u1 => let r1 := u1.1; let I1 := u1.2.1; let L1 := u1.2.2; if r1 = 0 then (some (0, I1, L1)) else (some (1, I1, L1)))) else (some (0, I, L))
set_option maxHeartbeats 20000000 in
set_option maxRecDepth 20000 in
theorem eo_M_hasCup {d fu : Nat} {p0 : Int32} {I : Nat → Nat → Int32} {L : Nat → Nat → Int64} {X : Nat × (Nat → Int32)} {Q : PQ} {res : Int32 × (Nat → Nat → Int32) × (Nat → Nat → Int64)}  (g : Q (some (.int res.1)) (HS res.2.1 res.2.2 X)) (q : FO_M_hasCup fu p0 I L = some res) : Ev (d + 3) m_M_hasCup [.ref 331, .int p0] (HS I L X) Q := by
  unfold FO_M_hasCup at q
  refine ev_start (d := d + 2) rfl rfl rfl (Nat.le_of_ble_eq_true rfl) ?_
  show Wp (Ev (d + 2)) cd_M_hasCup (0, 0) (some .boolean) _ _ Q 0 [(0, .ref 331), (1, .int p0)] [] (HS I L X)
  refine w_iload_n (Ev.cm _) rfl rfl ?_
  refine w_cstat (as := [.int p0]) (st := []) (Ev.cm _) rfl rfl rfl (Nat.le_of_ble_eq_true rfl) (Nat.le_of_ble_eq_true rfl) (m_isStair ?_)
  show Wp _ _ _ _ _ _ _ 4 [(0, .ref 331), (1, .int p0)] [.int (bI (1 ≤ p0 ∧ p0 ≤ 12))] (HS I L X)
  refine w_if_eq (Ev.cm _) rfl (fun c1 => ?_) (fun c1 => ?_)
  · have c1 : ¬ (1 ≤ p0 ∧ p0 ≤ 12) := bI_0.mp c1
    rw [if_neg c1] at q
    refine w_iconst (Ev.cm _) rfl ?_
    refine w_ireturn (Ev.cm _) rfl (by first | exact rok_0 | exact rok_1 | exact rok_b) rf0 ?_
    cases q
    exact g
  · have c1 : 1 ≤ p0 ∧ p0 ≤ 12 := bI_1.mp c1
    rw [if_pos c1] at q
    refine w_aload_n (Ev.cm _) rfl rfl ?_
    refine w_getR (q := 332) (Ev.cm _) rfl (Nat.le_of_ble_eq_true rfl) rfl rfl ?_
    refine w_bipush (Ev.cm _) rfl ?_
    refine w_iald (Ev.cm _) rfl (Nat.le_of_ble_eq_true rfl) rfl (show vp_in 10 1541 from vpI 1541 (by decide) (by decide) (by decide)) ?_
    refine w_iload_n (Ev.cm _) rfl rfl ?_
    obtain ⟨⟨r1, I1, L1⟩, e1, q⟩ := obs q
    dsimp only at q
    refine w_cstat (as := [.int (I 332 10), .int p0]) (st := []) (Ev.cm _) rfl rfl rfl (Nat.le_of_ble_eq_true rfl) (Nat.le_of_ble_eq_true rfl) (eo_M_has (g := ?_) e1)
    show Wp _ _ _ _ _ _ _ 18 [(0, .ref 331), (1, .int p0)] [.int r1] (HS I1 L1 X)
    refine w_if_eq (Ev.cm _) rfl (fun c2 => ?_) (fun c2 => ?_)
    · have c2 : r1 = 0 := c2
      rw [if_pos c2] at q
      refine w_iconst (Ev.cm _) rfl ?_
      refine w_ireturn (Ev.cm _) rfl (by first | exact rok_0 | exact rok_1 | exact rok_b) rf0 ?_
      cases q
      exact g
    · have c2 : ¬ (r1 = 0) := c2
      rw [if_neg c2] at q
      refine w_iconst (Ev.cm _) rfl ?_
      refine w_goto (Ev.cm _) rfl ?_
      refine w_ireturn (Ev.cm _) rfl (by first | exact rok_0 | exact rok_1 | exact rok_b) rf0 ?_
      cases q
      exact g
def FO_M_cupOf (fu : Nat) (p0 : Int64) (I : Nat → Nat → Int32) (L : Nat → Nat → Int64) : Option (Int64 × (Nat → Nat → Int32) × (Nat → Nat → Int64)) := if lg_cmp p0 1 < 0 then (some (0, I, L)) else (if 0 < lg_cmp p0 12 then (some (0, I, L)) else ((FO_M_hasCup fu ((p0 : Int64).toInt32) I L).bind (fun u1 => let r1 := u1.1; let I1 := u1.2.1; let L1 := u1.2.2; if r1 = 0 then (some (0, I1, L1)) else (some (1, I1, L1)))))
set_option maxHeartbeats 20000000 in
set_option maxRecDepth 20000 in
theorem eo_M_cupOf {d fu : Nat} {p0 : Int64} {I : Nat → Nat → Int32} {L : Nat → Nat → Int64} {X : Nat × (Nat → Int32)} {Q : PQ} {res : Int64 × (Nat → Nat → Int32) × (Nat → Nat → Int64)}  (g : Q (some (.long res.1)) (HS res.2.1 res.2.2 X)) (q : FO_M_cupOf fu p0 I L = some res) : Ev (d + 4) m_M_cupOf [.ref 331, .long p0] (HS I L X) Q := by
  unfold FO_M_cupOf at q
  refine ev_start (d := d + 3) rfl rfl rfl (Nat.le_of_ble_eq_true rfl) ?_
  show Wp (Ev (d + 3)) cd_M_cupOf (0, 0) (some .long) _ _ Q 0 [(0, .ref 331), (1, .long p0)] [] (HS I L X)
  refine w_lload_n (Ev.cm _) rfl rfl ?_
  refine w_lconst (Ev.cm _) rfl ?_
  refine w_lcmp (Ev.cm _) rfl ?_
  refine w_if_lt (Ev.cm _) rfl (fun c1 => ?_) (fun c1 => ?_)
  · have c1 : lg_cmp p0 1 < 0 := c1
    rw [if_pos c1] at q
    refine w_lconst (Ev.cm _) rfl ?_
    refine w_lreturn (Ev.cm _) rfl rfl rf0 ?_
    cases q
    exact g
  · have c1 : ¬ (lg_cmp p0 1 < 0) := c1
    rw [if_neg c1] at q
    refine w_lload_n (Ev.cm _) rfl rfl ?_
    refine w_ldc2_w (Ev.cm _) rfl ?_
    refine w_lcmp (Ev.cm _) rfl ?_
    refine w_if_gt (Ev.cm _) rfl (fun c2 => ?_) (fun c2 => ?_)
    · have c2 : 0 < lg_cmp p0 12 := c2
      rw [if_pos c2] at q
      refine w_lconst (Ev.cm _) rfl ?_
      refine w_lreturn (Ev.cm _) rfl rfl rf0 ?_
      cases q
      exact g
    · have c2 : ¬ (0 < lg_cmp p0 12) := c2
      rw [if_neg c2] at q
      refine w_aload_n (Ev.cm _) rfl rfl ?_
      refine w_lload_n (Ev.cm _) rfl rfl ?_
      refine w_l2i (Ev.cm _) rfl ?_
      obtain ⟨⟨r1, I1, L1⟩, e1, q⟩ := obs q
      dsimp only at q
      refine w_cvirt (o := 331) (as := [.int ((p0 : Int64).toInt32)]) (st := []) (Ev.cm _) rfl rfl rfl (Nat.le_of_ble_eq_true rfl) (Nat.le_of_ble_eq_true rfl) rfl (Nat.le_of_ble_eq_true rfl) (eo_M_hasCup (g := ?_) e1)
      show Wp _ _ _ _ _ _ _ 20 [(0, .ref 331), (1, .long p0)] [.int r1] (HS I1 L1 X)
      refine w_if_eq (Ev.cm _) rfl (fun c3 => ?_) (fun c3 => ?_)
      · have c3 : r1 = 0 := c3
        rw [if_pos c3] at q
        refine w_lconst (Ev.cm _) rfl ?_
        refine w_lreturn (Ev.cm _) rfl rfl rf0 ?_
        cases q
        exact g
      · have c3 : ¬ (r1 = 0) := c3
        rw [if_neg c3] at q
        refine w_lconst (Ev.cm _) rfl ?_
        refine w_goto (Ev.cm _) rfl ?_
        refine w_lreturn (Ev.cm _) rfl rfl rf0 ?_
        cases q
        exact g
def FO_M_size (fu : Nat) (p0 : Int64) (I : Nat → Nat → Int32) (L : Nat → Nat → Int64) : Option (Int64 × (Nat → Nat → Int32) × (Nat → Nat → Int64)) := if 0 ≤ lg_cmp p0 0 then (some (p0, I, L)) else (some (-p0, I, L))
set_option maxHeartbeats 20000000 in
set_option maxRecDepth 20000 in
theorem eo_M_size {d fu : Nat} {p0 : Int64} {I : Nat → Nat → Int32} {L : Nat → Nat → Int64} {X : Nat × (Nat → Int32)} {Q : PQ} {res : Int64 × (Nat → Nat → Int32) × (Nat → Nat → Int64)}  (g : Q (some (.long res.1)) (HS res.2.1 res.2.2 X)) (q : FO_M_size fu p0 I L = some res) : Ev (d + 1) m_M_size [.long p0] (HS I L X) Q := by
  unfold FO_M_size at q
  refine ev_start (d := d + 0) rfl rfl rfl (Nat.le_of_ble_eq_true rfl) ?_
  show Wp (Ev (d + 0)) cd_M_size (0, 0) (some .long) _ _ Q 0 [(0, .long p0)] [] (HS I L X)
  refine w_lload_n (Ev.cm _) rfl rfl ?_
  refine w_lconst (Ev.cm _) rfl ?_
  refine w_lcmp (Ev.cm _) rfl ?_
  refine w_if_ge (Ev.cm _) rfl (fun c1 => ?_) (fun c1 => ?_)
  · have c1 : 0 ≤ lg_cmp p0 0 := c1
    rw [if_pos c1] at q
    refine w_lload_n (Ev.cm _) rfl rfl ?_
    refine w_lreturn (Ev.cm _) rfl rfl rf0 ?_
    cases q
    exact g
  · have c1 : ¬ (0 ≤ lg_cmp p0 0) := c1
    rw [if_neg c1] at q
    refine w_lload_n (Ev.cm _) rfl rfl ?_
    refine w_lneg (Ev.cm _) rfl ?_
    refine w_goto (Ev.cm _) rfl ?_
    refine w_lreturn (Ev.cm _) rfl rfl rf0 ?_
    cases q
    exact g
def FO_M_nearOf (fu : Nat) (p0 : Int64) (p1 : Int64) (I : Nat → Nat → Int32) (L : Nat → Nat → Int64) : Option (Int64 × (Nat → Nat → Int32) × (Nat → Nat → Int64)) := if lg_cmp p1 0 = 0 then ((FO_M_size fu p0 I L).bind (fun u4 => let r4 := u4.1; let I4 := u4.2.1; let L4 := u4.2.2; some (r4, I4, L4))) else ((FO_M_size fu p1 I L).bind (fun u1 => let r1 := u1.1; let I1 := u1.2.1; let L1 := u1.2.2; (FO_M_size fu p0 I1 L1).bind (fun u2 => let r2 := u2.1; let I2 := u2.2.1; let L2 := u2.2.2; if ¬ r1 = 0 then (if 0 ≤ lg_cmp (lR r2 r1) (r1 - (lR r2 r1)) then (some (r1 - (lR r2 r1), I2, L2)) else (some (lR r2 r1, I2, L2))) else none)))
set_option maxHeartbeats 20000000 in
set_option maxRecDepth 20000 in
theorem eo_M_nearOf {d fu : Nat} {p0 : Int64} {p1 : Int64} {I : Nat → Nat → Int32} {L : Nat → Nat → Int64} {X : Nat × (Nat → Int32)} {Q : PQ} {res : Int64 × (Nat → Nat → Int32) × (Nat → Nat → Int64)}  (g : Q (some (.long res.1)) (HS res.2.1 res.2.2 X)) (q : FO_M_nearOf fu p0 p1 I L = some res) : Ev (d + 2) m_M_nearOf [.long p0, .long p1] (HS I L X) Q := by
  unfold FO_M_nearOf at q
  refine ev_start (d := d + 1) rfl rfl rfl (Nat.le_of_ble_eq_true rfl) ?_
  show Wp (Ev (d + 1)) cd_M_nearOf (0, 0) (some .long) _ _ Q 0 [(0, .long p0), (2, .long p1)] [] (HS I L X)
  refine w_lload_n (Ev.cm _) rfl rfl ?_
  refine w_lconst (Ev.cm _) rfl ?_
  refine w_lcmp (Ev.cm _) rfl ?_
  refine w_if_ne (Ev.cm _) rfl (fun c1 => ?_) (fun c1 => ?_)
  · have c1 : ¬ (lg_cmp p1 0 = 0) := c1
    rw [if_neg c1] at q
    refine w_lload_n (Ev.cm _) rfl rfl ?_
    obtain ⟨⟨r1, I1, L1⟩, e1, q⟩ := obs q
    dsimp only at q
    refine w_cstat (as := [.long p1]) (st := []) (Ev.cm _) rfl rfl rfl (Nat.le_of_ble_eq_true rfl) (Nat.le_of_ble_eq_true rfl) (eo_M_size (g := ?_) e1)
    show Wp _ _ _ _ _ _ _ 15 [(0, .long p0), (2, .long p1)] [.long r1] (HS I1 L1 X)
    refine w_lstore (ls2 := [(0, .long p0), (2, .long p1), (4, .long r1)]) (Ev.cm _) rfl rfl ?_
    refine w_lload_n (Ev.cm _) rfl rfl ?_
    obtain ⟨⟨r2, I2, L2⟩, e2, q⟩ := obs q
    dsimp only at q
    refine w_cstat (as := [.long p0]) (st := []) (Ev.cm _) rfl rfl rfl (Nat.le_of_ble_eq_true rfl) (Nat.le_of_ble_eq_true rfl) (eo_M_size (g := ?_) e2)
    show Wp _ _ _ _ _ _ _ 21 [(0, .long p0), (2, .long p1), (4, .long r1)] [.long r2] (HS I2 L2 X)
    refine w_lload (Ev.cm _) rfl rfl ?_
    obtain ⟨b3, q⟩ := ois q
    refine w_lrem (Ev.cm _) rfl b3 ?_
    refine w_lstore (ls2 := [(0, .long p0), (2, .long p1), (4, .long r1), (6, .long (lR r2 r1))]) (Ev.cm _) rfl rfl ?_
    refine w_lload (Ev.cm _) rfl rfl ?_
    refine w_lload (Ev.cm _) rfl rfl ?_
    refine w_lload (Ev.cm _) rfl rfl ?_
    refine w_lsub (Ev.cm _) rfl ?_
    refine w_lcmp (Ev.cm _) rfl ?_
    refine w_if_ge (Ev.cm _) rfl (fun c2 => ?_) (fun c2 => ?_)
    · have c2 : 0 ≤ lg_cmp (lR r2 r1) (r1 - (lR r2 r1)) := c2
      rw [if_pos c2] at q
      refine w_lload (Ev.cm _) rfl rfl ?_
      refine w_lload (Ev.cm _) rfl rfl ?_
      refine w_lsub (Ev.cm _) rfl ?_
      refine w_lreturn (Ev.cm _) rfl rfl rf0 ?_
      cases q
      exact g
    · have c2 : ¬ (0 ≤ lg_cmp (lR r2 r1) (r1 - (lR r2 r1))) := c2
      rw [if_neg c2] at q
      refine w_lload (Ev.cm _) rfl rfl ?_
      refine w_goto (Ev.cm _) rfl ?_
      refine w_lreturn (Ev.cm _) rfl rfl rf0 ?_
      cases q
      exact g
  · have c1 : lg_cmp p1 0 = 0 := c1
    rw [if_pos c1] at q
    refine w_lload_n (Ev.cm _) rfl rfl ?_
    obtain ⟨⟨r4, I4, L4⟩, e4, q⟩ := obs q
    dsimp only at q
    refine w_cstat (as := [.long p0]) (st := []) (Ev.cm _) rfl rfl rfl (Nat.le_of_ble_eq_true rfl) (Nat.le_of_ble_eq_true rfl) (eo_M_size (g := ?_) e4)
    show Wp _ _ _ _ _ _ _ 10 [(0, .long p0), (2, .long p1)] [.long r4] (HS I4 L4 X)
    refine w_lreturn (Ev.cm _) rfl rfl rf0 ?_
    cases q
    exact g
def FO_M_joined (fu : Nat) (p0 : Int32) (p1 : Int32) (p2 : Int32) (I : Nat → Nat → Int32) (L : Nat → Nat → Int64) : Option (Int32 × (Nat → Nat → Int32) × (Nat → Nat → Int64)) := if p0 = 21 then (if p1 = 0 then (some (0, I, L)) else (if p2 = 0 then (some (0, I, L)) else (some (1, I, L)))) else (if p1 = 0 then (if p2 = 0 then (some (0, I, L)) else (some (1, I, L))) else (some (1, I, L)))
set_option maxHeartbeats 20000000 in
set_option maxRecDepth 20000 in
theorem eo_M_joined {d fu : Nat} {p0 : Int32} {p1 : Int32} {p2 : Int32} {I : Nat → Nat → Int32} {L : Nat → Nat → Int64} {X : Nat × (Nat → Int32)} {Q : PQ} {res : Int32 × (Nat → Nat → Int32) × (Nat → Nat → Int64)}  (g : Q (some (.int res.1)) (HS res.2.1 res.2.2 X)) (q : FO_M_joined fu p0 p1 p2 I L = some res) : Ev (d + 1) m_M_joined [.int p0, .int p1, .int p2] (HS I L X) Q := by
  unfold FO_M_joined at q
  refine ev_start (d := d + 0) rfl rfl rfl (Nat.le_of_ble_eq_true rfl) ?_
  show Wp (Ev (d + 0)) cd_M_joined (0, 0) (some .boolean) _ _ Q 0 [(0, .int p0), (1, .int p1), (2, .int p2)] [] (HS I L X)
  refine w_iload_n (Ev.cm _) rfl rfl ?_
  refine w_bipush (Ev.cm _) rfl ?_
  refine w_icmp_ne (Ev.cm _) rfl (fun c1 => ?_) (fun c1 => ?_)
  · have c1 : ¬ (p0 = 21) := c1
    rw [if_neg c1] at q
    refine w_iload_n (Ev.cm _) rfl rfl ?_
    refine w_if_ne (Ev.cm _) rfl (fun c2 => ?_) (fun c2 => ?_)
    · have c2 : ¬ (p1 = 0) := c2
      rw [if_neg c2] at q
      refine w_iconst (Ev.cm _) rfl ?_
      refine w_goto (Ev.cm _) rfl ?_
      refine w_ireturn (Ev.cm _) rfl (by first | exact rok_0 | exact rok_1 | exact rok_b) rf0 ?_
      cases q
      exact g
    · have c2 : p1 = 0 := c2
      rw [if_pos c2] at q
      refine w_iload_n (Ev.cm _) rfl rfl ?_
      refine w_if_eq (Ev.cm _) rfl (fun c3 => ?_) (fun c3 => ?_)
      · have c3 : p2 = 0 := c3
        rw [if_pos c3] at q
        refine w_iconst (Ev.cm _) rfl ?_
        refine w_ireturn (Ev.cm _) rfl (by first | exact rok_0 | exact rok_1 | exact rok_b) rf0 ?_
        cases q
        exact g
      · have c3 : ¬ (p2 = 0) := c3
        rw [if_neg c3] at q
        refine w_iconst (Ev.cm _) rfl ?_
        refine w_goto (Ev.cm _) rfl ?_
        refine w_ireturn (Ev.cm _) rfl (by first | exact rok_0 | exact rok_1 | exact rok_b) rf0 ?_
        cases q
        exact g
  · have c1 : p0 = 21 := c1
    rw [if_pos c1] at q
    refine w_iload_n (Ev.cm _) rfl rfl ?_
    refine w_if_eq (Ev.cm _) rfl (fun c4 => ?_) (fun c4 => ?_)
    · have c4 : p1 = 0 := c4
      rw [if_pos c4] at q
      refine w_iconst (Ev.cm _) rfl ?_
      refine w_goto (Ev.cm _) rfl ?_
      refine w_ireturn (Ev.cm _) rfl (by first | exact rok_0 | exact rok_1 | exact rok_b) rf0 ?_
      cases q
      exact g
    · have c4 : ¬ (p1 = 0) := c4
      rw [if_neg c4] at q
      refine w_iload_n (Ev.cm _) rfl rfl ?_
      refine w_if_eq (Ev.cm _) rfl (fun c5 => ?_) (fun c5 => ?_)
      · have c5 : p2 = 0 := c5
        rw [if_pos c5] at q
        refine w_iconst (Ev.cm _) rfl ?_
        refine w_goto (Ev.cm _) rfl ?_
        refine w_ireturn (Ev.cm _) rfl (by first | exact rok_0 | exact rok_1 | exact rok_b) rf0 ?_
        cases q
        exact g
      · have c5 : ¬ (p2 = 0) := c5
        rw [if_neg c5] at q
        refine w_iconst (Ev.cm _) rfl ?_
        refine w_goto (Ev.cm _) rfl ?_
        refine w_ireturn (Ev.cm _) rfl (by first | exact rok_0 | exact rok_1 | exact rok_b) rf0 ?_
        cases q
        exact g
