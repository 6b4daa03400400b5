/-! methods, read back by program -/
def LO_X_played_249 (fu : Nat) (k_15 : Int32 → Nat → Int32 → (Nat → Nat → Int32) → (Nat → Nat → Int64) → Option (Int32 × (Nat → Nat → Int32) × (Nat → Nat → Int64))) : Nat → Int32 → Nat → Int32 → Int32 → Int32 → Int32 → Int32 → (Nat → Nat → Int32) → (Nat → Nat → Int64) → Option (Int32 × (Nat → Nat → Int32) × (Nat → Nat → Int64))
  | 0, _, _, _, _, _, _, _, _, _ => none
  | n + 1, x1, x2, x3, x4, x5, x6, x7, I, L => if x4 ≤ x7 then (if x6 = 0 then (some (x3, I, L)) else (k_15 x1 x2 (x3 + 1) I L)) else (if 9999 ≤ I 2 0 then (if x6 = 0 then (some (x3, I, L)) else (k_15 x1 x2 (x3 + 1) I L)) else ((FO_S_keep fu  I L).bind (fun u1 => let r1 := u1.1; let I1 := u1.2.1; let L1 := u1.2.2; (FO_X_passHour fu  I1 L1).bind (fun u2 => let r2 := u2.1; let I2 := u2.2.1; let L2 := u2.2.2; LO_X_played_249 fu k_15 n x1 x2 x3 x4 x5 x6 (x7 + 1) I2 L2))))
set_option maxHeartbeats 20000000 in
set_option maxRecDepth 20000 in
theorem lo_X_played_249 {d fu n0 s0 : Nat} {X : Nat × (Nat → Int32)} {Q : PQ} {k_15 : Int32 → Nat → Int32 → (Nat → Nat → Int32) → (Nat → Nat → Int64) → Option (Int32 × (Nat → Nat → Int32) × (Nat → Nat → Int64))} {res : Int32 × (Nat → Nat → Int32) × (Nat → Nat → Int64)}  (g : Q (some (.int res.1)) (HS res.2.1 res.2.2 X)) (hk_15 : ∀ (x1 : Int32) (x2 : Nat) (x3 : Int32) (I : Nat → Nat → Int32) (L : Nat → Nat → Int64) (hx2 : isT x2), k_15 x1 x2 x3 I L = some res → Wp (Ev (d + 7)) cd_X_played (0, 0) (some .int) n0 s0 Q 15 [(0, .ref 0), (1, .int x1), (2, .ref x2), (3, .int x3)] [] (HS I L X)) : ∀ (n : Nat) (x1 : Int32) (x2 : Nat) (x3 : Int32) (x4 : Int32) (x5 : Int32) (x6 : Int32) (x7 : Int32) (I : Nat → Nat → Int32) (L : Nat → Nat → Int64) (hx2 : isT x2), LO_X_played_249 fu k_15 n x1 x2 x3 x4 x5 x6 x7 I L = some res → Wp (Ev (d + 7)) cd_X_played (0, 0) (some .int) n0 s0 Q 249 [(0, .ref 0), (1, .int x1), (2, .ref x2), (3, .int x3), (4, .int x4), (5, .int x5), (6, .int x6), (7, .int x7)] [] (HS I L X) := by
  intro n
  induction n with
  | zero => intro _ _ _ _ _ _ _ _ _ _ q; cases q
  | succ n ih =>
    intro x1 x2 x3 x4 x5 x6 x7 I L hx2 q
    unfold LO_X_played_249 at q
    refine w_iload (Ev.cm _) rfl rfl ?_
    refine w_iload (Ev.cm _) rfl rfl ?_
    refine w_icmp_ge (Ev.cm _) rfl (fun c1 => ?_) (fun c1 => ?_)
    · have c1 : x4 ≤ x7 := c1
      rw [if_pos c1] at q
      refine w_goto (Ev.cm _) rfl ?_
      refine w_iload (Ev.cm _) rfl rfl ?_
      refine w_if_ne (Ev.cm _) rfl (fun c2 => ?_) (fun c2 => ?_)
      · have c2 : ¬ (x6 = 0) := c2
        rw [if_neg c2] at q
        refine w_iinc (ls2 := [(0, .ref 0), (1, .int x1), (2, .ref x2), (3, .int (x3 + 1)), (4, .int x4), (5, .int x5), (6, .int x6), (7, .int x7)]) (Ev.cm _) rfl rfl rfl ?_
        refine w_goto (Ev.cm _) rfl ?_
        show Wp _ _ _ _ _ _ _ 15 [(0, .ref 0), (1, .int x1), (2, .ref x2), (3, .int (x3 + 1)), (4, .int x4), (5, .int x5), (6, .int x6), (7, .int x7)] [] (HS I L X)
        refine Wp.sub [0, 1, 2, 3] (ls2 := [(0, .ref 0), (1, .int x1), (2, .ref x2), (3, .int (x3 + 1))]) rfl ?_
        exact hk_15 _ _ _ _ _ hx2 q
      · have c2 : x6 = 0 := c2
        rw [if_pos c2] at q
        refine w_iload_n (Ev.cm _) rfl rfl ?_
        refine w_ireturn (Ev.cm _) rfl trivial rf0 ?_
        cases q
        exact g
    · have c1 : ¬ (x4 ≤ x7) := c1
      rw [if_neg c1] at q
      refine w_aload_n (Ev.cm _) rfl rfl ?_
      refine w_getR (q := 1) (Ev.cm _) rfl (Nat.le_of_ble_eq_true rfl) rfl rfl ?_
      refine w_getR (q := 2) (Ev.cm _) rfl (Nat.le_of_ble_eq_true rfl) rfl rfl ?_
      refine w_getI (Ev.cm _) rfl (Nat.le_of_ble_eq_true rfl) rfl ?_
      refine w_sipush (Ev.cm _) rfl ?_
      refine w_icmp_ge (Ev.cm _) rfl (fun c3 => ?_) (fun c3 => ?_)
      · have c3 : 9999 ≤ I 2 0 := c3
        rw [if_pos c3] at q
        refine w_goto (Ev.cm _) rfl ?_
        refine w_iload (Ev.cm _) rfl rfl ?_
        refine w_if_ne (Ev.cm _) rfl (fun c4 => ?_) (fun c4 => ?_)
        · have c4 : ¬ (x6 = 0) := c4
          rw [if_neg c4] at q
          refine w_iinc (ls2 := [(0, .ref 0), (1, .int x1), (2, .ref x2), (3, .int (x3 + 1)), (4, .int x4), (5, .int x5), (6, .int x6), (7, .int x7)]) (Ev.cm _) rfl rfl rfl ?_
          refine w_goto (Ev.cm _) rfl ?_
          show Wp _ _ _ _ _ _ _ 15 [(0, .ref 0), (1, .int x1), (2, .ref x2), (3, .int (x3 + 1)), (4, .int x4), (5, .int x5), (6, .int x6), (7, .int x7)] [] (HS I L X)
          refine Wp.sub [0, 1, 2, 3] (ls2 := [(0, .ref 0), (1, .int x1), (2, .ref x2), (3, .int (x3 + 1))]) rfl ?_
          exact hk_15 _ _ _ _ _ hx2 q
        · have c4 : x6 = 0 := c4
          rw [if_pos c4] at q
          refine w_iload_n (Ev.cm _) rfl rfl ?_
          refine w_ireturn (Ev.cm _) rfl trivial rf0 ?_
          cases q
          exact g
      · have c3 : ¬ (9999 ≤ I 2 0) := c3
        rw [if_neg c3] at q
        refine w_aload_n (Ev.cm _) rfl rfl ?_
        refine w_getR (q := 1) (Ev.cm _) rfl (Nat.le_of_ble_eq_true rfl) rfl rfl ?_
        refine w_getR (q := 6) (Ev.cm _) rfl (Nat.le_of_ble_eq_true rfl) rfl rfl ?_
        refine w_aload_n (Ev.cm _) rfl rfl ?_
        refine w_getR (q := 1) (Ev.cm _) rfl (Nat.le_of_ble_eq_true rfl) rfl rfl ?_
        refine w_getR (q := 2) (Ev.cm _) rfl (Nat.le_of_ble_eq_true rfl) rfl rfl ?_
        obtain ⟨⟨r1, I1, L1⟩, e1, q⟩ := obs q
        dsimp only at q
        refine w_cvirt (o := 6) (as := [.ref 2]) (st := []) (Ev.cm _) rfl rfl rfl (Nat.le_of_ble_eq_true rfl) (Nat.le_of_ble_eq_true rfl) rfl (Nat.le_of_ble_eq_true rfl) (eo_S_keep (g := ?_) e1)
        show Wp _ _ _ _ _ _ _ 289 [(0, .ref 0), (1, .int x1), (2, .ref x2), (3, .int x3), (4, .int x4), (5, .int x5), (6, .int x6), (7, .int x7)] [] (HS I1 L1 X)
        refine w_aload_n (Ev.cm _) rfl rfl ?_
        obtain ⟨⟨r2, I2, L2⟩, e2, q⟩ := obs q
        dsimp only at q
        refine w_cvirt (o := 0) (as := []) (st := []) (Ev.cm _) rfl rfl rfl (Nat.le_of_ble_eq_true rfl) (Nat.le_of_ble_eq_true rfl) rfl (Nat.le_of_ble_eq_true rfl) (eo_X_passHour (g := ?_) e2)
        show Wp _ _ _ _ _ _ _ 293 [(0, .ref 0), (1, .int x1), (2, .ref x2), (3, .int x3), (4, .int x4), (5, .int x5), (6, .int x6), (7, .int x7)] [.int r2] (HS I2 L2 X)
        refine w_pop (Ev.cm _) rfl rfl ?_
        refine w_iinc (ls2 := [(0, .ref 0), (1, .int x1), (2, .ref x2), (3, .int x3), (4, .int x4), (5, .int x5), (6, .int x6), (7, .int (x7 + 1))]) (Ev.cm _) rfl rfl rfl ?_
        refine w_goto (Ev.cm _) rfl ?_
        show Wp _ _ _ _ _ _ _ 249 [(0, .ref 0), (1, .int x1), (2, .ref x2), (3, .int x3), (4, .int x4), (5, .int x5), (6, .int x6), (7, .int (x7 + 1))] [] (HS I2 L2 X)
        refine Wp.sub [0, 1, 2, 3, 4, 5, 6, 7] (ls2 := [(0, .ref 0), (1, .int x1), (2, .ref x2), (3, .int x3), (4, .int x4), (5, .int x5), (6, .int x6), (7, .int (x7 + 1))]) rfl ?_
        exact ih _ _ _ _ _ _ _ _ _ hx2 q
def LO_X_played_15 (fu : Nat) : Nat → Int32 → Nat → Int32 → (Nat → Nat → Int32) → (Nat → Nat → Int64) → Option (Int32 × (Nat → Nat → Int32) × (Nat → Nat → Int64))
  | 0, _, _, _, _, _ => none
  | n + 1, x1, x2, x3, I, L => if I x2 0 ≤ x3 then (some ((-1), I, L)) else (if 24 ≤ x3 then (some ((-1), I, L)) else (if 0 ≤ x3 ∧ x3 < 24 then (if 0 ≤ x3 ∧ x3 < 24 then (if 0 ≤ x3 ∧ x3 < 24 then (if I (x2 + 1) x3.toNatClampNeg = 30 then (if 9999 < (I 2 0) + (I (x2 + 2) x3.toNatClampNeg) then (LO_X_played_249 fu (fun x1 x2 x3 I L => LO_X_played_15 fu n x1 x2 x3 I L) fu x1 x2 x3 (I (x2 + 2) x3.toNatClampNeg) (I (x2 + 3) x3.toNatClampNeg) 0 0 I L) else (LO_X_played_249 fu (fun x1 x2 x3 I L => LO_X_played_15 fu n x1 x2 x3 I L) fu x1 x2 x3 (I (x2 + 2) x3.toNatClampNeg) (I (x2 + 3) x3.toNatClampNeg) 1 0 I L)) else (if I (x2 + 1) x3.toNatClampNeg = 40 then ((FO_X_moveIn fu (I (x2 + 2) x3.toNatClampNeg) (I (x2 + 3) x3.toNatClampNeg) I L).bind (fun u4 => let r4 := u4.1; let I4 := u4.2.1; let L4 := u4.2.2; if r4 = (-1) then (some (x3, I4, L4)) else (LO_X_played_15 fu n x1 x2 (x3 + 1) I4 L4))) else (if I (x2 + 1) x3.toNatClampNeg = 41 then ((FO_X_treadAsStep fu (I (x2 + 3) x3.toNatClampNeg) 1 (I (x2 + 2) x3.toNatClampNeg) I L).bind (fun u5 => let r5 := u5.1; let I5 := u5.2.1; let L5 := u5.2.2; if r5 = (-1) then (some (x3, I5, L5)) else (LO_X_played_15 fu n x1 x2 (x3 + 1) I5 L5))) else (if I (x2 + 1) x3.toNatClampNeg = 42 then ((FO_X_treadAsStep fu (I (x2 + 3) x3.toNatClampNeg) 0 (I (x2 + 2) x3.toNatClampNeg) I L).bind (fun u6 => let r6 := u6.1; let I6 := u6.2.1; let L6 := u6.2.2; if r6 = (-1) then (some (x3, I6, L6)) else (LO_X_played_15 fu n x1 x2 (x3 + 1) I6 L6))) else (if I (x2 + 1) x3.toNatClampNeg = 43 then ((FO_X_hangAsStep fu (I (x2 + 2) x3.toNatClampNeg) 1 I L).bind (fun u7 => let r7 := u7.1; let I7 := u7.2.1; let L7 := u7.2.2; if r7 = 0 then (some (x3, I7, L7)) else (LO_X_played_15 fu n x1 x2 (x3 + 1) I7 L7))) else (if I (x2 + 1) x3.toNatClampNeg = 44 then ((FO_X_hangAsStep fu (I (x2 + 2) x3.toNatClampNeg) 0 I L).bind (fun u8 => let r8 := u8.1; let I8 := u8.2.1; let L8 := u8.2.2; if r8 = 0 then (some (x3, I8, L8)) else (LO_X_played_15 fu n x1 x2 (x3 + 1) I8 L8))) else (LO_X_played_15 fu n x1 x2 (x3 + 1) I L))))))) else none) else none) else none))
set_option maxHeartbeats 20000000 in
set_option maxRecDepth 20000 in
theorem lo_X_played_15 {d fu n0 s0 : Nat} {X : Nat × (Nat → Int32)} {Q : PQ} {res : Int32 × (Nat → Nat → Int32) × (Nat → Nat → Int64)}  (g : Q (some (.int res.1)) (HS res.2.1 res.2.2 X)) : ∀ (n : Nat) (x1 : Int32) (x2 : Nat) (x3 : Int32) (I : Nat → Nat → Int32) (L : Nat → Nat → Int64) (hx2 : isT x2), LO_X_played_15 fu n x1 x2 x3 I L = some res → Wp (Ev (d + 7)) cd_X_played (0, 0) (some .int) n0 s0 Q 15 [(0, .ref 0), (1, .int x1), (2, .ref x2), (3, .int x3)] [] (HS I L X) := by
  intro n
  induction n with
  | zero => intro _ _ _ _ _ _ q; cases q
  | succ n ih =>
    intro x1 x2 x3 I L hx2 q
    unfold LO_X_played_15 at q
    refine w_iload_n (Ev.cm _) rfl rfl ?_
    refine w_aload_n (Ev.cm _) rfl rfl ?_
    refine w_getI (Ev.cm _) rfl (isT_lt0 hx2) (congrArg Prod.fst (isT_k0 hx2)) ?_
    refine w_icmp_ge (Ev.cm _) rfl (fun c1 => ?_) (fun c1 => ?_)
    · have c1 : I x2 0 ≤ x3 := c1
      rw [if_pos c1] at q
      refine w_iconst (Ev.cm _) rfl ?_
      refine w_ireturn (Ev.cm _) rfl trivial rf0 ?_
      cases q
      exact g
    · have c1 : ¬ (I x2 0 ≤ x3) := c1
      rw [if_neg c1] at q
      refine w_iload_n (Ev.cm _) rfl rfl ?_
      refine w_bipush (Ev.cm _) rfl ?_
      refine w_icmp_ge (Ev.cm _) rfl (fun c2 => ?_) (fun c2 => ?_)
      · have c2 : 24 ≤ x3 := c2
        rw [if_pos c2] at q
        refine w_iconst (Ev.cm _) rfl ?_
        refine w_ireturn (Ev.cm _) rfl trivial rf0 ?_
        cases q
        exact g
      · have c2 : ¬ (24 ≤ x3) := c2
        rw [if_neg c2] at q
        refine w_aload_n (Ev.cm _) rfl rfl ?_
        refine w_getR (q := x2 + 2) (Ev.cm _) rfl (isT_lt0 hx2) (congrArg Prod.fst (isT_k0 hx2)) (isT_r2 hx2) ?_
        refine w_iload_n (Ev.cm _) rfl rfl ?_
        obtain ⟨b1, q⟩ := ois q
        refine w_iald (Ev.cm _) rfl (isT_lt hx2 2 (by decide)) (congrArg Prod.fst (isT_k2 hx2)) (vpK (isT_k2 hx2) 24 (by decide) b1.1 b1.2) ?_
        refine w_istore (ls2 := [(0, .ref 0), (1, .int x1), (2, .ref x2), (3, .int x3), (4, .int (I (x2 + 2) x3.toNatClampNeg))]) (Ev.cm _) rfl rfl ?_
        refine w_aload_n (Ev.cm _) rfl rfl ?_
        refine w_getR (q := x2 + 3) (Ev.cm _) rfl (isT_lt0 hx2) (congrArg Prod.fst (isT_k0 hx2)) (isT_r3 hx2) ?_
        refine w_iload_n (Ev.cm _) rfl rfl ?_
        obtain ⟨b2, q⟩ := ois q
        refine w_iald (Ev.cm _) rfl (isT_lt hx2 3 (by decide)) (congrArg Prod.fst (isT_k3 hx2)) (vpK (isT_k3 hx2) 24 (by decide) b2.1 b2.2) ?_
        refine w_istore (ls2 := [(0, .ref 0), (1, .int x1), (2, .ref x2), (3, .int x3), (4, .int (I (x2 + 2) x3.toNatClampNeg)), (5, .int (I (x2 + 3) x3.toNatClampNeg))]) (Ev.cm _) rfl rfl ?_
        refine w_iconst (Ev.cm _) rfl ?_
        refine w_istore (ls2 := [(0, .ref 0), (1, .int x1), (2, .ref x2), (3, .int x3), (4, .int (I (x2 + 2) x3.toNatClampNeg)), (5, .int (I (x2 + 3) x3.toNatClampNeg)), (6, .int 1)]) (Ev.cm _) rfl rfl ?_
        refine w_aload_n (Ev.cm _) rfl rfl ?_
        refine w_getR (q := x2 + 1) (Ev.cm _) rfl (isT_lt0 hx2) (congrArg Prod.fst (isT_k0 hx2)) (isT_r1 hx2) ?_
        refine w_iload_n (Ev.cm _) rfl rfl ?_
        obtain ⟨b3, q⟩ := ois q
        refine w_iald (Ev.cm _) rfl (isT_lt hx2 1 (by decide)) (congrArg Prod.fst (isT_k1 hx2)) (vpK (isT_k1 hx2) 24 (by decide) b3.1 b3.2) ?_
        refine w_tswL (Ev.cm _) [(30, 166), (40, 74), (41, 96), (42, 119), (43, 142), (44, 154)] rfl (by decide +kernel) (by decide +kernel) ?_
        refine ⟨fun c3 => ?_, fun c3_0 => ⟨fun c3 => ?_, fun c3_1 => ⟨fun c3 => ?_, fun c3_2 => ⟨fun c3 => ?_, fun c3_3 => ⟨fun c3 => ?_, fun c3_4 => ⟨fun c3 => ?_, fun c3_5 => ?_⟩⟩⟩⟩⟩⟩
        · have c3 : I (x2 + 1) x3.toNatClampNeg = 30 := sw_v c3 (by decide)
          rw [if_pos c3] at q
          show Wp _ _ _ _ _ _ _ 220 [(0, .ref 0), (1, .int x1), (2, .ref x2), (3, .int x3), (4, .int (I (x2 + 2) x3.toNatClampNeg)), (5, .int (I (x2 + 3) x3.toNatClampNeg)), (6, .int 1)] [] (HS I L X)
          refine w_aload_n (Ev.cm _) rfl rfl ?_
          refine w_getR (q := 1) (Ev.cm _) rfl (Nat.le_of_ble_eq_true rfl) rfl rfl ?_
          refine w_getR (q := 2) (Ev.cm _) rfl (Nat.le_of_ble_eq_true rfl) rfl rfl ?_
          refine w_getI (Ev.cm _) rfl (Nat.le_of_ble_eq_true rfl) rfl ?_
          refine w_iload (Ev.cm _) rfl rfl ?_
          refine w_iadd (Ev.cm _) rfl ?_
          refine w_sipush (Ev.cm _) rfl ?_
          refine w_icmp_gt (Ev.cm _) rfl (fun c4 => ?_) (fun c4 => ?_)
          · have c4 : 9999 < (I 2 0) + (I (x2 + 2) x3.toNatClampNeg) := c4
            rw [if_pos c4] at q
            refine w_iconst (Ev.cm _) rfl ?_
            refine w_istore (ls2 := [(0, .ref 0), (1, .int x1), (2, .ref x2), (3, .int x3), (4, .int (I (x2 + 2) x3.toNatClampNeg)), (5, .int (I (x2 + 3) x3.toNatClampNeg)), (6, .int 0)]) (Ev.cm _) rfl rfl ?_
            refine w_iconst (Ev.cm _) rfl ?_
            refine w_istore (ls2 := [(0, .ref 0), (1, .int x1), (2, .ref x2), (3, .int x3), (4, .int (I (x2 + 2) x3.toNatClampNeg)), (5, .int (I (x2 + 3) x3.toNatClampNeg)), (6, .int 0), (7, .int 0)]) (Ev.cm _) rfl rfl ?_
            show Wp _ _ _ _ _ _ _ 249 [(0, .ref 0), (1, .int x1), (2, .ref x2), (3, .int x3), (4, .int (I (x2 + 2) x3.toNatClampNeg)), (5, .int (I (x2 + 3) x3.toNatClampNeg)), (6, .int 0), (7, .int 0)] [] (HS I L X)
            refine Wp.sub [0, 1, 2, 3, 4, 5, 6, 7] (ls2 := [(0, .ref 0), (1, .int x1), (2, .ref x2), (3, .int x3), (4, .int (I (x2 + 2) x3.toNatClampNeg)), (5, .int (I (x2 + 3) x3.toNatClampNeg)), (6, .int 0), (7, .int 0)]) rfl ?_
            exact lo_X_played_249 g (fun x1 x2 x3 I L hx2 q => ih x1 x2 x3 I L hx2 q) fu _ _ _ _ _ _ _ _ _ hx2 q
          · have c4 : ¬ (9999 < (I 2 0) + (I (x2 + 2) x3.toNatClampNeg)) := c4
            rw [if_neg c4] at q
            refine w_iconst (Ev.cm _) rfl ?_
            refine w_goto (Ev.cm _) rfl ?_
            refine w_istore (ls2 := [(0, .ref 0), (1, .int x1), (2, .ref x2), (3, .int x3), (4, .int (I (x2 + 2) x3.toNatClampNeg)), (5, .int (I (x2 + 3) x3.toNatClampNeg)), (6, .int 1)]) (Ev.cm _) rfl rfl ?_
            refine w_iconst (Ev.cm _) rfl ?_
            refine w_istore (ls2 := [(0, .ref 0), (1, .int x1), (2, .ref x2), (3, .int x3), (4, .int (I (x2 + 2) x3.toNatClampNeg)), (5, .int (I (x2 + 3) x3.toNatClampNeg)), (6, .int 1), (7, .int 0)]) (Ev.cm _) rfl rfl ?_
            show Wp _ _ _ _ _ _ _ 249 [(0, .ref 0), (1, .int x1), (2, .ref x2), (3, .int x3), (4, .int (I (x2 + 2) x3.toNatClampNeg)), (5, .int (I (x2 + 3) x3.toNatClampNeg)), (6, .int 1), (7, .int 0)] [] (HS I L X)
            refine Wp.sub [0, 1, 2, 3, 4, 5, 6, 7] (ls2 := [(0, .ref 0), (1, .int x1), (2, .ref x2), (3, .int x3), (4, .int (I (x2 + 2) x3.toNatClampNeg)), (5, .int (I (x2 + 3) x3.toNatClampNeg)), (6, .int 1), (7, .int 0)]) rfl ?_
            exact lo_X_played_249 g (fun x1 x2 x3 I L hx2 q => ih x1 x2 x3 I L hx2 q) fu _ _ _ _ _ _ _ _ _ hx2 q
        · have c3_0 : ¬ I (x2 + 1) x3.toNatClampNeg = 30 := sw_w c3_0 (by decide)
          have c3 : I (x2 + 1) x3.toNatClampNeg = 40 := sw_v c3 (by decide)
          rw [if_neg c3_0, if_pos c3] at q
          show Wp _ _ _ _ _ _ _ 128 [(0, .ref 0), (1, .int x1), (2, .ref x2), (3, .int x3), (4, .int (I (x2 + 2) x3.toNatClampNeg)), (5, .int (I (x2 + 3) x3.toNatClampNeg)), (6, .int 1)] [] (HS I L X)
          refine w_aload_n (Ev.cm _) rfl rfl ?_
          refine w_iload (Ev.cm _) rfl rfl ?_
          refine w_iload (Ev.cm _) rfl rfl ?_
          obtain ⟨⟨r4, I4, L4⟩, e4, q⟩ := obs q
          dsimp only at q
          refine w_cvirt (o := 0) (as := [.int (I (x2 + 2) x3.toNatClampNeg), .int (I (x2 + 3) x3.toNatClampNeg)]) (st := []) (Ev.cm _) rfl rfl rfl (Nat.le_of_ble_eq_true rfl) (Nat.le_of_ble_eq_true rfl) rfl (Nat.le_of_ble_eq_true rfl) (eo_X_moveIn (g := ?_) e4)
          show Wp _ _ _ _ _ _ _ 136 [(0, .ref 0), (1, .int x1), (2, .ref x2), (3, .int x3), (4, .int (I (x2 + 2) x3.toNatClampNeg)), (5, .int (I (x2 + 3) x3.toNatClampNeg)), (6, .int 1)] [.int r4] (HS I4 L4 X)
          refine w_iconst (Ev.cm _) rfl ?_
          refine w_icmp_eq (Ev.cm _) rfl (fun c5 => ?_) (fun c5 => ?_)
          · have c5 : r4 = (-1) := c5
            rw [if_pos c5] at q
            refine w_iconst (Ev.cm _) rfl ?_
            refine w_istore (ls2 := [(0, .ref 0), (1, .int x1), (2, .ref x2), (3, .int x3), (4, .int (I (x2 + 2) x3.toNatClampNeg)), (5, .int (I (x2 + 3) x3.toNatClampNeg)), (6, .int 0)]) (Ev.cm _) rfl rfl ?_
            refine w_goto (Ev.cm _) rfl ?_
            refine w_iload (Ev.cm _) rfl rfl ?_
            refine w_if_ne (Ev.cm _) rfl (fun q => absurd rfl q) (fun _ => ?_)
            refine w_iload_n (Ev.cm _) rfl rfl ?_
            refine w_ireturn (Ev.cm _) rfl trivial rf0 ?_
            cases q
            exact g
          · have c5 : ¬ (r4 = (-1)) := c5
            rw [if_neg c5] at q
            refine w_iconst (Ev.cm _) rfl ?_
            refine w_goto (Ev.cm _) rfl ?_
            refine w_istore (ls2 := [(0, .ref 0), (1, .int x1), (2, .ref x2), (3, .int x3), (4, .int (I (x2 + 2) x3.toNatClampNeg)), (5, .int (I (x2 + 3) x3.toNatClampNeg)), (6, .int 1)]) (Ev.cm _) rfl rfl ?_
            refine w_goto (Ev.cm _) rfl ?_
            refine w_iload (Ev.cm _) rfl rfl ?_
            refine w_if_ne (Ev.cm _) rfl (fun _ => ?_) (fun q => absurd q (by decide))
            refine w_iinc (ls2 := [(0, .ref 0), (1, .int x1), (2, .ref x2), (3, .int (x3 + 1)), (4, .int (I (x2 + 2) x3.toNatClampNeg)), (5, .int (I (x2 + 3) x3.toNatClampNeg)), (6, .int 1)]) (Ev.cm _) rfl rfl rfl ?_
            refine w_goto (Ev.cm _) rfl ?_
            show Wp _ _ _ _ _ _ _ 15 [(0, .ref 0), (1, .int x1), (2, .ref x2), (3, .int (x3 + 1)), (4, .int (I (x2 + 2) x3.toNatClampNeg)), (5, .int (I (x2 + 3) x3.toNatClampNeg)), (6, .int 1)] [] (HS I4 L4 X)
            refine Wp.sub [0, 1, 2, 3] (ls2 := [(0, .ref 0), (1, .int x1), (2, .ref x2), (3, .int (x3 + 1))]) rfl ?_
            exact ih _ _ _ _ _ hx2 q
        · have c3_0 : ¬ I (x2 + 1) x3.toNatClampNeg = 30 := sw_w c3_0 (by decide)
          have c3_1 : ¬ I (x2 + 1) x3.toNatClampNeg = 40 := sw_w c3_1 (by decide)
          have c3 : I (x2 + 1) x3.toNatClampNeg = 41 := sw_v c3 (by decide)
          rw [if_neg c3_0, if_neg c3_1, if_pos c3] at q
          show Wp _ _ _ _ _ _ _ 150 [(0, .ref 0), (1, .int x1), (2, .ref x2), (3, .int x3), (4, .int (I (x2 + 2) x3.toNatClampNeg)), (5, .int (I (x2 + 3) x3.toNatClampNeg)), (6, .int 1)] [] (HS I L X)
          refine w_aload_n (Ev.cm _) rfl rfl ?_
          refine w_iload (Ev.cm _) rfl rfl ?_
          refine w_iconst (Ev.cm _) rfl ?_
          refine w_iload (Ev.cm _) rfl rfl ?_
          obtain ⟨⟨r5, I5, L5⟩, e5, q⟩ := obs q
          dsimp only at q
          refine w_cvirt (o := 0) (as := [.int (I (x2 + 3) x3.toNatClampNeg), .int 1, .int (I (x2 + 2) x3.toNatClampNeg)]) (st := []) (Ev.cm _) rfl rfl rfl (Nat.le_of_ble_eq_true rfl) (Nat.le_of_ble_eq_true rfl) rfl (Nat.le_of_ble_eq_true rfl) (eo_X_treadAsStep (g := ?_) e5)
          show Wp _ _ _ _ _ _ _ 159 [(0, .ref 0), (1, .int x1), (2, .ref x2), (3, .int x3), (4, .int (I (x2 + 2) x3.toNatClampNeg)), (5, .int (I (x2 + 3) x3.toNatClampNeg)), (6, .int 1)] [.int r5] (HS I5 L5 X)
          refine w_iconst (Ev.cm _) rfl ?_
          refine w_icmp_eq (Ev.cm _) rfl (fun c8 => ?_) (fun c8 => ?_)
          · have c8 : r5 = (-1) := c8
            rw [if_pos c8] at q
            refine w_iconst (Ev.cm _) rfl ?_
            refine w_istore (ls2 := [(0, .ref 0), (1, .int x1), (2, .ref x2), (3, .int x3), (4, .int (I (x2 + 2) x3.toNatClampNeg)), (5, .int (I (x2 + 3) x3.toNatClampNeg)), (6, .int 0)]) (Ev.cm _) rfl rfl ?_
            refine w_goto (Ev.cm _) rfl ?_
            refine w_iload (Ev.cm _) rfl rfl ?_
            refine w_if_ne (Ev.cm _) rfl (fun q => absurd rfl q) (fun _ => ?_)
            refine w_iload_n (Ev.cm _) rfl rfl ?_
            refine w_ireturn (Ev.cm _) rfl trivial rf0 ?_
            cases q
            exact g
          · have c8 : ¬ (r5 = (-1)) := c8
            rw [if_neg c8] at q
            refine w_iconst (Ev.cm _) rfl ?_
            refine w_goto (Ev.cm _) rfl ?_
            refine w_istore (ls2 := [(0, .ref 0), (1, .int x1), (2, .ref x2), (3, .int x3), (4, .int (I (x2 + 2) x3.toNatClampNeg)), (5, .int (I (x2 + 3) x3.toNatClampNeg)), (6, .int 1)]) (Ev.cm _) rfl rfl ?_
            refine w_goto (Ev.cm _) rfl ?_
            refine w_iload (Ev.cm _) rfl rfl ?_
            refine w_if_ne (Ev.cm _) rfl (fun _ => ?_) (fun q => absurd q (by decide))
            refine w_iinc (ls2 := [(0, .ref 0), (1, .int x1), (2, .ref x2), (3, .int (x3 + 1)), (4, .int (I (x2 + 2) x3.toNatClampNeg)), (5, .int (I (x2 + 3) x3.toNatClampNeg)), (6, .int 1)]) (Ev.cm _) rfl rfl rfl ?_
            refine w_goto (Ev.cm _) rfl ?_
            show Wp _ _ _ _ _ _ _ 15 [(0, .ref 0), (1, .int x1), (2, .ref x2), (3, .int (x3 + 1)), (4, .int (I (x2 + 2) x3.toNatClampNeg)), (5, .int (I (x2 + 3) x3.toNatClampNeg)), (6, .int 1)] [] (HS I5 L5 X)
            refine Wp.sub [0, 1, 2, 3] (ls2 := [(0, .ref 0), (1, .int x1), (2, .ref x2), (3, .int (x3 + 1))]) rfl ?_
            exact ih _ _ _ _ _ hx2 q
        · have c3_0 : ¬ I (x2 + 1) x3.toNatClampNeg = 30 := sw_w c3_0 (by decide)
          have c3_1 : ¬ I (x2 + 1) x3.toNatClampNeg = 40 := sw_w c3_1 (by decide)
          have c3_2 : ¬ I (x2 + 1) x3.toNatClampNeg = 41 := sw_w c3_2 (by decide)
          have c3 : I (x2 + 1) x3.toNatClampNeg = 42 := sw_v c3 (by decide)
          rw [if_neg c3_0, if_neg c3_1, if_neg c3_2, if_pos c3] at q
          show Wp _ _ _ _ _ _ _ 173 [(0, .ref 0), (1, .int x1), (2, .ref x2), (3, .int x3), (4, .int (I (x2 + 2) x3.toNatClampNeg)), (5, .int (I (x2 + 3) x3.toNatClampNeg)), (6, .int 1)] [] (HS I L X)
          refine w_aload_n (Ev.cm _) rfl rfl ?_
          refine w_iload (Ev.cm _) rfl rfl ?_
          refine w_iconst (Ev.cm _) rfl ?_
          refine w_iload (Ev.cm _) rfl rfl ?_
          obtain ⟨⟨r6, I6, L6⟩, e6, q⟩ := obs q
          dsimp only at q
          refine w_cvirt (o := 0) (as := [.int (I (x2 + 3) x3.toNatClampNeg), .int 0, .int (I (x2 + 2) x3.toNatClampNeg)]) (st := []) (Ev.cm _) rfl rfl rfl (Nat.le_of_ble_eq_true rfl) (Nat.le_of_ble_eq_true rfl) rfl (Nat.le_of_ble_eq_true rfl) (eo_X_treadAsStep (g := ?_) e6)
          show Wp _ _ _ _ _ _ _ 182 [(0, .ref 0), (1, .int x1), (2, .ref x2), (3, .int x3), (4, .int (I (x2 + 2) x3.toNatClampNeg)), (5, .int (I (x2 + 3) x3.toNatClampNeg)), (6, .int 1)] [.int r6] (HS I6 L6 X)
          refine w_iconst (Ev.cm _) rfl ?_
          refine w_icmp_eq (Ev.cm _) rfl (fun c11 => ?_) (fun c11 => ?_)
          · have c11 : r6 = (-1) := c11
            rw [if_pos c11] at q
            refine w_iconst (Ev.cm _) rfl ?_
            refine w_istore (ls2 := [(0, .ref 0), (1, .int x1), (2, .ref x2), (3, .int x3), (4, .int (I (x2 + 2) x3.toNatClampNeg)), (5, .int (I (x2 + 3) x3.toNatClampNeg)), (6, .int 0)]) (Ev.cm _) rfl rfl ?_
            refine w_goto (Ev.cm _) rfl ?_
            refine w_iload (Ev.cm _) rfl rfl ?_
            refine w_if_ne (Ev.cm _) rfl (fun q => absurd rfl q) (fun _ => ?_)
            refine w_iload_n (Ev.cm _) rfl rfl ?_
            refine w_ireturn (Ev.cm _) rfl trivial rf0 ?_
            cases q
            exact g
          · have c11 : ¬ (r6 = (-1)) := c11
            rw [if_neg c11] at q
            refine w_iconst (Ev.cm _) rfl ?_
            refine w_goto (Ev.cm _) rfl ?_
            refine w_istore (ls2 := [(0, .ref 0), (1, .int x1), (2, .ref x2), (3, .int x3), (4, .int (I (x2 + 2) x3.toNatClampNeg)), (5, .int (I (x2 + 3) x3.toNatClampNeg)), (6, .int 1)]) (Ev.cm _) rfl rfl ?_
            refine w_goto (Ev.cm _) rfl ?_
            refine w_iload (Ev.cm _) rfl rfl ?_
            refine w_if_ne (Ev.cm _) rfl (fun _ => ?_) (fun q => absurd q (by decide))
            refine w_iinc (ls2 := [(0, .ref 0), (1, .int x1), (2, .ref x2), (3, .int (x3 + 1)), (4, .int (I (x2 + 2) x3.toNatClampNeg)), (5, .int (I (x2 + 3) x3.toNatClampNeg)), (6, .int 1)]) (Ev.cm _) rfl rfl rfl ?_
            refine w_goto (Ev.cm _) rfl ?_
            show Wp _ _ _ _ _ _ _ 15 [(0, .ref 0), (1, .int x1), (2, .ref x2), (3, .int (x3 + 1)), (4, .int (I (x2 + 2) x3.toNatClampNeg)), (5, .int (I (x2 + 3) x3.toNatClampNeg)), (6, .int 1)] [] (HS I6 L6 X)
            refine Wp.sub [0, 1, 2, 3] (ls2 := [(0, .ref 0), (1, .int x1), (2, .ref x2), (3, .int (x3 + 1))]) rfl ?_
            exact ih _ _ _ _ _ hx2 q
        · have c3_0 : ¬ I (x2 + 1) x3.toNatClampNeg = 30 := sw_w c3_0 (by decide)
          have c3_1 : ¬ I (x2 + 1) x3.toNatClampNeg = 40 := sw_w c3_1 (by decide)
          have c3_2 : ¬ I (x2 + 1) x3.toNatClampNeg = 41 := sw_w c3_2 (by decide)
          have c3_3 : ¬ I (x2 + 1) x3.toNatClampNeg = 42 := sw_w c3_3 (by decide)
          have c3 : I (x2 + 1) x3.toNatClampNeg = 43 := sw_v c3 (by decide)
          rw [if_neg c3_0, if_neg c3_1, if_neg c3_2, if_neg c3_3, if_pos c3] at q
          show Wp _ _ _ _ _ _ _ 196 [(0, .ref 0), (1, .int x1), (2, .ref x2), (3, .int x3), (4, .int (I (x2 + 2) x3.toNatClampNeg)), (5, .int (I (x2 + 3) x3.toNatClampNeg)), (6, .int 1)] [] (HS I L X)
          refine w_aload_n (Ev.cm _) rfl rfl ?_
          refine w_iload (Ev.cm _) rfl rfl ?_
          refine w_iconst (Ev.cm _) rfl ?_
          obtain ⟨⟨r7, I7, L7⟩, e7, q⟩ := obs q
          dsimp only at q
          refine w_cvirt (o := 0) (as := [.int (I (x2 + 2) x3.toNatClampNeg), .int 1]) (st := []) (Ev.cm _) rfl rfl rfl (Nat.le_of_ble_eq_true rfl) (Nat.le_of_ble_eq_true rfl) rfl (Nat.le_of_ble_eq_true rfl) (eo_X_hangAsStep (g := ?_) e7)
          show Wp _ _ _ _ _ _ _ 203 [(0, .ref 0), (1, .int x1), (2, .ref x2), (3, .int x3), (4, .int (I (x2 + 2) x3.toNatClampNeg)), (5, .int (I (x2 + 3) x3.toNatClampNeg)), (6, .int 1)] [.int r7] (HS I7 L7 X)
          refine w_istore (ls2 := [(0, .ref 0), (1, .int x1), (2, .ref x2), (3, .int x3), (4, .int (I (x2 + 2) x3.toNatClampNeg)), (5, .int (I (x2 + 3) x3.toNatClampNeg)), (6, .int r7)]) (Ev.cm _) rfl rfl ?_
          refine w_goto (Ev.cm _) rfl ?_
          refine w_iload (Ev.cm _) rfl rfl ?_
          refine w_if_ne (Ev.cm _) rfl (fun c14 => ?_) (fun c14 => ?_)
          · have c14 : ¬ (r7 = 0) := c14
            rw [if_neg c14] at q
            refine w_iinc (ls2 := [(0, .ref 0), (1, .int x1), (2, .ref x2), (3, .int (x3 + 1)), (4, .int (I (x2 + 2) x3.toNatClampNeg)), (5, .int (I (x2 + 3) x3.toNatClampNeg)), (6, .int r7)]) (Ev.cm _) rfl rfl rfl ?_
            refine w_goto (Ev.cm _) rfl ?_
            show Wp _ _ _ _ _ _ _ 15 [(0, .ref 0), (1, .int x1), (2, .ref x2), (3, .int (x3 + 1)), (4, .int (I (x2 + 2) x3.toNatClampNeg)), (5, .int (I (x2 + 3) x3.toNatClampNeg)), (6, .int r7)] [] (HS I7 L7 X)
            refine Wp.sub [0, 1, 2, 3] (ls2 := [(0, .ref 0), (1, .int x1), (2, .ref x2), (3, .int (x3 + 1))]) rfl ?_
            exact ih _ _ _ _ _ hx2 q
          · have c14 : r7 = 0 := c14
            rw [if_pos c14] at q
            refine w_iload_n (Ev.cm _) rfl rfl ?_
            refine w_ireturn (Ev.cm _) rfl trivial rf0 ?_
            cases q
            exact g
        · have c3_0 : ¬ I (x2 + 1) x3.toNatClampNeg = 30 := sw_w c3_0 (by decide)
          have c3_1 : ¬ I (x2 + 1) x3.toNatClampNeg = 40 := sw_w c3_1 (by decide)
          have c3_2 : ¬ I (x2 + 1) x3.toNatClampNeg = 41 := sw_w c3_2 (by decide)
          have c3_3 : ¬ I (x2 + 1) x3.toNatClampNeg = 42 := sw_w c3_3 (by decide)
          have c3_4 : ¬ I (x2 + 1) x3.toNatClampNeg = 43 := sw_w c3_4 (by decide)
          have c3 : I (x2 + 1) x3.toNatClampNeg = 44 := sw_v c3 (by decide)
          rw [if_neg c3_0, if_neg c3_1, if_neg c3_2, if_neg c3_3, if_neg c3_4, if_pos c3] at q
          show Wp _ _ _ _ _ _ _ 208 [(0, .ref 0), (1, .int x1), (2, .ref x2), (3, .int x3), (4, .int (I (x2 + 2) x3.toNatClampNeg)), (5, .int (I (x2 + 3) x3.toNatClampNeg)), (6, .int 1)] [] (HS I L X)
          refine w_aload_n (Ev.cm _) rfl rfl ?_
          refine w_iload (Ev.cm _) rfl rfl ?_
          refine w_iconst (Ev.cm _) rfl ?_
          obtain ⟨⟨r8, I8, L8⟩, e8, q⟩ := obs q
          dsimp only at q
          refine w_cvirt (o := 0) (as := [.int (I (x2 + 2) x3.toNatClampNeg), .int 0]) (st := []) (Ev.cm _) rfl rfl rfl (Nat.le_of_ble_eq_true rfl) (Nat.le_of_ble_eq_true rfl) rfl (Nat.le_of_ble_eq_true rfl) (eo_X_hangAsStep (g := ?_) e8)
          show Wp _ _ _ _ _ _ _ 215 [(0, .ref 0), (1, .int x1), (2, .ref x2), (3, .int x3), (4, .int (I (x2 + 2) x3.toNatClampNeg)), (5, .int (I (x2 + 3) x3.toNatClampNeg)), (6, .int 1)] [.int r8] (HS I8 L8 X)
          refine w_istore (ls2 := [(0, .ref 0), (1, .int x1), (2, .ref x2), (3, .int x3), (4, .int (I (x2 + 2) x3.toNatClampNeg)), (5, .int (I (x2 + 3) x3.toNatClampNeg)), (6, .int r8)]) (Ev.cm _) rfl rfl ?_
          refine w_goto (Ev.cm _) rfl ?_
          refine w_iload (Ev.cm _) rfl rfl ?_
          refine w_if_ne (Ev.cm _) rfl (fun c15 => ?_) (fun c15 => ?_)
          · have c15 : ¬ (r8 = 0) := c15
            rw [if_neg c15] at q
            refine w_iinc (ls2 := [(0, .ref 0), (1, .int x1), (2, .ref x2), (3, .int (x3 + 1)), (4, .int (I (x2 + 2) x3.toNatClampNeg)), (5, .int (I (x2 + 3) x3.toNatClampNeg)), (6, .int r8)]) (Ev.cm _) rfl rfl rfl ?_
            refine w_goto (Ev.cm _) rfl ?_
            show Wp _ _ _ _ _ _ _ 15 [(0, .ref 0), (1, .int x1), (2, .ref x2), (3, .int (x3 + 1)), (4, .int (I (x2 + 2) x3.toNatClampNeg)), (5, .int (I (x2 + 3) x3.toNatClampNeg)), (6, .int r8)] [] (HS I8 L8 X)
            refine Wp.sub [0, 1, 2, 3] (ls2 := [(0, .ref 0), (1, .int x1), (2, .ref x2), (3, .int (x3 + 1))]) rfl ?_
            exact ih _ _ _ _ _ hx2 q
          · have c15 : r8 = 0 := c15
            rw [if_pos c15] at q
            refine w_iload_n (Ev.cm _) rfl rfl ?_
            refine w_ireturn (Ev.cm _) rfl trivial rf0 ?_
            cases q
            exact g
        · have c3_0 : ¬ I (x2 + 1) x3.toNatClampNeg = 30 := sw_w c3_0 (by decide)
          have c3_1 : ¬ I (x2 + 1) x3.toNatClampNeg = 40 := sw_w c3_1 (by decide)
          have c3_2 : ¬ I (x2 + 1) x3.toNatClampNeg = 41 := sw_w c3_2 (by decide)
          have c3_3 : ¬ I (x2 + 1) x3.toNatClampNeg = 42 := sw_w c3_3 (by decide)
          have c3_4 : ¬ I (x2 + 1) x3.toNatClampNeg = 43 := sw_w c3_4 (by decide)
          have c3_5 : ¬ I (x2 + 1) x3.toNatClampNeg = 44 := sw_w c3_5 (by decide)
          rw [if_neg c3_0, if_neg c3_1, if_neg c3_2, if_neg c3_3, if_neg c3_4, if_neg c3_5] at q
          show Wp _ _ _ _ _ _ _ 303 [(0, .ref 0), (1, .int x1), (2, .ref x2), (3, .int x3), (4, .int (I (x2 + 2) x3.toNatClampNeg)), (5, .int (I (x2 + 3) x3.toNatClampNeg)), (6, .int 1)] [] (HS I L X)
          refine w_iload (Ev.cm _) rfl rfl ?_
          refine w_if_ne (Ev.cm _) rfl (fun _ => ?_) (fun q => absurd q (by decide))
          refine w_iinc (ls2 := [(0, .ref 0), (1, .int x1), (2, .ref x2), (3, .int (x3 + 1)), (4, .int (I (x2 + 2) x3.toNatClampNeg)), (5, .int (I (x2 + 3) x3.toNatClampNeg)), (6, .int 1)]) (Ev.cm _) rfl rfl rfl ?_
          refine w_goto (Ev.cm _) rfl ?_
          show Wp _ _ _ _ _ _ _ 15 [(0, .ref 0), (1, .int x1), (2, .ref x2), (3, .int (x3 + 1)), (4, .int (I (x2 + 2) x3.toNatClampNeg)), (5, .int (I (x2 + 3) x3.toNatClampNeg)), (6, .int 1)] [] (HS I L X)
          refine Wp.sub [0, 1, 2, 3] (ls2 := [(0, .ref 0), (1, .int x1), (2, .ref x2), (3, .int (x3 + 1))]) rfl ?_
          exact ih _ _ _ _ _ hx2 q
def FO_X_played (fu : Nat) (p0 : Int32) (I : Nat → Nat → Int32) (L : Nat → Nat → Int64) : Option (Int32 × (Nat → Nat → Int32) × (Nat → Nat → Int64)) := if isLib I p0 then (LO_X_played_15 fu fu p0 (274 + 8 * p0.toNatClampNeg) 0 I L) else (some ((-2), I, L))
set_option maxHeartbeats 20000000 in
set_option maxRecDepth 20000 in
theorem eo_X_played {d fu : Nat} {p0 : Int32} {I : Nat → Nat → Int32} {L : Nat → Nat → Int64} {X : Nat × (Nat → Int32)} {Q : PQ} {res : Int32 × (Nat → Nat → Int32) × (Nat → Nat → Int64)}  (g : Q (some (.int res.1)) (HS res.2.1 res.2.2 X)) (q : FO_X_played fu p0 I L = some res) : Ev (d + 8) m_X_played [.ref 0, .int p0] (HS I L X) Q := by
  unfold FO_X_played at q
  refine ev_start (d := d + 7) rfl rfl rfl (Nat.le_of_ble_eq_true rfl) ?_
  show Wp (Ev (d + 7)) cd_X_played (0, 0) (some .int) _ _ Q 0 [(0, .ref 0), (1, .int p0)] [] (HS I L X)
  refine w_aload_n (Ev.cm _) rfl rfl ?_
  refine w_iload_n (Ev.cm _) rfl rfl ?_
  rcases Decidable.em (isLib I p0) with c1 | c1
  · rw [if_pos c1] at q
    refine w_cvirt (o := 0) (as := [.int p0]) (st := []) (Ev.cm _) rfl rfl rfl (Nat.le_of_ble_eq_true rfl) (Nat.le_of_ble_eq_true rfl) rfl (Nat.le_of_ble_eq_true rfl) (x_textOf_t c1 ?_)
    show Wp _ _ _ _ _ _ _ 5 [(0, .ref 0), (1, .int p0)] [.ref (274 + 8 * p0.toNatClampNeg)] (HS I L X)
    refine w_astore_n (ls2 := [(0, .ref 0), (1, .int p0), (2, .ref (274 + 8 * p0.toNatClampNeg))]) (Ev.cm _) rfl trivial rfl ?_
    refine w_aload_n (Ev.cm _) rfl rfl ?_
    refine w_ifnonnull (Ev.cm _) rfl ?_
    refine w_iconst (Ev.cm _) rfl ?_
    refine w_istore_n (ls2 := [(0, .ref 0), (1, .int p0), (2, .ref (274 + 8 * p0.toNatClampNeg)), (3, .int 0)]) (Ev.cm _) rfl rfl ?_
    show Wp _ _ _ _ _ _ _ 15 [(0, .ref 0), (1, .int p0), (2, .ref (274 + 8 * p0.toNatClampNeg)), (3, .int 0)] [] (HS I L X)
    refine Wp.sub [0, 1, 2, 3] (ls2 := [(0, .ref 0), (1, .int p0), (2, .ref (274 + 8 * p0.toNatClampNeg)), (3, .int 0)]) rfl ?_
    exact lo_X_played_15 g fu _ _ _ _ _ (isT_lib c1) q
  · rw [if_neg c1] at q
    refine w_cvirt (o := 0) (as := [.int p0]) (st := []) (Ev.cm _) rfl rfl rfl (Nat.le_of_ble_eq_true rfl) (Nat.le_of_ble_eq_true rfl) rfl (Nat.le_of_ble_eq_true rfl) (x_textOf_n c1 ?_)
    show Wp _ _ _ _ _ _ _ 5 [(0, .ref 0), (1, .int p0)] [.null] (HS I L X)
    refine w_astore_n (ls2 := [(0, .ref 0), (1, .int p0), (2, .null)]) (Ev.cm _) rfl trivial rfl ?_
    refine w_aload_nN (Ev.cm _) rfl rfl ?_
    refine w_ifnonnullN (Ev.cm _) rfl ?_
    refine w_bipush (Ev.cm _) rfl ?_
    refine w_ireturn (Ev.cm _) rfl trivial rf0 ?_
    cases q
    exact g
def LO_R_either_8 (fu : Nat) (kO : Int32 → Int32 → (Nat → Nat → Int32) → (Nat → Nat → Int64) → Option (Int32 × (Nat → Nat → Int32) × (Nat → Nat → Int64))) (kA : Int32 → (Nat → Nat → Int32) → (Nat → Nat → Int64) → Option (Int32 × (Nat → Nat → Int32) × (Nat → Nat → Int64))) : Nat → Int32 → Int32 → Int32 → (Nat → Nat → Int32) → (Nat → Nat → Int64) → Option (Int32 × (Nat → Nat → Int32) × (Nat → Nat → Int64))
  | 0, _, _, _, _, _ => none
  | n + 1, x1, x2, x3, I, L => if 300 < x3 then (if x2 = 0 ∨ x2 = 1 then (some (x2, I, L)) else none) else (if x2 = 0 then (if x2 = 0 ∨ x2 = 1 then (some (x2, I, L)) else none) else (if I 307 9 = 51 then ((FO_R_comeTo fu ((I 307 8) + 1) I L).bind (fun u4 => let r4 := u4.1; let I4 := u4.2.1; let L4 := u4.2.2; (FO_R_both fu kO kA x1 I4 L4).bind (fun u5 => let r5 := u5.1; let I5 := u5.2.1; let L5 := u5.2.2; (FO_T_addCode fu 51 0 I5 L5).bind (fun u6 => let r6 := u6.1; let I6 := u6.2.1; let L6 := u6.2.2; LO_R_either_8 fu kO kA n x1 r5 (x3 + 1) I6 L6)))) else (if x2 = 0 ∨ x2 = 1 then (some (x2, I, L)) else none)))
set_option maxHeartbeats 20000000 in
set_option maxRecDepth 20000 in
theorem lo_R_either_8 {d fu n0 s0 : Nat} {kO : Int32 → Int32 → (Nat → Nat → Int32) → (Nat → Nat → Int64) → Option (Int32 × (Nat → Nat → Int32) × (Nat → Nat → Int64))} {kA : Int32 → (Nat → Nat → Int32) → (Nat → Nat → Int64) → Option (Int32 × (Nat → Nat → Int32) × (Nat → Nat → Int64))} {X : Nat × (Nat → Int32)} {Q : PQ} {res : Int32 × (Nat → Nat → Int32) × (Nat → Nat → Int64)}  (hO : cbO (d + 4) kO) (hA : cbA (d + 4) kA) (g : Q (some (.int res.1)) (HS res.2.1 res.2.2 X)) : ∀ (n : Nat) (x1 : Int32) (x2 : Int32) (x3 : Int32) (I : Nat → Nat → Int32) (L : Nat → Nat → Int64), LO_R_either_8 fu kO kA n x1 x2 x3 I L = some res → Wp (Ev (d + 9)) cd_R_either (0, 0) (some .boolean) n0 s0 Q 8 [(0, .ref 307), (1, .int x1), (2, .int x2), (3, .int x3)] [] (HS I L X) := by
  intro n
  induction n with
  | zero => intro _ _ _ _ _ q; cases q
  | succ n ih =>
    intro x1 x2 x3 I L q
    unfold LO_R_either_8 at q
    refine w_iload_n (Ev.cm _) rfl rfl ?_
    refine w_sipush (Ev.cm _) rfl ?_
    refine w_icmp_gt (Ev.cm _) rfl (fun c1 => ?_) (fun c1 => ?_)
    · have c1 : 300 < x3 := c1
      rw [if_pos c1] at q
      refine w_iload_n (Ev.cm _) rfl rfl ?_
      obtain ⟨b1, q⟩ := ois q
      refine w_ireturn (Ev.cm _) rfl (show rok (some .boolean) _ from b1) rf0 ?_
      cases q
      exact g
    · have c1 : ¬ (300 < x3) := c1
      rw [if_neg c1] at q
      refine w_iload_n (Ev.cm _) rfl rfl ?_
      refine w_if_eq (Ev.cm _) rfl (fun c2 => ?_) (fun c2 => ?_)
      · have c2 : x2 = 0 := c2
        rw [if_pos c2] at q
        refine w_iload_n (Ev.cm _) rfl rfl ?_
        obtain ⟨b2, q⟩ := ois q
        refine w_ireturn (Ev.cm _) rfl (show rok (some .boolean) _ from b2) rf0 ?_
        cases q
        exact g
      · have c2 : ¬ (x2 = 0) := c2
        rw [if_neg c2] at q
        refine w_aload_n (Ev.cm _) rfl rfl ?_
        refine w_getI (Ev.cm _) rfl (Nat.le_of_ble_eq_true rfl) rfl ?_
        refine w_bipush (Ev.cm _) rfl ?_
        refine w_icmp_ne (Ev.cm _) rfl (fun c3 => ?_) (fun c3 => ?_)
        · have c3 : ¬ (I 307 9 = 51) := c3
          rw [if_neg c3] at q
          refine w_iload_n (Ev.cm _) rfl rfl ?_
          obtain ⟨b3, q⟩ := ois q
          refine w_ireturn (Ev.cm _) rfl (show rok (some .boolean) _ from b3) rf0 ?_
          cases q
          exact g
        · have c3 : I 307 9 = 51 := c3
          rw [if_pos c3] at q
          refine w_aload_n (Ev.cm _) rfl rfl ?_
          refine w_aload_n (Ev.cm _) rfl rfl ?_
          refine w_getI (Ev.cm _) rfl (Nat.le_of_ble_eq_true rfl) rfl ?_
          refine w_iconst (Ev.cm _) rfl ?_
          refine w_iadd (Ev.cm _) rfl ?_
          obtain ⟨⟨r4, I4, L4⟩, e4, q⟩ := obs q
          dsimp only at q
          refine w_cvirt (o := 307) (as := [.int ((I 307 8) + 1)]) (st := []) (Ev.cm _) rfl rfl rfl (Nat.le_of_ble_eq_true rfl) (Nat.le_of_ble_eq_true rfl) rfl (Nat.le_of_ble_eq_true rfl) (eo_R_comeTo (g := ?_) e4)
          show Wp _ _ _ _ _ _ _ 38 [(0, .ref 307), (1, .int x1), (2, .int x2), (3, .int x3)] [] (HS I4 L4 X)
          refine w_aload_n (Ev.cm _) rfl rfl ?_
          refine w_iload_n (Ev.cm _) rfl rfl ?_
          obtain ⟨⟨r5, I5, L5⟩, e5, q⟩ := obs q
          dsimp only at q
          refine w_cvirt (o := 307) (as := [.int x1]) (st := []) (Ev.cm _) rfl rfl rfl (Nat.le_of_ble_eq_true rfl) (Nat.le_of_ble_eq_true rfl) rfl (Nat.le_of_ble_eq_true rfl) (ev_le (show d + 9 ≤ d + 9 by omega) (eo_R_both (d := d) hO hA (g := ?_) e5))
          show Wp _ _ _ _ _ _ _ 43 [(0, .ref 307), (1, .int x1), (2, .int x2), (3, .int x3)] [.int r5] (HS I5 L5 X)
          refine w_istore_n (ls2 := [(0, .ref 307), (1, .int x1), (2, .int r5), (3, .int x3)]) (Ev.cm _) rfl rfl ?_
          refine w_aload_n (Ev.cm _) rfl rfl ?_
          refine w_getR (q := 308) (Ev.cm _) rfl (Nat.le_of_ble_eq_true rfl) rfl rfl ?_
          refine w_bipush (Ev.cm _) rfl ?_
          refine w_iconst (Ev.cm _) rfl ?_
          obtain ⟨⟨r6, I6, L6⟩, e6, q⟩ := obs q
          dsimp only at q
          refine w_cvirt (o := 308) (as := [.int 51, .int 0]) (st := []) (Ev.cm _) rfl rfl rfl (Nat.le_of_ble_eq_true rfl) (Nat.le_of_ble_eq_true rfl) rfl (Nat.le_of_ble_eq_true rfl) (eo_T_addCode (g := ?_) e6)
          show Wp _ _ _ _ _ _ _ 54 [(0, .ref 307), (1, .int x1), (2, .int r5), (3, .int x3)] [.int r6] (HS I6 L6 X)
          refine w_pop (Ev.cm _) rfl rfl ?_
          refine w_iinc (ls2 := [(0, .ref 307), (1, .int x1), (2, .int r5), (3, .int (x3 + 1))]) (Ev.cm _) rfl rfl rfl ?_
          refine w_goto (Ev.cm _) rfl ?_
          show Wp _ _ _ _ _ _ _ 8 [(0, .ref 307), (1, .int x1), (2, .int r5), (3, .int (x3 + 1))] [] (HS I6 L6 X)
          refine Wp.sub [0, 1, 2, 3] (ls2 := [(0, .ref 307), (1, .int x1), (2, .int r5), (3, .int (x3 + 1))]) rfl ?_
          exact ih _ _ _ _ _ q
def FO_R_either (fu : Nat) (kO : Int32 → Int32 → (Nat → Nat → Int32) → (Nat → Nat → Int64) → Option (Int32 × (Nat → Nat → Int32) × (Nat → Nat → Int64))) (kA : Int32 → (Nat → Nat → Int32) → (Nat → Nat → Int64) → Option (Int32 × (Nat → Nat → Int32) × (Nat → Nat → Int64))) (p0 : Int32) (I : Nat → Nat → Int32) (L : Nat → Nat → Int64) : Option (Int32 × (Nat → Nat → Int32) × (Nat → Nat → Int64)) := (FO_R_both fu kO kA p0 I L).bind (fun u1 => let r1 := u1.1; let I1 := u1.2.1; let L1 := u1.2.2; LO_R_either_8 fu kO kA fu p0 r1 0 I1 L1)
set_option maxHeartbeats 20000000 in
set_option maxRecDepth 20000 in
theorem eo_R_either {d fu : Nat} {kO : Int32 → Int32 → (Nat → Nat → Int32) → (Nat → Nat → Int64) → Option (Int32 × (Nat → Nat → Int32) × (Nat → Nat → Int64))} {kA : Int32 → (Nat → Nat → Int32) → (Nat → Nat → Int64) → Option (Int32 × (Nat → Nat → Int32) × (Nat → Nat → Int64))} {p0 : Int32} {I : Nat → Nat → Int32} {L : Nat → Nat → Int64} {X : Nat × (Nat → Int32)} {Q : PQ} {res : Int32 × (Nat → Nat → Int32) × (Nat → Nat → Int64)}  (hO : cbO (d + 4) kO) (hA : cbA (d + 4) kA) (g : Q (some (.int res.1)) (HS res.2.1 res.2.2 X)) (q : FO_R_either fu kO kA p0 I L = some res) : Ev (d + 10) m_R_either [.ref 307, .int p0] (HS I L X) Q := by
  unfold FO_R_either at q
  refine ev_start (d := d + 9) rfl rfl rfl (Nat.le_of_ble_eq_true rfl) ?_
  show Wp (Ev (d + 9)) cd_R_either (0, 0) (some .boolean) _ _ Q 0 [(0, .ref 307), (1, .int p0)] [] (HS I L X)
  refine w_aload_n (Ev.cm _) rfl rfl ?_
  refine w_iload_n (Ev.cm _) rfl rfl ?_
  obtain ⟨⟨r1, I1, L1⟩, e1, q⟩ := obs q
  dsimp only at q
  refine w_cvirt (o := 307) (as := [.int p0]) (st := []) (Ev.cm _) rfl rfl rfl (Nat.le_of_ble_eq_true rfl) (Nat.le_of_ble_eq_true rfl) rfl (Nat.le_of_ble_eq_true rfl) (ev_le (show d + 9 ≤ d + 9 by omega) (eo_R_both (d := d) hO hA (g := ?_) e1))
  show Wp _ _ _ _ _ _ _ 5 [(0, .ref 307), (1, .int p0)] [.int r1] (HS I1 L1 X)
  refine w_istore_n (ls2 := [(0, .ref 307), (1, .int p0), (2, .int r1)]) (Ev.cm _) rfl rfl ?_
  refine w_iconst (Ev.cm _) rfl ?_
  refine w_istore_n (ls2 := [(0, .ref 307), (1, .int p0), (2, .int r1), (3, .int 0)]) (Ev.cm _) rfl rfl ?_
  show Wp _ _ _ _ _ _ _ 8 [(0, .ref 307), (1, .int p0), (2, .int r1), (3, .int 0)] [] (HS I1 L1 X)
  refine Wp.sub [0, 1, 2, 3] (ls2 := [(0, .ref 307), (1, .int p0), (2, .int r1), (3, .int 0)]) rfl ?_
  exact lo_R_either_8 hO hA g fu _ _ _ _ _ q
def FO_R_choice (fu : Nat) (kO : Int32 → Int32 → (Nat → Nat → Int32) → (Nat → Nat → Int64) → Option (Int32 × (Nat → Nat → Int32) × (Nat → Nat → Int64))) (kA : Int32 → (Nat → Nat → Int32) → (Nat → Nat → Int64) → Option (Int32 × (Nat → Nat → Int32) × (Nat → Nat → Int64))) (p0 : Int32) (I : Nat → Nat → Int32) (L : Nat → Nat → Int64) : Option (Int32 × (Nat → Nat → Int32) × (Nat → Nat → Int64)) := (FO_R_either fu kO kA p0 I L).bind (fun u1 => let r1 := u1.1; let I1 := u1.2.1; let L1 := u1.2.2; if r1 = 0 then (some (0, I1, L1)) else ((FO_R_pass fu 48 I1 L1).bind (fun u2 => let r2 := u2.1; let I2 := u2.2.1; let L2 := u2.2.2; if r2 = 0 then (some (0, I2, L2)) else ((FO_T_addCode fu 63 0 I2 L2).bind (fun u3 => let r3 := u3.1; let I3 := u3.2.1; let L3 := u3.2.2; (FO_R_sum fu kO kA p0 I3 L3).bind (fun u4 => let r4 := u4.1; let I4 := u4.2.1; let L4 := u4.2.2; if r4 = 0 then (some (0, I4, L4)) else ((FO_R_pass fu 49 I4 L4).bind (fun u5 => let r5 := u5.1; let I5 := u5.2.1; let L5 := u5.2.2; if r5 = 0 then (some (0, I5, L5)) else ((FO_T_addCode fu 62 0 I5 L5).bind (fun u6 => let r6 := u6.1; let I6 := u6.2.1; let L6 := u6.2.2; (FO_T_jumpToHere fu r3 I6 L6).bind (fun u7 => let r7 := u7.1; let I7 := u7.2.1; let L7 := u7.2.2; (FO_R_sum fu kO kA p0 I7 L7).bind (fun u8 => let r8 := u8.1; let I8 := u8.2.1; let L8 := u8.2.2; if r8 = 0 then (some (0, I8, L8)) else ((FO_R_pass fu 50 I8 L8).bind (fun u9 => let r9 := u9.1; let I9 := u9.2.1; let L9 := u9.2.2; if r9 = 0 then (some (0, I9, L9)) else ((FO_T_jumpToHere fu r6 I9 L9).bind (fun u10 => let r10 := u10.1; let I10 := u10.2.1; let L10 := u10.2.2; some (1, I10, L10)))))))))))))))))
set_option maxHeartbeats 20000000 in
set_option maxRecDepth 20000 in
theorem eo_R_choice {d fu : Nat} {kO : Int32 → Int32 → (Nat → Nat → Int32) → (Nat → Nat → Int64) → Option (Int32 × (Nat → Nat → Int32) × (Nat → Nat → Int64))} {kA : Int32 → (Nat → Nat → Int32) → (Nat → Nat → Int64) → Option (Int32 × (Nat → Nat → Int32) × (Nat → Nat → Int64))} {p0 : Int32} {I : Nat → Nat → Int32} {L : Nat → Nat → Int64} {X : Nat × (Nat → Int32)} {Q : PQ} {res : Int32 × (Nat → Nat → Int32) × (Nat → Nat → Int64)}  (hO : cbO (d + 4) kO) (hA : cbA (d + 4) kA) (g : Q (some (.int res.1)) (HS res.2.1 res.2.2 X)) (q : FO_R_choice fu kO kA p0 I L = some res) : Ev (d + 11) m_R_choice [.ref 307, .int p0] (HS I L X) Q := by
  unfold FO_R_choice at q
  refine ev_start (d := d + 10) rfl rfl rfl (Nat.le_of_ble_eq_true rfl) ?_
  show Wp (Ev (d + 10)) cd_R_choice (0, 0) (some .boolean) _ _ Q 0 [(0, .ref 307), (1, .int p0)] [] (HS I L X)
  refine w_aload_n (Ev.cm _) rfl rfl ?_
  refine w_iload_n (Ev.cm _) rfl rfl ?_
  obtain ⟨⟨r1, I1, L1⟩, e1, q⟩ := obs q
  dsimp only at q
  refine w_cvirt (o := 307) (as := [.int p0]) (st := []) (Ev.cm _) rfl rfl rfl (Nat.le_of_ble_eq_true rfl) (Nat.le_of_ble_eq_true rfl) rfl (Nat.le_of_ble_eq_true rfl) (ev_le (show d + 10 ≤ d + 10 by omega) (eo_R_either (d := d) hO hA (g := ?_) e1))
  show Wp _ _ _ _ _ _ _ 5 [(0, .ref 307), (1, .int p0)] [.int r1] (HS I1 L1 X)
  refine w_if_eq (Ev.cm _) rfl (fun c1 => ?_) (fun c1 => ?_)
  · have c1 : r1 = 0 := c1
    rw [if_pos c1] at q
    refine w_iconst (Ev.cm _) rfl ?_
    refine w_ireturn (Ev.cm _) rfl (by first | exact rok_0 | exact rok_1 | exact rok_b) rf0 ?_
    cases q
    exact g
  · have c1 : ¬ (r1 = 0) := c1
    rw [if_neg c1] at q
    refine w_aload_n (Ev.cm _) rfl rfl ?_
    refine w_bipush (Ev.cm _) rfl ?_
    obtain ⟨⟨r2, I2, L2⟩, e2, q⟩ := obs q
    dsimp only at q
    refine w_cvirt (o := 307) (as := [.int 48]) (st := []) (Ev.cm _) rfl rfl rfl (Nat.le_of_ble_eq_true rfl) (Nat.le_of_ble_eq_true rfl) rfl (Nat.le_of_ble_eq_true rfl) (eo_R_pass (g := ?_) e2)
    show Wp _ _ _ _ _ _ _ 14 [(0, .ref 307), (1, .int p0)] [.int r2] (HS I2 L2 X)
    refine w_if_ne (Ev.cm _) rfl (fun c2 => ?_) (fun c2 => ?_)
    · have c2 : ¬ (r2 = 0) := c2
      rw [if_neg c2] at q
      refine w_aload_n (Ev.cm _) rfl rfl ?_
      refine w_getR (q := 308) (Ev.cm _) rfl (Nat.le_of_ble_eq_true rfl) rfl rfl ?_
      refine w_bipush (Ev.cm _) rfl ?_
      refine w_iconst (Ev.cm _) rfl ?_
      obtain ⟨⟨r3, I3, L3⟩, e3, q⟩ := obs q
      dsimp only at q
      refine w_cvirt (o := 308) (as := [.int 63, .int 0]) (st := []) (Ev.cm _) rfl rfl rfl (Nat.le_of_ble_eq_true rfl) (Nat.le_of_ble_eq_true rfl) rfl (Nat.le_of_ble_eq_true rfl) (eo_T_addCode (g := ?_) e3)
      show Wp _ _ _ _ _ _ _ 29 [(0, .ref 307), (1, .int p0)] [.int r3] (HS I3 L3 X)
      refine w_istore_n (ls2 := [(0, .ref 307), (1, .int p0), (2, .int r3)]) (Ev.cm _) rfl rfl ?_
      refine w_aload_n (Ev.cm _) rfl rfl ?_
      refine w_iload_n (Ev.cm _) rfl rfl ?_
      obtain ⟨⟨r4, I4, L4⟩, e4, q⟩ := obs q
      dsimp only at q
      refine w_cvirt (o := 307) (as := [.int p0]) (st := []) (Ev.cm _) rfl rfl rfl (Nat.le_of_ble_eq_true rfl) (Nat.le_of_ble_eq_true rfl) rfl (Nat.le_of_ble_eq_true rfl) (ev_le (show d + 7 ≤ d + 10 by omega) (eo_R_sum (d := d) hO hA (g := ?_) e4))
      show Wp _ _ _ _ _ _ _ 35 [(0, .ref 307), (1, .int p0), (2, .int r3)] [.int r4] (HS I4 L4 X)
      refine w_if_eq (Ev.cm _) rfl (fun c3 => ?_) (fun c3 => ?_)
      · have c3 : r4 = 0 := c3
        rw [if_pos c3] at q
        refine w_iconst (Ev.cm _) rfl ?_
        refine w_ireturn (Ev.cm _) rfl (by first | exact rok_0 | exact rok_1 | exact rok_b) rf0 ?_
        cases q
        exact g
      · have c3 : ¬ (r4 = 0) := c3
        rw [if_neg c3] at q
        refine w_aload_n (Ev.cm _) rfl rfl ?_
        refine w_bipush (Ev.cm _) rfl ?_
        obtain ⟨⟨r5, I5, L5⟩, e5, q⟩ := obs q
        dsimp only at q
        refine w_cvirt (o := 307) (as := [.int 49]) (st := []) (Ev.cm _) rfl rfl rfl (Nat.le_of_ble_eq_true rfl) (Nat.le_of_ble_eq_true rfl) rfl (Nat.le_of_ble_eq_true rfl) (eo_R_pass (g := ?_) e5)
        show Wp _ _ _ _ _ _ _ 44 [(0, .ref 307), (1, .int p0), (2, .int r3)] [.int r5] (HS I5 L5 X)
        refine w_if_ne (Ev.cm _) rfl (fun c4 => ?_) (fun c4 => ?_)
        · have c4 : ¬ (r5 = 0) := c4
          rw [if_neg c4] at q
          refine w_aload_n (Ev.cm _) rfl rfl ?_
          refine w_getR (q := 308) (Ev.cm _) rfl (Nat.le_of_ble_eq_true rfl) rfl rfl ?_
          refine w_bipush (Ev.cm _) rfl ?_
          refine w_iconst (Ev.cm _) rfl ?_
          obtain ⟨⟨r6, I6, L6⟩, e6, q⟩ := obs q
          dsimp only at q
          refine w_cvirt (o := 308) (as := [.int 62, .int 0]) (st := []) (Ev.cm _) rfl rfl rfl (Nat.le_of_ble_eq_true rfl) (Nat.le_of_ble_eq_true rfl) rfl (Nat.le_of_ble_eq_true rfl) (eo_T_addCode (g := ?_) e6)
          show Wp _ _ _ _ _ _ _ 59 [(0, .ref 307), (1, .int p0), (2, .int r3)] [.int r6] (HS I6 L6 X)
          refine w_istore_n (ls2 := [(0, .ref 307), (1, .int p0), (2, .int r3), (3, .int r6)]) (Ev.cm _) rfl rfl ?_
          refine w_aload_n (Ev.cm _) rfl rfl ?_
          refine w_getR (q := 308) (Ev.cm _) rfl (Nat.le_of_ble_eq_true rfl) rfl rfl ?_
          refine w_iload_n (Ev.cm _) rfl rfl ?_
          obtain ⟨⟨r7, I7, L7⟩, e7, q⟩ := obs q
          dsimp only at q
          refine w_cvirt (o := 308) (as := [.int r3]) (st := []) (Ev.cm _) rfl rfl rfl (Nat.le_of_ble_eq_true rfl) (Nat.le_of_ble_eq_true rfl) rfl (Nat.le_of_ble_eq_true rfl) (eo_T_jumpToHere (g := ?_) e7)
          show Wp _ _ _ _ _ _ _ 68 [(0, .ref 307), (1, .int p0), (2, .int r3), (3, .int r6)] [] (HS I7 L7 X)
          refine w_aload_n (Ev.cm _) rfl rfl ?_
          refine w_iload_n (Ev.cm _) rfl rfl ?_
          obtain ⟨⟨r8, I8, L8⟩, e8, q⟩ := obs q
          dsimp only at q
          refine w_cvirt (o := 307) (as := [.int p0]) (st := []) (Ev.cm _) rfl rfl rfl (Nat.le_of_ble_eq_true rfl) (Nat.le_of_ble_eq_true rfl) rfl (Nat.le_of_ble_eq_true rfl) (ev_le (show d + 7 ≤ d + 10 by omega) (eo_R_sum (d := d) hO hA (g := ?_) e8))
          show Wp _ _ _ _ _ _ _ 73 [(0, .ref 307), (1, .int p0), (2, .int r3), (3, .int r6)] [.int r8] (HS I8 L8 X)
          refine w_if_eq (Ev.cm _) rfl (fun c5 => ?_) (fun c5 => ?_)
          · have c5 : r8 = 0 := c5
            rw [if_pos c5] at q
            refine w_iconst (Ev.cm _) rfl ?_
            refine w_ireturn (Ev.cm _) rfl (by first | exact rok_0 | exact rok_1 | exact rok_b) rf0 ?_
            cases q
            exact g
          · have c5 : ¬ (r8 = 0) := c5
            rw [if_neg c5] at q
            refine w_aload_n (Ev.cm _) rfl rfl ?_
            refine w_bipush (Ev.cm _) rfl ?_
            obtain ⟨⟨r9, I9, L9⟩, e9, q⟩ := obs q
            dsimp only at q
            refine w_cvirt (o := 307) (as := [.int 50]) (st := []) (Ev.cm _) rfl rfl rfl (Nat.le_of_ble_eq_true rfl) (Nat.le_of_ble_eq_true rfl) rfl (Nat.le_of_ble_eq_true rfl) (eo_R_pass (g := ?_) e9)
            show Wp _ _ _ _ _ _ _ 82 [(0, .ref 307), (1, .int p0), (2, .int r3), (3, .int r6)] [.int r9] (HS I9 L9 X)
            refine w_if_ne (Ev.cm _) rfl (fun c6 => ?_) (fun c6 => ?_)
            · have c6 : ¬ (r9 = 0) := c6
              rw [if_neg c6] at q
              refine w_aload_n (Ev.cm _) rfl rfl ?_
              refine w_getR (q := 308) (Ev.cm _) rfl (Nat.le_of_ble_eq_true rfl) rfl rfl ?_
              refine w_iload_n (Ev.cm _) rfl rfl ?_
              obtain ⟨⟨r10, I10, L10⟩, e10, q⟩ := obs q
              dsimp only at q
              refine w_cvirt (o := 308) (as := [.int r6]) (st := []) (Ev.cm _) rfl rfl rfl (Nat.le_of_ble_eq_true rfl) (Nat.le_of_ble_eq_true rfl) rfl (Nat.le_of_ble_eq_true rfl) (eo_T_jumpToHere (g := ?_) e10)
              show Wp _ _ _ _ _ _ _ 95 [(0, .ref 307), (1, .int p0), (2, .int r3), (3, .int r6)] [] (HS I10 L10 X)
              refine w_iconst (Ev.cm _) rfl ?_
              refine w_ireturn (Ev.cm _) rfl (by first | exact rok_0 | exact rok_1 | exact rok_b) rf0 ?_
              cases q
              exact g
            · have c6 : r9 = 0 := c6
              rw [if_pos c6] at q
              refine w_iconst (Ev.cm _) rfl ?_
              refine w_ireturn (Ev.cm _) rfl (by first | exact rok_0 | exact rok_1 | exact rok_b) rf0 ?_
              cases q
              exact g
        · have c4 : r5 = 0 := c4
          rw [if_pos c4] at q
          refine w_iconst (Ev.cm _) rfl ?_
          refine w_ireturn (Ev.cm _) rfl (by first | exact rok_0 | exact rok_1 | exact rok_b) rf0 ?_
          cases q
          exact g
    · have c2 : r2 = 0 := c2
      rw [if_pos c2] at q
      refine w_iconst (Ev.cm _) rfl ?_
      refine w_ireturn (Ev.cm _) rfl (by first | exact rok_0 | exact rok_1 | exact rok_b) rf0 ?_
      cases q
      exact g
def FO_R_opened (fu : Nat) (kO : Int32 → Int32 → (Nat → Nat → Int32) → (Nat → Nat → Int64) → Option (Int32 × (Nat → Nat → Int32) × (Nat → Nat → Int64))) (kA : Int32 → (Nat → Nat → Int32) → (Nat → Nat → Int64) → Option (Int32 × (Nat → Nat → Int32) × (Nat → Nat → Int64))) (p0 : Int32) (p1 : Int32) (I : Nat → Nat → Int32) (L : Nat → Nat → Int64) : Option (Int32 × (Nat → Nat → Int32) × (Nat → Nat → Int64)) := if p0 = 18 then ((FO_R_sum fu kO kA p1 I L).bind (fun u1 => let r1 := u1.1; let I1 := u1.2.1; let L1 := u1.2.2; if r1 = 0 then (some (0, I1, L1)) else ((FO_R_pass fu 19 I1 L1).bind (fun u2 => let r2 := u2.1; let I2 := u2.2.1; let L2 := u2.2.2; if r2 = 0 then (some (0, I2, L2)) else (some (1, I2, L2)))))) else (if p0 = 45 then ((FO_R_one fu kO kA p1 I L).bind (fun u3 => let r3 := u3.1; let I3 := u3.2.1; let L3 := u3.2.2; if r3 = 0 then (some (0, I3, L3)) else ((FO_R_pass fu 54 I3 L3).bind (fun u4 => let r4 := u4.1; let I4 := u4.2.1; let L4 := u4.2.2; if r4 = 0 then (some (0, I4, L4)) else ((FO_R_one fu kO kA p1 I4 L4).bind (fun u5 => let r5 := u5.1; let I5 := u5.2.1; let L5 := u5.2.2; if r5 = 0 then (some (0, I5, L5)) else ((FO_T_addCode fu 45 0 I5 L5).bind (fun u6 => let r6 := u6.1; let I6 := u6.2.1; let L6 := u6.2.2; some (1, I6, L6))))))))) else (if p0 = 47 then ((FO_R_choice fu kO kA p1 I L).bind (fun u7 => let r7 := u7.1; let I7 := u7.2.1; let L7 := u7.2.2; if r7 = 0 ∨ r7 = 1 then (some (r7, I7, L7)) else none)) else ((FO_R_one fu kO kA p1 I L).bind (fun u9 => let r9 := u9.1; let I9 := u9.2.1; let L9 := u9.2.2; if r9 = 0 then (some (0, I9, L9)) else (if p0 = 15 then ((FO_T_addCode fu 61 0 I9 L9).bind (fun u11 => let r11 := u11.1; let I11 := u11.2.1; let L11 := u11.2.2; some (1, I11, L11))) else ((FO_T_addCode fu 46 0 I9 L9).bind (fun u10 => let r10 := u10.1; let I10 := u10.2.1; let L10 := u10.2.2; some (1, I10, L10))))))))
set_option maxHeartbeats 20000000 in
set_option maxRecDepth 20000 in
theorem eo_R_opened {d fu : Nat} {kO : Int32 → Int32 → (Nat → Nat → Int32) → (Nat → Nat → Int64) → Option (Int32 × (Nat → Nat → Int32) × (Nat → Nat → Int64))} {kA : Int32 → (Nat → Nat → Int32) → (Nat → Nat → Int64) → Option (Int32 × (Nat → Nat → Int32) × (Nat → Nat → Int64))} {p0 : Int32} {p1 : Int32} {I : Nat → Nat → Int32} {L : Nat → Nat → Int64} {X : Nat × (Nat → Int32)} {Q : PQ} {res : Int32 × (Nat → Nat → Int32) × (Nat → Nat → Int64)}  (hO : cbO (d + 4) kO) (hA : cbA (d + 4) kA) (g : Q (some (.int res.1)) (HS res.2.1 res.2.2 X)) (q : FO_R_opened fu kO kA p0 p1 I L = some res) : Ev (d + 12) m_R_opened [.ref 307, .int p0, .int p1] (HS I L X) Q := by
  unfold FO_R_opened at q
  refine ev_start (d := d + 11) rfl rfl rfl (Nat.le_of_ble_eq_true rfl) ?_
  show Wp (Ev (d + 11)) cd_R_opened (0, 0) (some .boolean) _ _ Q 0 [(0, .ref 307), (1, .int p0), (2, .int p1)] [] (HS I L X)
  refine w_iload_n (Ev.cm _) rfl rfl ?_
  refine w_lsw (Ev.cm _) rfl ?_
  refine ⟨fun c1 => ?_, fun c1_0 => ⟨fun c1 => ?_, fun c1_1 => ⟨fun c1 => ?_, fun c1_2 => ?_⟩⟩⟩
  · have c1 : p0 = 18 := sw_v c1 (by decide)
    rw [if_pos c1] at q
    show Wp _ _ _ _ _ _ _ 36 [(0, .ref 307), (1, .int p0), (2, .int p1)] [] (HS I L X)
    refine w_aload_n (Ev.cm _) rfl rfl ?_
    refine w_iload_n (Ev.cm _) rfl rfl ?_
    obtain ⟨⟨r1, I1, L1⟩, e1, q⟩ := obs q
    dsimp only at q
    refine w_cvirt (o := 307) (as := [.int p1]) (st := []) (Ev.cm _) rfl rfl rfl (Nat.le_of_ble_eq_true rfl) (Nat.le_of_ble_eq_true rfl) rfl (Nat.le_of_ble_eq_true rfl) (ev_le (show d + 7 ≤ d + 11 by omega) (eo_R_sum (d := d) hO hA (g := ?_) e1))
    show Wp _ _ _ _ _ _ _ 41 [(0, .ref 307), (1, .int p0), (2, .int p1)] [.int r1] (HS I1 L1 X)
    refine w_if_eq (Ev.cm _) rfl (fun c2 => ?_) (fun c2 => ?_)
    · have c2 : r1 = 0 := c2
      rw [if_pos c2] at q
      refine w_iconst (Ev.cm _) rfl ?_
      refine w_ireturn (Ev.cm _) rfl (by first | exact rok_0 | exact rok_1 | exact rok_b) rf0 ?_
      cases q
      exact g
    · have c2 : ¬ (r1 = 0) := c2
      rw [if_neg c2] at q
      refine w_aload_n (Ev.cm _) rfl rfl ?_
      refine w_bipush (Ev.cm _) rfl ?_
      obtain ⟨⟨r2, I2, L2⟩, e2, q⟩ := obs q
      dsimp only at q
      refine w_cvirt (o := 307) (as := [.int 19]) (st := []) (Ev.cm _) rfl rfl rfl (Nat.le_of_ble_eq_true rfl) (Nat.le_of_ble_eq_true rfl) rfl (Nat.le_of_ble_eq_true rfl) (eo_R_pass (g := ?_) e2)
      show Wp _ _ _ _ _ _ _ 50 [(0, .ref 307), (1, .int p0), (2, .int p1)] [.int r2] (HS I2 L2 X)
      refine w_if_eq (Ev.cm _) rfl (fun c3 => ?_) (fun c3 => ?_)
      · have c3 : r2 = 0 := c3
        rw [if_pos c3] at q
        refine w_iconst (Ev.cm _) rfl ?_
        refine w_ireturn (Ev.cm _) rfl (by first | exact rok_0 | exact rok_1 | exact rok_b) rf0 ?_
        cases q
        exact g
      · have c3 : ¬ (r2 = 0) := c3
        rw [if_neg c3] at q
        refine w_iconst (Ev.cm _) rfl ?_
        refine w_goto (Ev.cm _) rfl ?_
        refine w_ireturn (Ev.cm _) rfl (by first | exact rok_0 | exact rok_1 | exact rok_b) rf0 ?_
        cases q
        exact g
  · have c1_0 : ¬ p0 = 18 := sw_w c1_0 (by decide)
    have c1 : p0 = 45 := sw_v c1 (by decide)
    rw [if_neg c1_0, if_pos c1] at q
    show Wp _ _ _ _ _ _ _ 65 [(0, .ref 307), (1, .int p0), (2, .int p1)] [] (HS I L X)
    refine w_aload_n (Ev.cm _) rfl rfl ?_
    refine w_iload_n (Ev.cm _) rfl rfl ?_
    obtain ⟨⟨r3, I3, L3⟩, e3, q⟩ := obs q
    dsimp only at q
    refine w_cvirt (o := 307) (as := [.int p1]) (st := []) (Ev.cm _) rfl rfl rfl (Nat.le_of_ble_eq_true rfl) (Nat.le_of_ble_eq_true rfl) rfl (Nat.le_of_ble_eq_true rfl) (ev_le (show d + 5 ≤ d + 11 by omega) (eo_R_one (d := d) hO hA (g := ?_) e3))
    show Wp _ _ _ _ _ _ _ 70 [(0, .ref 307), (1, .int p0), (2, .int p1)] [.int r3] (HS I3 L3 X)
    refine w_if_eq (Ev.cm _) rfl (fun c4 => ?_) (fun c4 => ?_)
    · have c4 : r3 = 0 := c4
      rw [if_pos c4] at q
      refine w_iconst (Ev.cm _) rfl ?_
      refine w_ireturn (Ev.cm _) rfl (by first | exact rok_0 | exact rok_1 | exact rok_b) rf0 ?_
      cases q
      exact g
    · have c4 : ¬ (r3 = 0) := c4
      rw [if_neg c4] at q
      refine w_aload_n (Ev.cm _) rfl rfl ?_
      refine w_bipush (Ev.cm _) rfl ?_
      obtain ⟨⟨r4, I4, L4⟩, e4, q⟩ := obs q
      dsimp only at q
      refine w_cvirt (o := 307) (as := [.int 54]) (st := []) (Ev.cm _) rfl rfl rfl (Nat.le_of_ble_eq_true rfl) (Nat.le_of_ble_eq_true rfl) rfl (Nat.le_of_ble_eq_true rfl) (eo_R_pass (g := ?_) e4)
      show Wp _ _ _ _ _ _ _ 79 [(0, .ref 307), (1, .int p0), (2, .int p1)] [.int r4] (HS I4 L4 X)
      refine w_if_eq (Ev.cm _) rfl (fun c5 => ?_) (fun c5 => ?_)
      · have c5 : r4 = 0 := c5
        rw [if_pos c5] at q
        refine w_iconst (Ev.cm _) rfl ?_
        refine w_ireturn (Ev.cm _) rfl (by first | exact rok_0 | exact rok_1 | exact rok_b) rf0 ?_
        cases q
        exact g
      · have c5 : ¬ (r4 = 0) := c5
        rw [if_neg c5] at q
        refine w_aload_n (Ev.cm _) rfl rfl ?_
        refine w_iload_n (Ev.cm _) rfl rfl ?_
        obtain ⟨⟨r5, I5, L5⟩, e5, q⟩ := obs q
        dsimp only at q
        refine w_cvirt (o := 307) (as := [.int p1]) (st := []) (Ev.cm _) rfl rfl rfl (Nat.le_of_ble_eq_true rfl) (Nat.le_of_ble_eq_true rfl) rfl (Nat.le_of_ble_eq_true rfl) (ev_le (show d + 5 ≤ d + 11 by omega) (eo_R_one (d := d) hO hA (g := ?_) e5))
        show Wp _ _ _ _ _ _ _ 87 [(0, .ref 307), (1, .int p0), (2, .int p1)] [.int r5] (HS I5 L5 X)
        refine w_if_ne (Ev.cm _) rfl (fun c6 => ?_) (fun c6 => ?_)
        · have c6 : ¬ (r5 = 0) := c6
          rw [if_neg c6] at q
          refine w_aload_n (Ev.cm _) rfl rfl ?_
          refine w_getR (q := 308) (Ev.cm _) rfl (Nat.le_of_ble_eq_true rfl) rfl rfl ?_
          refine w_bipush (Ev.cm _) rfl ?_
          refine w_iconst (Ev.cm _) rfl ?_
          obtain ⟨⟨r6, I6, L6⟩, e6, q⟩ := obs q
          dsimp only at q
          refine w_cvirt (o := 308) (as := [.int 45, .int 0]) (st := []) (Ev.cm _) rfl rfl rfl (Nat.le_of_ble_eq_true rfl) (Nat.le_of_ble_eq_true rfl) rfl (Nat.le_of_ble_eq_true rfl) (eo_T_addCode (g := ?_) e6)
          show Wp _ _ _ _ _ _ _ 102 [(0, .ref 307), (1, .int p0), (2, .int p1)] [.int r6] (HS I6 L6 X)
          refine w_pop (Ev.cm _) rfl rfl ?_
          refine w_iconst (Ev.cm _) rfl ?_
          refine w_ireturn (Ev.cm _) rfl (by first | exact rok_0 | exact rok_1 | exact rok_b) rf0 ?_
          cases q
          exact g
        · have c6 : r5 = 0 := c6
          rw [if_pos c6] at q
          refine w_iconst (Ev.cm _) rfl ?_
          refine w_ireturn (Ev.cm _) rfl (by first | exact rok_0 | exact rok_1 | exact rok_b) rf0 ?_
          cases q
          exact g
  · have c1_0 : ¬ p0 = 18 := sw_w c1_0 (by decide)
    have c1_1 : ¬ p0 = 45 := sw_w c1_1 (by decide)
    have c1 : p0 = 47 := sw_v c1 (by decide)
    rw [if_neg c1_0, if_neg c1_1, if_pos c1] at q
    show Wp _ _ _ _ _ _ _ 59 [(0, .ref 307), (1, .int p0), (2, .int p1)] [] (HS I L X)
    refine w_aload_n (Ev.cm _) rfl rfl ?_
    refine w_iload_n (Ev.cm _) rfl rfl ?_
    obtain ⟨⟨r7, I7, L7⟩, e7, q⟩ := obs q
    dsimp only at q
    refine w_cvirt (o := 307) (as := [.int p1]) (st := []) (Ev.cm _) rfl rfl rfl (Nat.le_of_ble_eq_true rfl) (Nat.le_of_ble_eq_true rfl) rfl (Nat.le_of_ble_eq_true rfl) (ev_le (show d + 11 ≤ d + 11 by omega) (eo_R_choice (d := d) hO hA (g := ?_) e7))
    show Wp _ _ _ _ _ _ _ 64 [(0, .ref 307), (1, .int p0), (2, .int p1)] [.int r7] (HS I7 L7 X)
    obtain ⟨b8, q⟩ := ois q
    refine w_ireturn (Ev.cm _) rfl (show rok (some .boolean) _ from b8) rf0 ?_
    cases q
    exact g
  · have c1_0 : ¬ p0 = 18 := sw_w c1_0 (by decide)
    have c1_1 : ¬ p0 = 45 := sw_w c1_1 (by decide)
    have c1_2 : ¬ p0 = 47 := sw_w c1_2 (by decide)
    rw [if_neg c1_0, if_neg c1_1, if_neg c1_2] at q
    show Wp _ _ _ _ _ _ _ 105 [(0, .ref 307), (1, .int p0), (2, .int p1)] [] (HS I L X)
    refine w_aload_n (Ev.cm _) rfl rfl ?_
    refine w_iload_n (Ev.cm _) rfl rfl ?_
    obtain ⟨⟨r9, I9, L9⟩, e9, q⟩ := obs q
    dsimp only at q
    refine w_cvirt (o := 307) (as := [.int p1]) (st := []) (Ev.cm _) rfl rfl rfl (Nat.le_of_ble_eq_true rfl) (Nat.le_of_ble_eq_true rfl) rfl (Nat.le_of_ble_eq_true rfl) (ev_le (show d + 5 ≤ d + 11 by omega) (eo_R_one (d := d) hO hA (g := ?_) e9))
    show Wp _ _ _ _ _ _ _ 110 [(0, .ref 307), (1, .int p0), (2, .int p1)] [.int r9] (HS I9 L9 X)
    refine w_if_ne (Ev.cm _) rfl (fun c7 => ?_) (fun c7 => ?_)
    · have c7 : ¬ (r9 = 0) := c7
      rw [if_neg c7] at q
      refine w_aload_n (Ev.cm _) rfl rfl ?_
      refine w_getR (q := 308) (Ev.cm _) rfl (Nat.le_of_ble_eq_true rfl) rfl rfl ?_
      refine w_iload_n (Ev.cm _) rfl rfl ?_
      refine w_bipush (Ev.cm _) rfl ?_
      refine w_icmp_ne (Ev.cm _) rfl (fun c8 => ?_) (fun c8 => ?_)
      · have c8 : ¬ (p0 = 15) := c8
        rw [if_neg c8] at q
        refine w_bipush (Ev.cm _) rfl ?_
        refine w_iconst (Ev.cm _) rfl ?_
        obtain ⟨⟨r10, I10, L10⟩, e10, q⟩ := obs q
        dsimp only at q
        refine w_cvirt (o := 308) (as := [.int 46, .int 0]) (st := []) (Ev.cm _) rfl rfl rfl (Nat.le_of_ble_eq_true rfl) (Nat.le_of_ble_eq_true rfl) rfl (Nat.le_of_ble_eq_true rfl) (eo_T_addCode (g := ?_) e10)
        show Wp _ _ _ _ _ _ _ 136 [(0, .ref 307), (1, .int p0), (2, .int p1)] [.int r10] (HS I10 L10 X)
        refine w_pop (Ev.cm _) rfl rfl ?_
        refine w_iconst (Ev.cm _) rfl ?_
        refine w_ireturn (Ev.cm _) rfl (by first | exact rok_0 | exact rok_1 | exact rok_b) rf0 ?_
        cases q
        exact g
      · have c8 : p0 = 15 := c8
        rw [if_pos c8] at q
        refine w_bipush (Ev.cm _) rfl ?_
        refine w_goto (Ev.cm _) rfl ?_
        refine w_iconst (Ev.cm _) rfl ?_
        obtain ⟨⟨r11, I11, L11⟩, e11, q⟩ := obs q
        dsimp only at q
        refine w_cvirt (o := 308) (as := [.int 61, .int 0]) (st := []) (Ev.cm _) rfl rfl rfl (Nat.le_of_ble_eq_true rfl) (Nat.le_of_ble_eq_true rfl) rfl (Nat.le_of_ble_eq_true rfl) (eo_T_addCode (g := ?_) e11)
        show Wp _ _ _ _ _ _ _ 136 [(0, .ref 307), (1, .int p0), (2, .int p1)] [.int r11] (HS I11 L11 X)
        refine w_pop (Ev.cm _) rfl rfl ?_
        refine w_iconst (Ev.cm _) rfl ?_
        refine w_ireturn (Ev.cm _) rfl (by first | exact rok_0 | exact rok_1 | exact rok_b) rf0 ?_
        cases q
        exact g
    · have c7 : r9 = 0 := c7
      rw [if_pos c7] at q
      refine w_iconst (Ev.cm _) rfl ?_
      refine w_ireturn (Ev.cm _) rfl (by first | exact rok_0 | exact rok_1 | exact rok_b) rf0 ?_
      cases q
      exact g
def RP (fu : Nat) : Nat → (Int32 → Int32 → (Nat → Nat → Int32) → (Nat → Nat → Int64) → Option (Int32 × (Nat → Nat → Int32) × (Nat → Nat → Int64))) × (Int32 → (Nat → Nat → Int32) → (Nat → Nat → Int64) → Option (Int32 × (Nat → Nat → Int32) × (Nat → Nat → Int64)))
  | 0 => (fun _ _ _ _ => none, fun _ _ _ => none)
  | n + 1 => (fun a b I L => FO_R_opened fu (RP fu n).1 (RP fu n).2 a b I L, fun a I L => FO_R_ask fu (RP fu n).1 (RP fu n).2 a I L)
theorem cb_RP {fu : Nat} (d n : Nat) : cbO (d + 8 * n + 4) (RP fu n).1 ∧ cbA (d + 8 * n + 4) (RP fu n).2 := by
  induction n with
  | zero => exact ⟨fun _ _ _ _ _ _ _ _ q => (by cases q), fun _ _ _ _ _ _ _ q => (by cases q)⟩
  | succ n ih => exact ⟨fun _ _ _ _ _ _ _ g q => ev_le (by omega) (eo_R_opened (d := d + 8 * n) ih.1 ih.2 g q), fun _ _ _ _ _ _ g q => ev_le (by omega) (eo_R_ask (d := d + 8 * n) ih.1 ih.2 g q)⟩
def FO_R_readLaw (fu : Nat) (p0 : Int32) (I : Nat → Nat → Int32) (L : Nat → Nat → Int64) : Option (Int32 × (Nat → Nat → Int32) × (Nat → Nat → Int64)) := (FO_T_addClause fu p0 0 0 (sI I 307 11 p0) L).bind (fun u1 => let r1 := u1.1; let I1 := u1.2.1; let L1 := u1.2.2; (FO_T_beginLaw fu p0 I1 L1).bind (fun u2 => let r2 := u2.1; let I2 := u2.2.1; let L2 := u2.2.2; (FO_R_sum fu (RP fu 9).1 (RP fu 9).2 0 I2 L2).bind (fun u3 => let r3 := u3.1; let I3 := u3.2.1; let L3 := u3.2.2; (FO_T_endLaw fu p0 I3 L3).bind (fun u4 => let r4 := u4.1; let I4 := u4.2.1; let L4 := u4.2.2; if r3 = 0 ∨ r3 = 1 then (some (r3, I4, L4)) else none))))
set_option maxHeartbeats 20000000 in
set_option maxRecDepth 20000 in
theorem eo_R_readLaw {d fu : Nat} {p0 : Int32} {I : Nat → Nat → Int32} {L : Nat → Nat → Int64} {X : Nat × (Nat → Int32)} {Q : PQ} {res : Int32 × (Nat → Nat → Int32) × (Nat → Nat → Int64)}  (g : Q (some (.int res.1)) (HS res.2.1 res.2.2 X)) (q : FO_R_readLaw fu p0 I L = some res) : Ev (d + 80) m_R_readLaw [.ref 307, .int p0] (HS I L X) Q := by
  unfold FO_R_readLaw at q
  refine ev_start (d := d + 79) rfl rfl rfl (Nat.le_of_ble_eq_true rfl) ?_
  show Wp (Ev (d + 79)) cd_R_readLaw (0, 0) (some .boolean) _ _ Q 0 [(0, .ref 307), (1, .int p0)] [] (HS I L X)
  refine w_aload_n (Ev.cm _) rfl rfl ?_
  refine w_iload_n (Ev.cm _) rfl rfl ?_
  refine w_putI (Ev.cm _) rfl (Nat.le_of_ble_eq_true rfl) rfl ?_
  refine w_aload_n (Ev.cm _) rfl rfl ?_
  refine w_getR (q := 308) (Ev.cm _) rfl (Nat.le_of_ble_eq_true rfl) rfl rfl ?_
  refine w_iload_n (Ev.cm _) rfl rfl ?_
  refine w_iconst (Ev.cm _) rfl ?_
  refine w_iconst (Ev.cm _) rfl ?_
  obtain ⟨⟨r1, I1, L1⟩, e1, q⟩ := obs q
  dsimp only at q
  refine w_cvirt (o := 308) (as := [.int p0, .int 0, .int 0]) (st := []) (Ev.cm _) rfl rfl rfl (Nat.le_of_ble_eq_true rfl) (Nat.le_of_ble_eq_true rfl) rfl (Nat.le_of_ble_eq_true rfl) (eo_T_addClause (g := ?_) e1)
  show Wp _ _ _ _ _ _ _ 15 [(0, .ref 307), (1, .int p0)] [] (HS I1 L1 X)
  refine w_aload_n (Ev.cm _) rfl rfl ?_
  refine w_getR (q := 308) (Ev.cm _) rfl (Nat.le_of_ble_eq_true rfl) rfl rfl ?_
  refine w_iload_n (Ev.cm _) rfl rfl ?_
  obtain ⟨⟨r2, I2, L2⟩, e2, q⟩ := obs q
  dsimp only at q
  refine w_cvirt (o := 308) (as := [.int p0]) (st := []) (Ev.cm _) rfl rfl rfl (Nat.le_of_ble_eq_true rfl) (Nat.le_of_ble_eq_true rfl) rfl (Nat.le_of_ble_eq_true rfl) (eo_T_beginLaw (g := ?_) e2)
  show Wp _ _ _ _ _ _ _ 23 [(0, .ref 307), (1, .int p0)] [] (HS I2 L2 X)
  refine w_aload_n (Ev.cm _) rfl rfl ?_
  refine w_iconst (Ev.cm _) rfl ?_
  obtain ⟨⟨r3, I3, L3⟩, e3, q⟩ := obs q
  dsimp only at q
  refine w_cvirt (o := 307) (as := [.int 0]) (st := []) (Ev.cm _) rfl rfl rfl (Nat.le_of_ble_eq_true rfl) (Nat.le_of_ble_eq_true rfl) rfl (Nat.le_of_ble_eq_true rfl) (ev_le (show d + 8 * 9 + 7 ≤ d + 79 by omega) (eo_R_sum (d := d + 8 * 9) (cb_RP d 9).1 (cb_RP d 9).2 (g := ?_) e3))
  show Wp _ _ _ _ _ _ _ 28 [(0, .ref 307), (1, .int p0)] [.int r3] (HS I3 L3 X)
  refine w_istore_n (ls2 := [(0, .ref 307), (1, .int p0), (2, .int r3)]) (Ev.cm _) rfl rfl ?_
  refine w_aload_n (Ev.cm _) rfl rfl ?_
  refine w_getR (q := 308) (Ev.cm _) rfl (Nat.le_of_ble_eq_true rfl) rfl rfl ?_
  refine w_iload_n (Ev.cm _) rfl rfl ?_
  obtain ⟨⟨r4, I4, L4⟩, e4, q⟩ := obs q
  dsimp only at q
  refine w_cvirt (o := 308) (as := [.int p0]) (st := []) (Ev.cm _) rfl rfl rfl (Nat.le_of_ble_eq_true rfl) (Nat.le_of_ble_eq_true rfl) rfl (Nat.le_of_ble_eq_true rfl) (eo_T_endLaw (g := ?_) e4)
  show Wp _ _ _ _ _ _ _ 37 [(0, .ref 307), (1, .int p0), (2, .int r3)] [] (HS I4 L4 X)
  refine w_iload_n (Ev.cm _) rfl rfl ?_
  obtain ⟨b5, q⟩ := ois q
  refine w_ireturn (Ev.cm _) rfl (show rok (some .boolean) _ from b5) rf0 ?_
  cases q
  exact g
def FO_R_readClause (fu : Nat) (I : Nat → Nat → Int32) (L : Nat → Nat → Int64) : Option (Int32 × (Nat → Nat → Int32) × (Nat → Nat → Int64)) := if I 307 9 = 38 then (if I 307 9 = 30 then ((FO_T_rules fu (I 307 9) I L).bind (fun u1 => let r1 := u1.1; let I1 := u1.2.1; let L1 := u1.2.2; if r1 = 0 then (if I1 308 0 < 24 then ((FO_R_comeTo fu ((I1 307 8) + 1) I1 L1).bind (fun u2 => let r2 := u2.1; let I2 := u2.2.1; let L2 := u2.2.2; (FO_R_readLaw fu (I 307 9) I2 L2).bind (fun u3 => let r3 := u3.1; let I3 := u3.2.1; let L3 := u3.2.2; if r3 = 0 then (some (0, I3, L3)) else ((FO_R_pass fu 20 I3 L3).bind (fun u4 => let r4 := u4.1; let I4 := u4.2.1; let L4 := u4.2.2; if r4 = 0 then (some (0, I4, L4)) else (some (1, I4, L4))))))) else ((FO_R_fail fu 6 I1 L1).bind (fun u5 => let r5 := u5.1; let I5 := u5.2.1; let L5 := u5.2.2; if r5 = 0 ∨ r5 = 1 then (some (r5, I5, L5)) else none))) else ((FO_R_fail fu 4 I1 L1).bind (fun u7 => let r7 := u7.1; let I7 := u7.2.1; let L7 := u7.2.2; if r7 = 0 ∨ r7 = 1 then (some (r7, I7, L7)) else none)))) else (if (38 : Int32) ≤ (I 307 9) ∧ (I 307 9) ≤ (44 : Int32) then ((FO_T_rules fu (I 307 9) I L).bind (fun u9 => let r9 := u9.1; let I9 := u9.2.1; let L9 := u9.2.2; if r9 = 0 then (if I9 308 0 < 24 then ((FO_R_comeTo fu ((I9 307 8) + 1) I9 L9).bind (fun u10 => let r10 := u10.1; let I10 := u10.2.1; let L10 := u10.2.2; (FO_R_readLaw fu (I 307 9) I10 L10).bind (fun u11 => let r11 := u11.1; let I11 := u11.2.1; let L11 := u11.2.2; if r11 = 0 then (some (0, I11, L11)) else ((FO_R_pass fu 20 I11 L11).bind (fun u12 => let r12 := u12.1; let I12 := u12.2.1; let L12 := u12.2.2; if r12 = 0 then (some (0, I12, L12)) else (some (1, I12, L12))))))) else ((FO_R_fail fu 6 I9 L9).bind (fun u13 => let r13 := u13.1; let I13 := u13.2.1; let L13 := u13.2.2; if r13 = 0 ∨ r13 = 1 then (some (r13, I13, L13)) else none))) else ((FO_R_fail fu 4 I9 L9).bind (fun u15 => let r15 := u15.1; let I15 := u15.2.1; let L15 := u15.2.2; if r15 = 0 ∨ r15 = 1 then (some (r15, I15, L15)) else none)))) else ((FO_R_fail fu 1 I L).bind (fun u17 => let r17 := u17.1; let I17 := u17.2.1; let L17 := u17.2.2; if r17 = 0 ∨ r17 = 1 then (some (r17, I17, L17)) else none)))) else (if I 307 9 = 39 then (if I 307 9 = 30 then ((FO_T_rules fu (I 307 9) I L).bind (fun u31 => let r31 := u31.1; let I31 := u31.2.1; let L31 := u31.2.2; if r31 = 0 then (if I31 308 0 < 24 then ((FO_R_comeTo fu ((I31 307 8) + 1) I31 L31).bind (fun u32 => let r32 := u32.1; let I32 := u32.2.1; let L32 := u32.2.2; (FO_R_readLaw fu (I 307 9) I32 L32).bind (fun u33 => let r33 := u33.1; let I33 := u33.2.1; let L33 := u33.2.2; if r33 = 0 then (some (0, I33, L33)) else ((FO_R_pass fu 20 I33 L33).bind (fun u34 => let r34 := u34.1; let I34 := u34.2.1; let L34 := u34.2.2; if r34 = 0 then (some (0, I34, L34)) else (some (1, I34, L34))))))) else ((FO_R_fail fu 6 I31 L31).bind (fun u35 => let r35 := u35.1; let I35 := u35.2.1; let L35 := u35.2.2; if r35 = 0 ∨ r35 = 1 then (some (r35, I35, L35)) else none))) else ((FO_R_fail fu 4 I31 L31).bind (fun u37 => let r37 := u37.1; let I37 := u37.2.1; let L37 := u37.2.2; if r37 = 0 ∨ r37 = 1 then (some (r37, I37, L37)) else none)))) else (if (38 : Int32) ≤ (I 307 9) ∧ (I 307 9) ≤ (44 : Int32) then ((FO_T_rules fu (I 307 9) I L).bind (fun u39 => let r39 := u39.1; let I39 := u39.2.1; let L39 := u39.2.2; if r39 = 0 then (if I39 308 0 < 24 then ((FO_R_comeTo fu ((I39 307 8) + 1) I39 L39).bind (fun u40 => let r40 := u40.1; let I40 := u40.2.1; let L40 := u40.2.2; (FO_R_readLaw fu (I 307 9) I40 L40).bind (fun u41 => let r41 := u41.1; let I41 := u41.2.1; let L41 := u41.2.2; if r41 = 0 then (some (0, I41, L41)) else ((FO_R_pass fu 20 I41 L41).bind (fun u42 => let r42 := u42.1; let I42 := u42.2.1; let L42 := u42.2.2; if r42 = 0 then (some (0, I42, L42)) else (some (1, I42, L42))))))) else ((FO_R_fail fu 6 I39 L39).bind (fun u43 => let r43 := u43.1; let I43 := u43.2.1; let L43 := u43.2.2; if r43 = 0 ∨ r43 = 1 then (some (r43, I43, L43)) else none))) else ((FO_R_fail fu 4 I39 L39).bind (fun u45 => let r45 := u45.1; let I45 := u45.2.1; let L45 := u45.2.2; if r45 = 0 ∨ r45 = 1 then (some (r45, I45, L45)) else none)))) else ((FO_R_fail fu 1 I L).bind (fun u47 => let r47 := u47.1; let I47 := u47.2.1; let L47 := u47.2.2; if r47 = 0 ∨ r47 = 1 then (some (r47, I47, L47)) else none)))) else (if I 307 9 = 30 then (if I 308 0 < 24 then ((FO_R_comeTo fu ((I 307 8) + 1) I L).bind (fun u19 => let r19 := u19.1; let I19 := u19.2.1; let L19 := u19.2.2; (FO_R_readDeed fu (I 307 9) I19 L19).bind (fun u20 => let r20 := u20.1; let I20 := u20.2.1; let L20 := u20.2.2; if r20 = 0 then (some (0, I20, L20)) else ((FO_R_pass fu 20 I20 L20).bind (fun u21 => let r21 := u21.1; let I21 := u21.2.1; let L21 := u21.2.2; if r21 = 0 then (some (0, I21, L21)) else (some (1, I21, L21))))))) else ((FO_R_fail fu 6 I L).bind (fun u22 => let r22 := u22.1; let I22 := u22.2.1; let L22 := u22.2.2; if r22 = 0 ∨ r22 = 1 then (some (r22, I22, L22)) else none))) else (if (38 : Int32) ≤ (I 307 9) ∧ (I 307 9) ≤ (44 : Int32) then (if I 308 0 < 24 then ((FO_R_comeTo fu ((I 307 8) + 1) I L).bind (fun u24 => let r24 := u24.1; let I24 := u24.2.1; let L24 := u24.2.2; (FO_R_readDeed fu (I 307 9) I24 L24).bind (fun u25 => let r25 := u25.1; let I25 := u25.2.1; let L25 := u25.2.2; if r25 = 0 then (some (0, I25, L25)) else ((FO_R_pass fu 20 I25 L25).bind (fun u26 => let r26 := u26.1; let I26 := u26.2.1; let L26 := u26.2.2; if r26 = 0 then (some (0, I26, L26)) else (some (1, I26, L26))))))) else ((FO_R_fail fu 6 I L).bind (fun u27 => let r27 := u27.1; let I27 := u27.2.1; let L27 := u27.2.2; if r27 = 0 ∨ r27 = 1 then (some (r27, I27, L27)) else none))) else ((FO_R_fail fu 1 I L).bind (fun u29 => let r29 := u29.1; let I29 := u29.2.1; let L29 := u29.2.2; if r29 = 0 ∨ r29 = 1 then (some (r29, I29, L29)) else none)))))
set_option maxHeartbeats 20000000 in
set_option maxRecDepth 20000 in
theorem eo_R_readClause {d fu : Nat} {I : Nat → Nat → Int32} {L : Nat → Nat → Int64} {X : Nat × (Nat → Int32)} {Q : PQ} {res : Int32 × (Nat → Nat → Int32) × (Nat → Nat → Int64)}  (g : Q (some (.int res.1)) (HS res.2.1 res.2.2 X)) (q : FO_R_readClause fu  I L = some res) : Ev (d + 81) m_R_readClause [.ref 307] (HS I L X) Q := by
  unfold FO_R_readClause at q
  refine ev_start (d := d + 80) rfl rfl rfl (Nat.le_of_ble_eq_true rfl) ?_
  show Wp (Ev (d + 80)) cd_R_readClause (0, 0) (some .boolean) _ _ Q 0 [(0, .ref 307)] [] (HS I L X)
  refine w_aload_n (Ev.cm _) rfl rfl ?_
  refine w_getI (Ev.cm _) rfl (Nat.le_of_ble_eq_true rfl) rfl ?_
  refine w_istore_n (ls2 := [(0, .ref 307), (1, .int (I 307 9))]) (Ev.cm _) rfl rfl ?_
  refine w_iload_n (Ev.cm _) rfl rfl ?_
  refine w_bipush (Ev.cm _) rfl ?_
  refine w_icmp_eq (Ev.cm _) rfl (fun c1 => ?_) (fun c1 => ?_)
  · have c1 : I 307 9 = 38 := c1
    rw [if_pos c1] at q
    refine w_iconst (Ev.cm _) rfl ?_
    refine w_goto (Ev.cm _) rfl ?_
    refine w_istore_n (ls2 := [(0, .ref 307), (1, .int (I 307 9)), (2, .int 1)]) (Ev.cm _) rfl rfl ?_
    refine w_iload_n (Ev.cm _) rfl rfl ?_
    refine w_bipush (Ev.cm _) rfl ?_
    refine w_icmp_eq (Ev.cm _) rfl (fun c2 => ?_) (fun c2 => ?_)
    · have c2 : I 307 9 = 30 := c2
      rw [if_pos c2] at q
      refine w_iload_n (Ev.cm _) rfl rfl ?_
      refine w_if_eq (Ev.cm _) rfl (fun q => absurd q (by decide)) (fun _ => ?_)
      refine w_aload_n (Ev.cm _) rfl rfl ?_
      refine w_getR (q := 308) (Ev.cm _) rfl (Nat.le_of_ble_eq_true rfl) rfl rfl ?_
      refine w_iload_n (Ev.cm _) rfl rfl ?_
      obtain ⟨⟨r1, I1, L1⟩, e1, q⟩ := obs q
      dsimp only at q
      refine w_cvirt (o := 308) (as := [.int (I 307 9)]) (st := []) (Ev.cm _) rfl rfl rfl (Nat.le_of_ble_eq_true rfl) (Nat.le_of_ble_eq_true rfl) rfl (Nat.le_of_ble_eq_true rfl) (eo_T_rules (g := ?_) e1)
      show Wp _ _ _ _ _ _ _ 58 [(0, .ref 307), (1, .int (I 307 9)), (2, .int 1)] [.int r1] (HS I1 L1 X)
      refine w_if_eq (Ev.cm _) rfl (fun c4 => ?_) (fun c4 => ?_)
      · have c4 : r1 = 0 := c4
        rw [if_pos c4] at q
        refine w_aload_n (Ev.cm _) rfl rfl ?_
        refine w_getR (q := 308) (Ev.cm _) rfl (Nat.le_of_ble_eq_true rfl) rfl rfl ?_
        refine w_getI (Ev.cm _) rfl (Nat.le_of_ble_eq_true rfl) rfl ?_
        refine w_bipush (Ev.cm _) rfl ?_
        refine w_icmp_lt (Ev.cm _) rfl (fun c5 => ?_) (fun c5 => ?_)
        · have c5 : I1 308 0 < 24 := c5
          rw [if_pos c5] at q
          refine w_aload_n (Ev.cm _) rfl rfl ?_
          refine w_aload_n (Ev.cm _) rfl rfl ?_
          refine w_getI (Ev.cm _) rfl (Nat.le_of_ble_eq_true rfl) rfl ?_
          refine w_iconst (Ev.cm _) rfl ?_
          refine w_iadd (Ev.cm _) rfl ?_
          obtain ⟨⟨r2, I2, L2⟩, e2, q⟩ := obs q
          dsimp only at q
          refine w_cvirt (o := 307) (as := [.int ((I1 307 8) + 1)]) (st := []) (Ev.cm _) rfl rfl rfl (Nat.le_of_ble_eq_true rfl) (Nat.le_of_ble_eq_true rfl) rfl (Nat.le_of_ble_eq_true rfl) (eo_R_comeTo (g := ?_) e2)
          show Wp _ _ _ _ _ _ _ 96 [(0, .ref 307), (1, .int (I 307 9)), (2, .int 1)] [] (HS I2 L2 X)
          refine w_iload_n (Ev.cm _) rfl rfl ?_
          refine w_if_eq (Ev.cm _) rfl (fun q => absurd q (by decide)) (fun _ => ?_)
          refine w_aload_n (Ev.cm _) rfl rfl ?_
          refine w_iload_n (Ev.cm _) rfl rfl ?_
          obtain ⟨⟨r3, I3, L3⟩, e3, q⟩ := obs q
          dsimp only at q
          refine w_cvirt (o := 307) (as := [.int (I 307 9)]) (st := []) (Ev.cm _) rfl rfl rfl (Nat.le_of_ble_eq_true rfl) (Nat.le_of_ble_eq_true rfl) rfl (Nat.le_of_ble_eq_true rfl) (eo_R_readLaw (g := ?_) e3)
          show Wp _ _ _ _ _ _ _ 105 [(0, .ref 307), (1, .int (I 307 9)), (2, .int 1)] [.int r3] (HS I3 L3 X)
          refine w_if_eq (Ev.cm _) rfl (fun c7 => ?_) (fun c7 => ?_)
          · have c7 : r3 = 0 := c7
            rw [if_pos c7] at q
            refine w_iconst (Ev.cm _) rfl ?_
            refine w_ireturn (Ev.cm _) rfl (by first | exact rok_0 | exact rok_1 | exact rok_b) rf0 ?_
            cases q
            exact g
          · have c7 : ¬ (r3 = 0) := c7
            rw [if_neg c7] at q
            refine w_goto (Ev.cm _) rfl ?_
            refine w_aload_n (Ev.cm _) rfl rfl ?_
            refine w_bipush (Ev.cm _) rfl ?_
            obtain ⟨⟨r4, I4, L4⟩, e4, q⟩ := obs q
            dsimp only at q
            refine w_cvirt (o := 307) (as := [.int 20]) (st := []) (Ev.cm _) rfl rfl rfl (Nat.le_of_ble_eq_true rfl) (Nat.le_of_ble_eq_true rfl) rfl (Nat.le_of_ble_eq_true rfl) (eo_R_pass (g := ?_) e4)
            show Wp _ _ _ _ _ _ _ 125 [(0, .ref 307), (1, .int (I 307 9)), (2, .int 1)] [.int r4] (HS I4 L4 X)
            refine w_if_eq (Ev.cm _) rfl (fun c8 => ?_) (fun c8 => ?_)
            · have c8 : r4 = 0 := c8
              rw [if_pos c8] at q
              refine w_iconst (Ev.cm _) rfl ?_
              refine w_ireturn (Ev.cm _) rfl (by first | exact rok_0 | exact rok_1 | exact rok_b) rf0 ?_
              cases q
              exact g
            · have c8 : ¬ (r4 = 0) := c8
              rw [if_neg c8] at q
              refine w_iconst (Ev.cm _) rfl ?_
              refine w_goto (Ev.cm _) rfl ?_
              refine w_ireturn (Ev.cm _) rfl (by first | exact rok_0 | exact rok_1 | exact rok_b) rf0 ?_
              cases q
              exact g
        · have c5 : ¬ (I1 308 0 < 24) := c5
          rw [if_neg c5] at q
          refine w_aload_n (Ev.cm _) rfl rfl ?_
          refine w_bipush (Ev.cm _) rfl ?_
          obtain ⟨⟨r5, I5, L5⟩, e5, q⟩ := obs q
          dsimp only at q
          refine w_cvirt (o := 307) (as := [.int 6]) (st := []) (Ev.cm _) rfl rfl rfl (Nat.le_of_ble_eq_true rfl) (Nat.le_of_ble_eq_true rfl) rfl (Nat.le_of_ble_eq_true rfl) (eo_R_fail (g := ?_) e5)
          show Wp _ _ _ _ _ _ _ 85 [(0, .ref 307), (1, .int (I 307 9)), (2, .int 1)] [.int r5] (HS I5 L5 X)
          obtain ⟨b6, q⟩ := ois q
          refine w_ireturn (Ev.cm _) rfl (show rok (some .boolean) _ from b6) rf0 ?_
          cases q
          exact g
      · have c4 : ¬ (r1 = 0) := c4
        rw [if_neg c4] at q
        refine w_aload_n (Ev.cm _) rfl rfl ?_
        refine w_iconst (Ev.cm _) rfl ?_
        obtain ⟨⟨r7, I7, L7⟩, e7, q⟩ := obs q
        dsimp only at q
        refine w_cvirt (o := 307) (as := [.int 4]) (st := []) (Ev.cm _) rfl rfl rfl (Nat.le_of_ble_eq_true rfl) (Nat.le_of_ble_eq_true rfl) rfl (Nat.le_of_ble_eq_true rfl) (eo_R_fail (g := ?_) e7)
        show Wp _ _ _ _ _ _ _ 66 [(0, .ref 307), (1, .int (I 307 9)), (2, .int 1)] [.int r7] (HS I7 L7 X)
        obtain ⟨b8, q⟩ := ois q
        refine w_ireturn (Ev.cm _) rfl (show rok (some .boolean) _ from b8) rf0 ?_
        cases q
        exact g
    · have c2 : ¬ (I 307 9 = 30) := c2
      rw [if_neg c2] at q
      refine w_iload_n (Ev.cm _) rfl rfl ?_
      refine w_bipush (Ev.cm _) rfl ?_
      refine w_bipush (Ev.cm _) rfl ?_
      refine w_cnest (as := [.int (I 307 9), .int 38, .int 44]) (st := []) (Ev.cm _) rfl rfl rfl (Nat.le_of_ble_eq_true rfl) (Nat.le_of_ble_eq_true rfl) (x_within ?_)
      show Wp _ _ _ _ _ _ _ 37 [(0, .ref 307), (1, .int (I 307 9)), (2, .int 1)] [.int (bI ((38 : Int32) ≤ (I 307 9) ∧ (I 307 9) ≤ (44 : Int32)))] (HS I L X)
      refine w_if_ne (Ev.cm _) rfl (fun c9 => ?_) (fun c9 => ?_)
      · have c9 : (38 : Int32) ≤ (I 307 9) ∧ (I 307 9) ≤ (44 : Int32) := bI_1.mp c9
        rw [if_pos c9] at q
        refine w_iload_n (Ev.cm _) rfl rfl ?_
        refine w_if_eq (Ev.cm _) rfl (fun q => absurd q (by decide)) (fun _ => ?_)
        refine w_aload_n (Ev.cm _) rfl rfl ?_
        refine w_getR (q := 308) (Ev.cm _) rfl (Nat.le_of_ble_eq_true rfl) rfl rfl ?_
        refine w_iload_n (Ev.cm _) rfl rfl ?_
        obtain ⟨⟨r9, I9, L9⟩, e9, q⟩ := obs q
        dsimp only at q
        refine w_cvirt (o := 308) (as := [.int (I 307 9)]) (st := []) (Ev.cm _) rfl rfl rfl (Nat.le_of_ble_eq_true rfl) (Nat.le_of_ble_eq_true rfl) rfl (Nat.le_of_ble_eq_true rfl) (eo_T_rules (g := ?_) e9)
        show Wp _ _ _ _ _ _ _ 58 [(0, .ref 307), (1, .int (I 307 9)), (2, .int 1)] [.int r9] (HS I9 L9 X)
        refine w_if_eq (Ev.cm _) rfl (fun c11 => ?_) (fun c11 => ?_)
        · have c11 : r9 = 0 := c11
          rw [if_pos c11] at q
          refine w_aload_n (Ev.cm _) rfl rfl ?_
          refine w_getR (q := 308) (Ev.cm _) rfl (Nat.le_of_ble_eq_true rfl) rfl rfl ?_
          refine w_getI (Ev.cm _) rfl (Nat.le_of_ble_eq_true rfl) rfl ?_
          refine w_bipush (Ev.cm _) rfl ?_
          refine w_icmp_lt (Ev.cm _) rfl (fun c12 => ?_) (fun c12 => ?_)
          · have c12 : I9 308 0 < 24 := c12
            rw [if_pos c12] at q
            refine w_aload_n (Ev.cm _) rfl rfl ?_
            refine w_aload_n (Ev.cm _) rfl rfl ?_
            refine w_getI (Ev.cm _) rfl (Nat.le_of_ble_eq_true rfl) rfl ?_
            refine w_iconst (Ev.cm _) rfl ?_
            refine w_iadd (Ev.cm _) rfl ?_
            obtain ⟨⟨r10, I10, L10⟩, e10, q⟩ := obs q
            dsimp only at q
            refine w_cvirt (o := 307) (as := [.int ((I9 307 8) + 1)]) (st := []) (Ev.cm _) rfl rfl rfl (Nat.le_of_ble_eq_true rfl) (Nat.le_of_ble_eq_true rfl) rfl (Nat.le_of_ble_eq_true rfl) (eo_R_comeTo (g := ?_) e10)
            show Wp _ _ _ _ _ _ _ 96 [(0, .ref 307), (1, .int (I 307 9)), (2, .int 1)] [] (HS I10 L10 X)
            refine w_iload_n (Ev.cm _) rfl rfl ?_
            refine w_if_eq (Ev.cm _) rfl (fun q => absurd q (by decide)) (fun _ => ?_)
            refine w_aload_n (Ev.cm _) rfl rfl ?_
            refine w_iload_n (Ev.cm _) rfl rfl ?_
            obtain ⟨⟨r11, I11, L11⟩, e11, q⟩ := obs q
            dsimp only at q
            refine w_cvirt (o := 307) (as := [.int (I 307 9)]) (st := []) (Ev.cm _) rfl rfl rfl (Nat.le_of_ble_eq_true rfl) (Nat.le_of_ble_eq_true rfl) rfl (Nat.le_of_ble_eq_true rfl) (eo_R_readLaw (g := ?_) e11)
            show Wp _ _ _ _ _ _ _ 105 [(0, .ref 307), (1, .int (I 307 9)), (2, .int 1)] [.int r11] (HS I11 L11 X)
            refine w_if_eq (Ev.cm _) rfl (fun c14 => ?_) (fun c14 => ?_)
            · have c14 : r11 = 0 := c14
              rw [if_pos c14] at q
              refine w_iconst (Ev.cm _) rfl ?_
              refine w_ireturn (Ev.cm _) rfl (by first | exact rok_0 | exact rok_1 | exact rok_b) rf0 ?_
              cases q
              exact g
            · have c14 : ¬ (r11 = 0) := c14
              rw [if_neg c14] at q
              refine w_goto (Ev.cm _) rfl ?_
              refine w_aload_n (Ev.cm _) rfl rfl ?_
              refine w_bipush (Ev.cm _) rfl ?_
              obtain ⟨⟨r12, I12, L12⟩, e12, q⟩ := obs q
              dsimp only at q
              refine w_cvirt (o := 307) (as := [.int 20]) (st := []) (Ev.cm _) rfl rfl rfl (Nat.le_of_ble_eq_true rfl) (Nat.le_of_ble_eq_true rfl) rfl (Nat.le_of_ble_eq_true rfl) (eo_R_pass (g := ?_) e12)
              show Wp _ _ _ _ _ _ _ 125 [(0, .ref 307), (1, .int (I 307 9)), (2, .int 1)] [.int r12] (HS I12 L12 X)
              refine w_if_eq (Ev.cm _) rfl (fun c15 => ?_) (fun c15 => ?_)
              · have c15 : r12 = 0 := c15
                rw [if_pos c15] at q
                refine w_iconst (Ev.cm _) rfl ?_
                refine w_ireturn (Ev.cm _) rfl (by first | exact rok_0 | exact rok_1 | exact rok_b) rf0 ?_
                cases q
                exact g
              · have c15 : ¬ (r12 = 0) := c15
                rw [if_neg c15] at q
                refine w_iconst (Ev.cm _) rfl ?_
                refine w_goto (Ev.cm _) rfl ?_
                refine w_ireturn (Ev.cm _) rfl (by first | exact rok_0 | exact rok_1 | exact rok_b) rf0 ?_
                cases q
                exact g
          · have c12 : ¬ (I9 308 0 < 24) := c12
            rw [if_neg c12] at q
            refine w_aload_n (Ev.cm _) rfl rfl ?_
            refine w_bipush (Ev.cm _) rfl ?_
            obtain ⟨⟨r13, I13, L13⟩, e13, q⟩ := obs q
            dsimp only at q
            refine w_cvirt (o := 307) (as := [.int 6]) (st := []) (Ev.cm _) rfl rfl rfl (Nat.le_of_ble_eq_true rfl) (Nat.le_of_ble_eq_true rfl) rfl (Nat.le_of_ble_eq_true rfl) (eo_R_fail (g := ?_) e13)
            show Wp _ _ _ _ _ _ _ 85 [(0, .ref 307), (1, .int (I 307 9)), (2, .int 1)] [.int r13] (HS I13 L13 X)
            obtain ⟨b14, q⟩ := ois q
            refine w_ireturn (Ev.cm _) rfl (show rok (some .boolean) _ from b14) rf0 ?_
            cases q
            exact g
        · have c11 : ¬ (r9 = 0) := c11
          rw [if_neg c11] at q
          refine w_aload_n (Ev.cm _) rfl rfl ?_
          refine w_iconst (Ev.cm _) rfl ?_
          obtain ⟨⟨r15, I15, L15⟩, e15, q⟩ := obs q
          dsimp only at q
          refine w_cvirt (o := 307) (as := [.int 4]) (st := []) (Ev.cm _) rfl rfl rfl (Nat.le_of_ble_eq_true rfl) (Nat.le_of_ble_eq_true rfl) rfl (Nat.le_of_ble_eq_true rfl) (eo_R_fail (g := ?_) e15)
          show Wp _ _ _ _ _ _ _ 66 [(0, .ref 307), (1, .int (I 307 9)), (2, .int 1)] [.int r15] (HS I15 L15 X)
          obtain ⟨b16, q⟩ := ois q
          refine w_ireturn (Ev.cm _) rfl (show rok (some .boolean) _ from b16) rf0 ?_
          cases q
          exact g
      · have c9 : ¬ ((38 : Int32) ≤ (I 307 9) ∧ (I 307 9) ≤ (44 : Int32)) := bI_0.mp c9
        rw [if_neg c9] at q
        refine w_aload_n (Ev.cm _) rfl rfl ?_
        refine w_iconst (Ev.cm _) rfl ?_
        obtain ⟨⟨r17, I17, L17⟩, e17, q⟩ := obs q
        dsimp only at q
        refine w_cvirt (o := 307) (as := [.int 1]) (st := []) (Ev.cm _) rfl rfl rfl (Nat.le_of_ble_eq_true rfl) (Nat.le_of_ble_eq_true rfl) rfl (Nat.le_of_ble_eq_true rfl) (eo_R_fail (g := ?_) e17)
        show Wp _ _ _ _ _ _ _ 45 [(0, .ref 307), (1, .int (I 307 9)), (2, .int 1)] [.int r17] (HS I17 L17 X)
        obtain ⟨b18, q⟩ := ois q
        refine w_ireturn (Ev.cm _) rfl (show rok (some .boolean) _ from b18) rf0 ?_
        cases q
        exact g
  · have c1 : ¬ (I 307 9 = 38) := c1
    rw [if_neg c1] at q
    refine w_iload_n (Ev.cm _) rfl rfl ?_
    refine w_bipush (Ev.cm _) rfl ?_
    refine w_icmp_ne (Ev.cm _) rfl (fun c16 => ?_) (fun c16 => ?_)
    · have c16 : ¬ (I 307 9 = 39) := c16
      rw [if_neg c16] at q
      refine w_iconst (Ev.cm _) rfl ?_
      refine w_istore_n (ls2 := [(0, .ref 307), (1, .int (I 307 9)), (2, .int 0)]) (Ev.cm _) rfl rfl ?_
      refine w_iload_n (Ev.cm _) rfl rfl ?_
      refine w_bipush (Ev.cm _) rfl ?_
      refine w_icmp_eq (Ev.cm _) rfl (fun c17 => ?_) (fun c17 => ?_)
      · have c17 : I 307 9 = 30 := c17
        rw [if_pos c17] at q
        refine w_iload_n (Ev.cm _) rfl rfl ?_
        refine w_if_eq (Ev.cm _) rfl (fun _ => ?_) (fun q => absurd (by decide) q)
        refine w_aload_n (Ev.cm _) rfl rfl ?_
        refine w_getR (q := 308) (Ev.cm _) rfl (Nat.le_of_ble_eq_true rfl) rfl rfl ?_
        refine w_getI (Ev.cm _) rfl (Nat.le_of_ble_eq_true rfl) rfl ?_
        refine w_bipush (Ev.cm _) rfl ?_
        refine w_icmp_lt (Ev.cm _) rfl (fun c19 => ?_) (fun c19 => ?_)
        · have c19 : I 308 0 < 24 := c19
          rw [if_pos c19] at q
          refine w_aload_n (Ev.cm _) rfl rfl ?_
          refine w_aload_n (Ev.cm _) rfl rfl ?_
          refine w_getI (Ev.cm _) rfl (Nat.le_of_ble_eq_true rfl) rfl ?_
          refine w_iconst (Ev.cm _) rfl ?_
          refine w_iadd (Ev.cm _) rfl ?_
          obtain ⟨⟨r19, I19, L19⟩, e19, q⟩ := obs q
          dsimp only at q
          refine w_cvirt (o := 307) (as := [.int ((I 307 8) + 1)]) (st := []) (Ev.cm _) rfl rfl rfl (Nat.le_of_ble_eq_true rfl) (Nat.le_of_ble_eq_true rfl) rfl (Nat.le_of_ble_eq_true rfl) (eo_R_comeTo (g := ?_) e19)
          show Wp _ _ _ _ _ _ _ 96 [(0, .ref 307), (1, .int (I 307 9)), (2, .int 0)] [] (HS I19 L19 X)
          refine w_iload_n (Ev.cm _) rfl rfl ?_
          refine w_if_eq (Ev.cm _) rfl (fun _ => ?_) (fun q => absurd (by decide) q)
          refine w_aload_n (Ev.cm _) rfl rfl ?_
          refine w_iload_n (Ev.cm _) rfl rfl ?_
          obtain ⟨⟨r20, I20, L20⟩, e20, q⟩ := obs q
          dsimp only at q
          refine w_cvirt (o := 307) (as := [.int (I 307 9)]) (st := []) (Ev.cm _) rfl rfl rfl (Nat.le_of_ble_eq_true rfl) (Nat.le_of_ble_eq_true rfl) rfl (Nat.le_of_ble_eq_true rfl) (eo_R_readDeed (g := ?_) e20)
          show Wp _ _ _ _ _ _ _ 116 [(0, .ref 307), (1, .int (I 307 9)), (2, .int 0)] [.int r20] (HS I20 L20 X)
          refine w_if_eq (Ev.cm _) rfl (fun c21 => ?_) (fun c21 => ?_)
          · have c21 : r20 = 0 := c21
            rw [if_pos c21] at q
            refine w_iconst (Ev.cm _) rfl ?_
            refine w_ireturn (Ev.cm _) rfl (by first | exact rok_0 | exact rok_1 | exact rok_b) rf0 ?_
            cases q
            exact g
          · have c21 : ¬ (r20 = 0) := c21
            rw [if_neg c21] at q
            refine w_aload_n (Ev.cm _) rfl rfl ?_
            refine w_bipush (Ev.cm _) rfl ?_
            obtain ⟨⟨r21, I21, L21⟩, e21, q⟩ := obs q
            dsimp only at q
            refine w_cvirt (o := 307) (as := [.int 20]) (st := []) (Ev.cm _) rfl rfl rfl (Nat.le_of_ble_eq_true rfl) (Nat.le_of_ble_eq_true rfl) rfl (Nat.le_of_ble_eq_true rfl) (eo_R_pass (g := ?_) e21)
            show Wp _ _ _ _ _ _ _ 125 [(0, .ref 307), (1, .int (I 307 9)), (2, .int 0)] [.int r21] (HS I21 L21 X)
            refine w_if_eq (Ev.cm _) rfl (fun c22 => ?_) (fun c22 => ?_)
            · have c22 : r21 = 0 := c22
              rw [if_pos c22] at q
              refine w_iconst (Ev.cm _) rfl ?_
              refine w_ireturn (Ev.cm _) rfl (by first | exact rok_0 | exact rok_1 | exact rok_b) rf0 ?_
              cases q
              exact g
            · have c22 : ¬ (r21 = 0) := c22
              rw [if_neg c22] at q
              refine w_iconst (Ev.cm _) rfl ?_
              refine w_goto (Ev.cm _) rfl ?_
              refine w_ireturn (Ev.cm _) rfl (by first | exact rok_0 | exact rok_1 | exact rok_b) rf0 ?_
              cases q
              exact g
        · have c19 : ¬ (I 308 0 < 24) := c19
          rw [if_neg c19] at q
          refine w_aload_n (Ev.cm _) rfl rfl ?_
          refine w_bipush (Ev.cm _) rfl ?_
          obtain ⟨⟨r22, I22, L22⟩, e22, q⟩ := obs q
          dsimp only at q
          refine w_cvirt (o := 307) (as := [.int 6]) (st := []) (Ev.cm _) rfl rfl rfl (Nat.le_of_ble_eq_true rfl) (Nat.le_of_ble_eq_true rfl) rfl (Nat.le_of_ble_eq_true rfl) (eo_R_fail (g := ?_) e22)
          show Wp _ _ _ _ _ _ _ 85 [(0, .ref 307), (1, .int (I 307 9)), (2, .int 0)] [.int r22] (HS I22 L22 X)
          obtain ⟨b23, q⟩ := ois q
          refine w_ireturn (Ev.cm _) rfl (show rok (some .boolean) _ from b23) rf0 ?_
          cases q
          exact g
      · have c17 : ¬ (I 307 9 = 30) := c17
        rw [if_neg c17] at q
        refine w_iload_n (Ev.cm _) rfl rfl ?_
        refine w_bipush (Ev.cm _) rfl ?_
        refine w_bipush (Ev.cm _) rfl ?_
        refine w_cnest (as := [.int (I 307 9), .int 38, .int 44]) (st := []) (Ev.cm _) rfl rfl rfl (Nat.le_of_ble_eq_true rfl) (Nat.le_of_ble_eq_true rfl) (x_within ?_)
        show Wp _ _ _ _ _ _ _ 37 [(0, .ref 307), (1, .int (I 307 9)), (2, .int 0)] [.int (bI ((38 : Int32) ≤ (I 307 9) ∧ (I 307 9) ≤ (44 : Int32)))] (HS I L X)
        refine w_if_ne (Ev.cm _) rfl (fun c23 => ?_) (fun c23 => ?_)
        · have c23 : (38 : Int32) ≤ (I 307 9) ∧ (I 307 9) ≤ (44 : Int32) := bI_1.mp c23
          rw [if_pos c23] at q
          refine w_iload_n (Ev.cm _) rfl rfl ?_
          refine w_if_eq (Ev.cm _) rfl (fun _ => ?_) (fun q => absurd (by decide) q)
          refine w_aload_n (Ev.cm _) rfl rfl ?_
          refine w_getR (q := 308) (Ev.cm _) rfl (Nat.le_of_ble_eq_true rfl) rfl rfl ?_
          refine w_getI (Ev.cm _) rfl (Nat.le_of_ble_eq_true rfl) rfl ?_
          refine w_bipush (Ev.cm _) rfl ?_
          refine w_icmp_lt (Ev.cm _) rfl (fun c25 => ?_) (fun c25 => ?_)
          · have c25 : I 308 0 < 24 := c25
            rw [if_pos c25] at q
            refine w_aload_n (Ev.cm _) rfl rfl ?_
            refine w_aload_n (Ev.cm _) rfl rfl ?_
            refine w_getI (Ev.cm _) rfl (Nat.le_of_ble_eq_true rfl) rfl ?_
            refine w_iconst (Ev.cm _) rfl ?_
            refine w_iadd (Ev.cm _) rfl ?_
            obtain ⟨⟨r24, I24, L24⟩, e24, q⟩ := obs q
            dsimp only at q
            refine w_cvirt (o := 307) (as := [.int ((I 307 8) + 1)]) (st := []) (Ev.cm _) rfl rfl rfl (Nat.le_of_ble_eq_true rfl) (Nat.le_of_ble_eq_true rfl) rfl (Nat.le_of_ble_eq_true rfl) (eo_R_comeTo (g := ?_) e24)
            show Wp _ _ _ _ _ _ _ 96 [(0, .ref 307), (1, .int (I 307 9)), (2, .int 0)] [] (HS I24 L24 X)
            refine w_iload_n (Ev.cm _) rfl rfl ?_
            refine w_if_eq (Ev.cm _) rfl (fun _ => ?_) (fun q => absurd (by decide) q)
            refine w_aload_n (Ev.cm _) rfl rfl ?_
            refine w_iload_n (Ev.cm _) rfl rfl ?_
            obtain ⟨⟨r25, I25, L25⟩, e25, q⟩ := obs q
            dsimp only at q
            refine w_cvirt (o := 307) (as := [.int (I 307 9)]) (st := []) (Ev.cm _) rfl rfl rfl (Nat.le_of_ble_eq_true rfl) (Nat.le_of_ble_eq_true rfl) rfl (Nat.le_of_ble_eq_true rfl) (eo_R_readDeed (g := ?_) e25)
            show Wp _ _ _ _ _ _ _ 116 [(0, .ref 307), (1, .int (I 307 9)), (2, .int 0)] [.int r25] (HS I25 L25 X)
            refine w_if_eq (Ev.cm _) rfl (fun c27 => ?_) (fun c27 => ?_)
            · have c27 : r25 = 0 := c27
              rw [if_pos c27] at q
              refine w_iconst (Ev.cm _) rfl ?_
              refine w_ireturn (Ev.cm _) rfl (by first | exact rok_0 | exact rok_1 | exact rok_b) rf0 ?_
              cases q
              exact g
            · have c27 : ¬ (r25 = 0) := c27
              rw [if_neg c27] at q
              refine w_aload_n (Ev.cm _) rfl rfl ?_
              refine w_bipush (Ev.cm _) rfl ?_
              obtain ⟨⟨r26, I26, L26⟩, e26, q⟩ := obs q
              dsimp only at q
              refine w_cvirt (o := 307) (as := [.int 20]) (st := []) (Ev.cm _) rfl rfl rfl (Nat.le_of_ble_eq_true rfl) (Nat.le_of_ble_eq_true rfl) rfl (Nat.le_of_ble_eq_true rfl) (eo_R_pass (g := ?_) e26)
              show Wp _ _ _ _ _ _ _ 125 [(0, .ref 307), (1, .int (I 307 9)), (2, .int 0)] [.int r26] (HS I26 L26 X)
              refine w_if_eq (Ev.cm _) rfl (fun c28 => ?_) (fun c28 => ?_)
              · have c28 : r26 = 0 := c28
                rw [if_pos c28] at q
                refine w_iconst (Ev.cm _) rfl ?_
                refine w_ireturn (Ev.cm _) rfl (by first | exact rok_0 | exact rok_1 | exact rok_b) rf0 ?_
                cases q
                exact g
              · have c28 : ¬ (r26 = 0) := c28
                rw [if_neg c28] at q
                refine w_iconst (Ev.cm _) rfl ?_
                refine w_goto (Ev.cm _) rfl ?_
                refine w_ireturn (Ev.cm _) rfl (by first | exact rok_0 | exact rok_1 | exact rok_b) rf0 ?_
                cases q
                exact g
          · have c25 : ¬ (I 308 0 < 24) := c25
            rw [if_neg c25] at q
            refine w_aload_n (Ev.cm _) rfl rfl ?_
            refine w_bipush (Ev.cm _) rfl ?_
            obtain ⟨⟨r27, I27, L27⟩, e27, q⟩ := obs q
            dsimp only at q
            refine w_cvirt (o := 307) (as := [.int 6]) (st := []) (Ev.cm _) rfl rfl rfl (Nat.le_of_ble_eq_true rfl) (Nat.le_of_ble_eq_true rfl) rfl (Nat.le_of_ble_eq_true rfl) (eo_R_fail (g := ?_) e27)
            show Wp _ _ _ _ _ _ _ 85 [(0, .ref 307), (1, .int (I 307 9)), (2, .int 0)] [.int r27] (HS I27 L27 X)
            obtain ⟨b28, q⟩ := ois q
            refine w_ireturn (Ev.cm _) rfl (show rok (some .boolean) _ from b28) rf0 ?_
            cases q
            exact g
        · have c23 : ¬ ((38 : Int32) ≤ (I 307 9) ∧ (I 307 9) ≤ (44 : Int32)) := bI_0.mp c23
          rw [if_neg c23] at q
          refine w_aload_n (Ev.cm _) rfl rfl ?_
          refine w_iconst (Ev.cm _) rfl ?_
          obtain ⟨⟨r29, I29, L29⟩, e29, q⟩ := obs q
          dsimp only at q
          refine w_cvirt (o := 307) (as := [.int 1]) (st := []) (Ev.cm _) rfl rfl rfl (Nat.le_of_ble_eq_true rfl) (Nat.le_of_ble_eq_true rfl) rfl (Nat.le_of_ble_eq_true rfl) (eo_R_fail (g := ?_) e29)
          show Wp _ _ _ _ _ _ _ 45 [(0, .ref 307), (1, .int (I 307 9)), (2, .int 0)] [.int r29] (HS I29 L29 X)
          obtain ⟨b30, q⟩ := ois q
          refine w_ireturn (Ev.cm _) rfl (show rok (some .boolean) _ from b30) rf0 ?_
          cases q
          exact g
    · have c16 : I 307 9 = 39 := c16
      rw [if_pos c16] at q
      refine w_iconst (Ev.cm _) rfl ?_
      refine w_goto (Ev.cm _) rfl ?_
      refine w_istore_n (ls2 := [(0, .ref 307), (1, .int (I 307 9)), (2, .int 1)]) (Ev.cm _) rfl rfl ?_
      refine w_iload_n (Ev.cm _) rfl rfl ?_
      refine w_bipush (Ev.cm _) rfl ?_
      refine w_icmp_eq (Ev.cm _) rfl (fun c29 => ?_) (fun c29 => ?_)
      · have c29 : I 307 9 = 30 := c29
        rw [if_pos c29] at q
        refine w_iload_n (Ev.cm _) rfl rfl ?_
        refine w_if_eq (Ev.cm _) rfl (fun q => absurd q (by decide)) (fun _ => ?_)
        refine w_aload_n (Ev.cm _) rfl rfl ?_
        refine w_getR (q := 308) (Ev.cm _) rfl (Nat.le_of_ble_eq_true rfl) rfl rfl ?_
        refine w_iload_n (Ev.cm _) rfl rfl ?_
        obtain ⟨⟨r31, I31, L31⟩, e31, q⟩ := obs q
        dsimp only at q
        refine w_cvirt (o := 308) (as := [.int (I 307 9)]) (st := []) (Ev.cm _) rfl rfl rfl (Nat.le_of_ble_eq_true rfl) (Nat.le_of_ble_eq_true rfl) rfl (Nat.le_of_ble_eq_true rfl) (eo_T_rules (g := ?_) e31)
        show Wp _ _ _ _ _ _ _ 58 [(0, .ref 307), (1, .int (I 307 9)), (2, .int 1)] [.int r31] (HS I31 L31 X)
        refine w_if_eq (Ev.cm _) rfl (fun c31 => ?_) (fun c31 => ?_)
        · have c31 : r31 = 0 := c31
          rw [if_pos c31] at q
          refine w_aload_n (Ev.cm _) rfl rfl ?_
          refine w_getR (q := 308) (Ev.cm _) rfl (Nat.le_of_ble_eq_true rfl) rfl rfl ?_
          refine w_getI (Ev.cm _) rfl (Nat.le_of_ble_eq_true rfl) rfl ?_
          refine w_bipush (Ev.cm _) rfl ?_
          refine w_icmp_lt (Ev.cm _) rfl (fun c32 => ?_) (fun c32 => ?_)
          · have c32 : I31 308 0 < 24 := c32
            rw [if_pos c32] at q
            refine w_aload_n (Ev.cm _) rfl rfl ?_
            refine w_aload_n (Ev.cm _) rfl rfl ?_
            refine w_getI (Ev.cm _) rfl (Nat.le_of_ble_eq_true rfl) rfl ?_
            refine w_iconst (Ev.cm _) rfl ?_
            refine w_iadd (Ev.cm _) rfl ?_
            obtain ⟨⟨r32, I32, L32⟩, e32, q⟩ := obs q
            dsimp only at q
            refine w_cvirt (o := 307) (as := [.int ((I31 307 8) + 1)]) (st := []) (Ev.cm _) rfl rfl rfl (Nat.le_of_ble_eq_true rfl) (Nat.le_of_ble_eq_true rfl) rfl (Nat.le_of_ble_eq_true rfl) (eo_R_comeTo (g := ?_) e32)
            show Wp _ _ _ _ _ _ _ 96 [(0, .ref 307), (1, .int (I 307 9)), (2, .int 1)] [] (HS I32 L32 X)
            refine w_iload_n (Ev.cm _) rfl rfl ?_
            refine w_if_eq (Ev.cm _) rfl (fun q => absurd q (by decide)) (fun _ => ?_)
            refine w_aload_n (Ev.cm _) rfl rfl ?_
            refine w_iload_n (Ev.cm _) rfl rfl ?_
            obtain ⟨⟨r33, I33, L33⟩, e33, q⟩ := obs q
            dsimp only at q
            refine w_cvirt (o := 307) (as := [.int (I 307 9)]) (st := []) (Ev.cm _) rfl rfl rfl (Nat.le_of_ble_eq_true rfl) (Nat.le_of_ble_eq_true rfl) rfl (Nat.le_of_ble_eq_true rfl) (eo_R_readLaw (g := ?_) e33)
            show Wp _ _ _ _ _ _ _ 105 [(0, .ref 307), (1, .int (I 307 9)), (2, .int 1)] [.int r33] (HS I33 L33 X)
            refine w_if_eq (Ev.cm _) rfl (fun c34 => ?_) (fun c34 => ?_)
            · have c34 : r33 = 0 := c34
              rw [if_pos c34] at q
              refine w_iconst (Ev.cm _) rfl ?_
              refine w_ireturn (Ev.cm _) rfl (by first | exact rok_0 | exact rok_1 | exact rok_b) rf0 ?_
              cases q
              exact g
            · have c34 : ¬ (r33 = 0) := c34
              rw [if_neg c34] at q
              refine w_goto (Ev.cm _) rfl ?_
              refine w_aload_n (Ev.cm _) rfl rfl ?_
              refine w_bipush (Ev.cm _) rfl ?_
              obtain ⟨⟨r34, I34, L34⟩, e34, q⟩ := obs q
              dsimp only at q
              refine w_cvirt (o := 307) (as := [.int 20]) (st := []) (Ev.cm _) rfl rfl rfl (Nat.le_of_ble_eq_true rfl) (Nat.le_of_ble_eq_true rfl) rfl (Nat.le_of_ble_eq_true rfl) (eo_R_pass (g := ?_) e34)
              show Wp _ _ _ _ _ _ _ 125 [(0, .ref 307), (1, .int (I 307 9)), (2, .int 1)] [.int r34] (HS I34 L34 X)
              refine w_if_eq (Ev.cm _) rfl (fun c35 => ?_) (fun c35 => ?_)
              · have c35 : r34 = 0 := c35
                rw [if_pos c35] at q
                refine w_iconst (Ev.cm _) rfl ?_
                refine w_ireturn (Ev.cm _) rfl (by first | exact rok_0 | exact rok_1 | exact rok_b) rf0 ?_
                cases q
                exact g
              · have c35 : ¬ (r34 = 0) := c35
                rw [if_neg c35] at q
                refine w_iconst (Ev.cm _) rfl ?_
                refine w_goto (Ev.cm _) rfl ?_
                refine w_ireturn (Ev.cm _) rfl (by first | exact rok_0 | exact rok_1 | exact rok_b) rf0 ?_
                cases q
                exact g
          · have c32 : ¬ (I31 308 0 < 24) := c32
            rw [if_neg c32] at q
            refine w_aload_n (Ev.cm _) rfl rfl ?_
            refine w_bipush (Ev.cm _) rfl ?_
            obtain ⟨⟨r35, I35, L35⟩, e35, q⟩ := obs q
            dsimp only at q
            refine w_cvirt (o := 307) (as := [.int 6]) (st := []) (Ev.cm _) rfl rfl rfl (Nat.le_of_ble_eq_true rfl) (Nat.le_of_ble_eq_true rfl) rfl (Nat.le_of_ble_eq_true rfl) (eo_R_fail (g := ?_) e35)
            show Wp _ _ _ _ _ _ _ 85 [(0, .ref 307), (1, .int (I 307 9)), (2, .int 1)] [.int r35] (HS I35 L35 X)
            obtain ⟨b36, q⟩ := ois q
            refine w_ireturn (Ev.cm _) rfl (show rok (some .boolean) _ from b36) rf0 ?_
            cases q
            exact g
        · have c31 : ¬ (r31 = 0) := c31
          rw [if_neg c31] at q
          refine w_aload_n (Ev.cm _) rfl rfl ?_
          refine w_iconst (Ev.cm _) rfl ?_
          obtain ⟨⟨r37, I37, L37⟩, e37, q⟩ := obs q
          dsimp only at q
          refine w_cvirt (o := 307) (as := [.int 4]) (st := []) (Ev.cm _) rfl rfl rfl (Nat.le_of_ble_eq_true rfl) (Nat.le_of_ble_eq_true rfl) rfl (Nat.le_of_ble_eq_true rfl) (eo_R_fail (g := ?_) e37)
          show Wp _ _ _ _ _ _ _ 66 [(0, .ref 307), (1, .int (I 307 9)), (2, .int 1)] [.int r37] (HS I37 L37 X)
          obtain ⟨b38, q⟩ := ois q
          refine w_ireturn (Ev.cm _) rfl (show rok (some .boolean) _ from b38) rf0 ?_
          cases q
          exact g
      · have c29 : ¬ (I 307 9 = 30) := c29
        rw [if_neg c29] at q
        refine w_iload_n (Ev.cm _) rfl rfl ?_
        refine w_bipush (Ev.cm _) rfl ?_
        refine w_bipush (Ev.cm _) rfl ?_
        refine w_cnest (as := [.int (I 307 9), .int 38, .int 44]) (st := []) (Ev.cm _) rfl rfl rfl (Nat.le_of_ble_eq_true rfl) (Nat.le_of_ble_eq_true rfl) (x_within ?_)
        show Wp _ _ _ _ _ _ _ 37 [(0, .ref 307), (1, .int (I 307 9)), (2, .int 1)] [.int (bI ((38 : Int32) ≤ (I 307 9) ∧ (I 307 9) ≤ (44 : Int32)))] (HS I L X)
        refine w_if_ne (Ev.cm _) rfl (fun c36 => ?_) (fun c36 => ?_)
        · have c36 : (38 : Int32) ≤ (I 307 9) ∧ (I 307 9) ≤ (44 : Int32) := bI_1.mp c36
          rw [if_pos c36] at q
          refine w_iload_n (Ev.cm _) rfl rfl ?_
          refine w_if_eq (Ev.cm _) rfl (fun q => absurd q (by decide)) (fun _ => ?_)
          refine w_aload_n (Ev.cm _) rfl rfl ?_
          refine w_getR (q := 308) (Ev.cm _) rfl (Nat.le_of_ble_eq_true rfl) rfl rfl ?_
          refine w_iload_n (Ev.cm _) rfl rfl ?_
          obtain ⟨⟨r39, I39, L39⟩, e39, q⟩ := obs q
          dsimp only at q
          refine w_cvirt (o := 308) (as := [.int (I 307 9)]) (st := []) (Ev.cm _) rfl rfl rfl (Nat.le_of_ble_eq_true rfl) (Nat.le_of_ble_eq_true rfl) rfl (Nat.le_of_ble_eq_true rfl) (eo_T_rules (g := ?_) e39)
          show Wp _ _ _ _ _ _ _ 58 [(0, .ref 307), (1, .int (I 307 9)), (2, .int 1)] [.int r39] (HS I39 L39 X)
          refine w_if_eq (Ev.cm _) rfl (fun c38 => ?_) (fun c38 => ?_)
          · have c38 : r39 = 0 := c38
            rw [if_pos c38] at q
            refine w_aload_n (Ev.cm _) rfl rfl ?_
            refine w_getR (q := 308) (Ev.cm _) rfl (Nat.le_of_ble_eq_true rfl) rfl rfl ?_
            refine w_getI (Ev.cm _) rfl (Nat.le_of_ble_eq_true rfl) rfl ?_
            refine w_bipush (Ev.cm _) rfl ?_
            refine w_icmp_lt (Ev.cm _) rfl (fun c39 => ?_) (fun c39 => ?_)
            · have c39 : I39 308 0 < 24 := c39
              rw [if_pos c39] at q
              refine w_aload_n (Ev.cm _) rfl rfl ?_
              refine w_aload_n (Ev.cm _) rfl rfl ?_
              refine w_getI (Ev.cm _) rfl (Nat.le_of_ble_eq_true rfl) rfl ?_
              refine w_iconst (Ev.cm _) rfl ?_
              refine w_iadd (Ev.cm _) rfl ?_
              obtain ⟨⟨r40, I40, L40⟩, e40, q⟩ := obs q
              dsimp only at q
              refine w_cvirt (o := 307) (as := [.int ((I39 307 8) + 1)]) (st := []) (Ev.cm _) rfl rfl rfl (Nat.le_of_ble_eq_true rfl) (Nat.le_of_ble_eq_true rfl) rfl (Nat.le_of_ble_eq_true rfl) (eo_R_comeTo (g := ?_) e40)
              show Wp _ _ _ _ _ _ _ 96 [(0, .ref 307), (1, .int (I 307 9)), (2, .int 1)] [] (HS I40 L40 X)
              refine w_iload_n (Ev.cm _) rfl rfl ?_
              refine w_if_eq (Ev.cm _) rfl (fun q => absurd q (by decide)) (fun _ => ?_)
              refine w_aload_n (Ev.cm _) rfl rfl ?_
              refine w_iload_n (Ev.cm _) rfl rfl ?_
              obtain ⟨⟨r41, I41, L41⟩, e41, q⟩ := obs q
              dsimp only at q
              refine w_cvirt (o := 307) (as := [.int (I 307 9)]) (st := []) (Ev.cm _) rfl rfl rfl (Nat.le_of_ble_eq_true rfl) (Nat.le_of_ble_eq_true rfl) rfl (Nat.le_of_ble_eq_true rfl) (eo_R_readLaw (g := ?_) e41)
              show Wp _ _ _ _ _ _ _ 105 [(0, .ref 307), (1, .int (I 307 9)), (2, .int 1)] [.int r41] (HS I41 L41 X)
              refine w_if_eq (Ev.cm _) rfl (fun c41 => ?_) (fun c41 => ?_)
              · have c41 : r41 = 0 := c41
                rw [if_pos c41] at q
                refine w_iconst (Ev.cm _) rfl ?_
                refine w_ireturn (Ev.cm _) rfl (by first | exact rok_0 | exact rok_1 | exact rok_b) rf0 ?_
                cases q
                exact g
              · have c41 : ¬ (r41 = 0) := c41
                rw [if_neg c41] at q
                refine w_goto (Ev.cm _) rfl ?_
                refine w_aload_n (Ev.cm _) rfl rfl ?_
                refine w_bipush (Ev.cm _) rfl ?_
                obtain ⟨⟨r42, I42, L42⟩, e42, q⟩ := obs q
                dsimp only at q
                refine w_cvirt (o := 307) (as := [.int 20]) (st := []) (Ev.cm _) rfl rfl rfl (Nat.le_of_ble_eq_true rfl) (Nat.le_of_ble_eq_true rfl) rfl (Nat.le_of_ble_eq_true rfl) (eo_R_pass (g := ?_) e42)
                show Wp _ _ _ _ _ _ _ 125 [(0, .ref 307), (1, .int (I 307 9)), (2, .int 1)] [.int r42] (HS I42 L42 X)
                refine w_if_eq (Ev.cm _) rfl (fun c42 => ?_) (fun c42 => ?_)
                · have c42 : r42 = 0 := c42
                  rw [if_pos c42] at q
                  refine w_iconst (Ev.cm _) rfl ?_
                  refine w_ireturn (Ev.cm _) rfl (by first | exact rok_0 | exact rok_1 | exact rok_b) rf0 ?_
                  cases q
                  exact g
                · have c42 : ¬ (r42 = 0) := c42
                  rw [if_neg c42] at q
                  refine w_iconst (Ev.cm _) rfl ?_
                  refine w_goto (Ev.cm _) rfl ?_
                  refine w_ireturn (Ev.cm _) rfl (by first | exact rok_0 | exact rok_1 | exact rok_b) rf0 ?_
                  cases q
                  exact g
            · have c39 : ¬ (I39 308 0 < 24) := c39
              rw [if_neg c39] at q
              refine w_aload_n (Ev.cm _) rfl rfl ?_
              refine w_bipush (Ev.cm _) rfl ?_
              obtain ⟨⟨r43, I43, L43⟩, e43, q⟩ := obs q
              dsimp only at q
              refine w_cvirt (o := 307) (as := [.int 6]) (st := []) (Ev.cm _) rfl rfl rfl (Nat.le_of_ble_eq_true rfl) (Nat.le_of_ble_eq_true rfl) rfl (Nat.le_of_ble_eq_true rfl) (eo_R_fail (g := ?_) e43)
              show Wp _ _ _ _ _ _ _ 85 [(0, .ref 307), (1, .int (I 307 9)), (2, .int 1)] [.int r43] (HS I43 L43 X)
              obtain ⟨b44, q⟩ := ois q
              refine w_ireturn (Ev.cm _) rfl (show rok (some .boolean) _ from b44) rf0 ?_
              cases q
              exact g
          · have c38 : ¬ (r39 = 0) := c38
            rw [if_neg c38] at q
            refine w_aload_n (Ev.cm _) rfl rfl ?_
            refine w_iconst (Ev.cm _) rfl ?_
            obtain ⟨⟨r45, I45, L45⟩, e45, q⟩ := obs q
            dsimp only at q
            refine w_cvirt (o := 307) (as := [.int 4]) (st := []) (Ev.cm _) rfl rfl rfl (Nat.le_of_ble_eq_true rfl) (Nat.le_of_ble_eq_true rfl) rfl (Nat.le_of_ble_eq_true rfl) (eo_R_fail (g := ?_) e45)
            show Wp _ _ _ _ _ _ _ 66 [(0, .ref 307), (1, .int (I 307 9)), (2, .int 1)] [.int r45] (HS I45 L45 X)
            obtain ⟨b46, q⟩ := ois q
            refine w_ireturn (Ev.cm _) rfl (show rok (some .boolean) _ from b46) rf0 ?_
            cases q
            exact g
        · have c36 : ¬ ((38 : Int32) ≤ (I 307 9) ∧ (I 307 9) ≤ (44 : Int32)) := bI_0.mp c36
          rw [if_neg c36] at q
          refine w_aload_n (Ev.cm _) rfl rfl ?_
          refine w_iconst (Ev.cm _) rfl ?_
          obtain ⟨⟨r47, I47, L47⟩, e47, q⟩ := obs q
          dsimp only at q
          refine w_cvirt (o := 307) (as := [.int 1]) (st := []) (Ev.cm _) rfl rfl rfl (Nat.le_of_ble_eq_true rfl) (Nat.le_of_ble_eq_true rfl) rfl (Nat.le_of_ble_eq_true rfl) (eo_R_fail (g := ?_) e47)
          show Wp _ _ _ _ _ _ _ 45 [(0, .ref 307), (1, .int (I 307 9)), (2, .int 1)] [.int r47] (HS I47 L47 X)
          obtain ⟨b48, q⟩ := ois q
          refine w_ireturn (Ev.cm _) rfl (show rok (some .boolean) _ from b48) rf0 ?_
          cases q
          exact g
def LO_R_read_43 (fu : Nat) : Nat → Int32 → Int32 → Int32 → (Nat → Nat → Int32) → (Nat → Nat → Int64) → Option (Int32 × (Nat → Nat → Int32) × (Nat → Nat → Int64))
  | 0, _, _, _, _, _ => none
  | n + 1, x2, x3, x4, I, L => if 300 < x4 then (if x3 = 0 ∨ x3 = 1 then (some (x3, I, L)) else none) else (if x3 = 0 then (if x3 = 0 ∨ x3 = 1 then (some (x3, I, L)) else none) else (if I 307 9 = 0 then (if x3 = 0 ∨ x3 = 1 then (some (x3, I, L)) else none) else ((FO_R_readClause fu  I L).bind (fun u4 => let r4 := u4.1; let I4 := u4.2.1; let L4 := u4.2.2; LO_R_read_43 fu n x2 r4 (x4 + 1) I4 L4))))
set_option maxHeartbeats 20000000 in
set_option maxRecDepth 20000 in
theorem lo_R_read_43 {d fu n0 s0 : Nat} {X : Nat × (Nat → Int32)} {Q : PQ} {res : Int32 × (Nat → Nat → Int32) × (Nat → Nat → Int64)}  (g : Q (some (.int res.1)) (HS res.2.1 res.2.2 X)) : ∀ (n : Nat) (x2 : Int32) (x3 : Int32) (x4 : Int32) (I : Nat → Nat → Int32) (L : Nat → Nat → Int64), LO_R_read_43 fu n x2 x3 x4 I L = some res → Wp (Ev (d + 81)) cd_R_read (0, 0) (some .boolean) n0 s0 Q 43 [(0, .ref 307), (1, .ref 306), (2, .int x2), (3, .int x3), (4, .int x4)] [] (HS I L X) := by
  intro n
  induction n with
  | zero => intro _ _ _ _ _ q; cases q
  | succ n ih =>
    intro x2 x3 x4 I L q
    unfold LO_R_read_43 at q
    refine w_iload (Ev.cm _) rfl rfl ?_
    refine w_sipush (Ev.cm _) rfl ?_
    refine w_icmp_gt (Ev.cm _) rfl (fun c1 => ?_) (fun c1 => ?_)
    · have c1 : 300 < x4 := c1
      rw [if_pos c1] at q
      refine w_iload_n (Ev.cm _) rfl rfl ?_
      obtain ⟨b1, q⟩ := ois q
      refine w_ireturn (Ev.cm _) rfl (show rok (some .boolean) _ from b1) rf0 ?_
      cases q
      exact g
    · have c1 : ¬ (300 < x4) := c1
      rw [if_neg c1] at q
      refine w_iload_n (Ev.cm _) rfl rfl ?_
      refine w_if_eq (Ev.cm _) rfl (fun c2 => ?_) (fun c2 => ?_)
      · have c2 : x3 = 0 := c2
        rw [if_pos c2] at q
        refine w_iload_n (Ev.cm _) rfl rfl ?_
        obtain ⟨b2, q⟩ := ois q
        refine w_ireturn (Ev.cm _) rfl (show rok (some .boolean) _ from b2) rf0 ?_
        cases q
        exact g
      · have c2 : ¬ (x3 = 0) := c2
        rw [if_neg c2] at q
        refine w_aload_n (Ev.cm _) rfl rfl ?_
        refine w_getI (Ev.cm _) rfl (Nat.le_of_ble_eq_true rfl) rfl ?_
        refine w_if_eq (Ev.cm _) rfl (fun c3 => ?_) (fun c3 => ?_)
        · have c3 : I 307 9 = 0 := c3
          rw [if_pos c3] at q
          refine w_iload_n (Ev.cm _) rfl rfl ?_
          obtain ⟨b3, q⟩ := ois q
          refine w_ireturn (Ev.cm _) rfl (show rok (some .boolean) _ from b3) rf0 ?_
          cases q
          exact g
        · have c3 : ¬ (I 307 9 = 0) := c3
          rw [if_neg c3] at q
          refine w_aload_n (Ev.cm _) rfl rfl ?_
          obtain ⟨⟨r4, I4, L4⟩, e4, q⟩ := obs q
          dsimp only at q
          refine w_cvirt (o := 307) (as := []) (st := []) (Ev.cm _) rfl rfl rfl (Nat.le_of_ble_eq_true rfl) (Nat.le_of_ble_eq_true rfl) rfl (Nat.le_of_ble_eq_true rfl) (eo_R_readClause (g := ?_) e4)
          show Wp _ _ _ _ _ _ _ 66 [(0, .ref 307), (1, .ref 306), (2, .int x2), (3, .int x3), (4, .int x4)] [.int r4] (HS I4 L4 X)
          refine w_istore_n (ls2 := [(0, .ref 307), (1, .ref 306), (2, .int x2), (3, .int r4), (4, .int x4)]) (Ev.cm _) rfl rfl ?_
          refine w_iinc (ls2 := [(0, .ref 307), (1, .ref 306), (2, .int x2), (3, .int r4), (4, .int (x4 + 1))]) (Ev.cm _) rfl rfl rfl ?_
          refine w_goto (Ev.cm _) rfl ?_
          show Wp _ _ _ _ _ _ _ 43 [(0, .ref 307), (1, .ref 306), (2, .int x2), (3, .int r4), (4, .int (x4 + 1))] [] (HS I4 L4 X)
          refine Wp.sub [0, 1, 2, 3, 4] (ls2 := [(0, .ref 307), (1, .ref 306), (2, .int x2), (3, .int r4), (4, .int (x4 + 1))]) rfl ?_
          exact ih _ _ _ _ _ q
def FO_R_read (fu : Nat) (p1 : Int32) (I : Nat → Nat → Int32) (L : Nat → Nat → Int64) : Option (Int32 × (Nat → Nat → Int32) × (Nat → Nat → Int64)) := (FO_T_empty fu  (sI (sI (sI I 307 0 1) 307 1 0) 307 2 (-1)) L).bind (fun u1 => let r1 := u1.1; let I1 := u1.2.1; let L1 := u1.2.2; (FO_R_cutTokens fu (F_J_min I1 p1 300) I1 L1).bind (fun u2 => let r2 := u2.1; let I2 := u2.2.1; let L2 := u2.2.2; (FO_R_comeTo fu 0 I2 L2).bind (fun u3 => let r3 := u3.1; let I3 := u3.2.1; let L3 := u3.2.2; LO_R_read_43 fu fu p1 1 0 I3 L3)))
set_option maxHeartbeats 20000000 in
set_option maxRecDepth 20000 in
theorem eo_R_read {d fu : Nat} {p1 : Int32} {I : Nat → Nat → Int32} {L : Nat → Nat → Int64} {X : Nat × (Nat → Int32)} {Q : PQ} {res : Int32 × (Nat → Nat → Int32) × (Nat → Nat → Int64)}  (g : Q (some (.int res.1)) (HS res.2.1 res.2.2 X)) (q : FO_R_read fu p1 I L = some res) : Ev (d + 82) m_R_read [.ref 307, .ref 306, .int p1] (HS I L X) Q := by
  unfold FO_R_read at q
  refine ev_start (d := d + 81) rfl rfl rfl (Nat.le_of_ble_eq_true rfl) ?_
  show Wp (Ev (d + 81)) cd_R_read (0, 0) (some .boolean) _ _ Q 0 [(0, .ref 307), (1, .ref 306), (2, .int p1)] [] (HS I L X)
  refine w_aload_n (Ev.cm _) rfl rfl ?_
  refine w_iconst (Ev.cm _) rfl ?_
  refine w_putZ (Ev.cm _) rfl (Nat.le_of_ble_eq_true rfl) rfl (by first | decide | exact bI_b) ?_
  refine w_aload_n (Ev.cm _) rfl rfl ?_
  refine w_iconst (Ev.cm _) rfl ?_
  refine w_putI (Ev.cm _) rfl (Nat.le_of_ble_eq_true rfl) rfl ?_
  refine w_aload_n (Ev.cm _) rfl rfl ?_
  refine w_iconst (Ev.cm _) rfl ?_
  refine w_putI (Ev.cm _) rfl (Nat.le_of_ble_eq_true rfl) rfl ?_
  refine w_aload_n (Ev.cm _) rfl rfl ?_
  refine w_getR (q := 308) (Ev.cm _) rfl (Nat.le_of_ble_eq_true rfl) rfl rfl ?_
  obtain ⟨⟨r1, I1, L1⟩, e1, q⟩ := obs q
  dsimp only at q
  refine w_cvirt (o := 308) (as := []) (st := []) (Ev.cm _) rfl rfl rfl (Nat.le_of_ble_eq_true rfl) (Nat.le_of_ble_eq_true rfl) rfl (Nat.le_of_ble_eq_true rfl) (eo_T_empty (g := ?_) e1)
  show Wp _ _ _ _ _ _ _ 22 [(0, .ref 307), (1, .ref 306), (2, .int p1)] [] (HS I1 L1 X)
  refine w_aload_n (Ev.cm _) rfl rfl ?_
  refine w_aload_n (Ev.cm _) rfl rfl ?_
  refine w_iload_n (Ev.cm _) rfl rfl ?_
  refine w_aload_n (Ev.cm _) rfl rfl ?_
  refine w_alen (Ev.cm _) rfl (Nat.le_of_ble_eq_true rfl) (Nat.le_of_ble_eq_true rfl) (Nat.le_of_ble_eq_true rfl) ?_
  refine w_cstat (as := [.int p1, .int 300]) (st := [.ref 306, .ref 307]) (Ev.cm _) rfl rfl rfl (Nat.le_of_ble_eq_true rfl) (Nat.le_of_ble_eq_true rfl) (e_J_min ?_)
  show Wp _ _ _ _ _ _ _ 30 [(0, .ref 307), (1, .ref 306), (2, .int p1)] [.int (F_J_min I1 p1 300), .ref 306, .ref 307] (HS I1 L1 X)
  obtain ⟨⟨r2, I2, L2⟩, e2, q⟩ := obs q
  dsimp only at q
  refine w_cvirt (o := 307) (as := [.ref 306, .int (F_J_min I1 p1 300)]) (st := []) (Ev.cm _) rfl rfl rfl (Nat.le_of_ble_eq_true rfl) (Nat.le_of_ble_eq_true rfl) rfl (Nat.le_of_ble_eq_true rfl) (eo_R_cutTokens (g := ?_) e2)
  show Wp _ _ _ _ _ _ _ 33 [(0, .ref 307), (1, .ref 306), (2, .int p1)] [] (HS I2 L2 X)
  refine w_aload_n (Ev.cm _) rfl rfl ?_
  refine w_iconst (Ev.cm _) rfl ?_
  obtain ⟨⟨r3, I3, L3⟩, e3, q⟩ := obs q
  dsimp only at q
  refine w_cvirt (o := 307) (as := [.int 0]) (st := []) (Ev.cm _) rfl rfl rfl (Nat.le_of_ble_eq_true rfl) (Nat.le_of_ble_eq_true rfl) rfl (Nat.le_of_ble_eq_true rfl) (eo_R_comeTo (g := ?_) e3)
  show Wp _ _ _ _ _ _ _ 38 [(0, .ref 307), (1, .ref 306), (2, .int p1)] [] (HS I3 L3 X)
  refine w_iconst (Ev.cm _) rfl ?_
  refine w_istore_n (ls2 := [(0, .ref 307), (1, .ref 306), (2, .int p1), (3, .int 1)]) (Ev.cm _) rfl rfl ?_
  refine w_iconst (Ev.cm _) rfl ?_
  refine w_istore (ls2 := [(0, .ref 307), (1, .ref 306), (2, .int p1), (3, .int 1), (4, .int 0)]) (Ev.cm _) rfl rfl ?_
  show Wp _ _ _ _ _ _ _ 43 [(0, .ref 307), (1, .ref 306), (2, .int p1), (3, .int 1), (4, .int 0)] [] (HS I3 L3 X)
  refine Wp.sub [0, 1, 2, 3, 4] (ls2 := [(0, .ref 307), (1, .ref 306), (2, .int p1), (3, .int 1), (4, .int 0)]) rfl ?_
  exact lo_R_read_43 g fu _ _ _ _ _ q
def FO_X_text (fu : Nat) (I : Nat → Nat → Int32) (L : Nat → Nat → Int64) : Option (Int32 × (Nat → Nat → Int32) × (Nat → Nat → Int64)) := if (0 : Int32) ≤ (I 1 6) ∧ (I 1 6) ≤ (3 : Int32) then ((FO_R_read fu (I 0 4) I L).bind (fun u1 => let r1 := u1.1; let I1 := u1.2.1; let L1 := u1.2.2; if 0 ≤ I1 1 6 ∧ I1 1 6 < 4 then (if r1 = 0 then (some ((-1), sI I1 0 4 0, L1)) else ((FO_T_copyText fu (274 + 8 * (I1 1 6).toNatClampNeg) (sI I1 0 4 0) L1).bind (fun u3 => let r3 := u3.1; let I3 := u3.2.1; let L3 := u3.2.2; some (((I3 1 6) + 1) - 1, sI I3 1 6 ((I3 1 6) + 1), L3)))) else none)) else (some ((-1), I, L))
set_option maxHeartbeats 20000000 in
set_option maxRecDepth 20000 in
theorem eo_X_text {d fu : Nat} {I : Nat → Nat → Int32} {L : Nat → Nat → Int64} {X : Nat × (Nat → Int32)} {Q : PQ} {res : Int32 × (Nat → Nat → Int32) × (Nat → Nat → Int64)}  (g : Q (some (.int res.1)) (HS res.2.1 res.2.2 X)) (q : FO_X_text fu  I L = some res) : Ev (d + 83) m_X_text [.ref 0] (HS I L X) Q := by
  unfold FO_X_text at q
  refine ev_start (d := d + 82) rfl rfl rfl (Nat.le_of_ble_eq_true rfl) ?_
  show Wp (Ev (d + 82)) cd_X_text (0, 0) (some .int) _ _ Q 0 [(0, .ref 0)] [] (HS I L X)
  refine w_aload_n (Ev.cm _) rfl rfl ?_
  refine w_getR (q := 1) (Ev.cm _) rfl (Nat.le_of_ble_eq_true rfl) rfl rfl ?_
  refine w_getI (Ev.cm _) rfl (Nat.le_of_ble_eq_true rfl) rfl ?_
  refine w_iconst (Ev.cm _) rfl ?_
  refine w_iconst (Ev.cm _) rfl ?_
  refine w_cstat (as := [.int (I 1 6), .int 0, .int 3]) (st := []) (Ev.cm _) rfl rfl rfl (Nat.le_of_ble_eq_true rfl) (Nat.le_of_ble_eq_true rfl) (x_within ?_)
  show Wp _ _ _ _ _ _ _ 12 [(0, .ref 0)] [.int (bI ((0 : Int32) ≤ (I 1 6) ∧ (I 1 6) ≤ (3 : Int32)))] (HS I L X)
  refine w_if_ne (Ev.cm _) rfl (fun c1 => ?_) (fun c1 => ?_)
  · have c1 : (0 : Int32) ≤ (I 1 6) ∧ (I 1 6) ≤ (3 : Int32) := bI_1.mp c1
    rw [if_pos c1] at q
    refine w_aload_n (Ev.cm _) rfl rfl ?_
    refine w_getR (q := 307) (Ev.cm _) rfl (Nat.le_of_ble_eq_true rfl) rfl rfl ?_
    refine w_aload_n (Ev.cm _) rfl rfl ?_
    refine w_getR (q := 306) (Ev.cm _) rfl (Nat.le_of_ble_eq_true rfl) rfl rfl ?_
    refine w_aload_n (Ev.cm _) rfl rfl ?_
    refine w_getI (Ev.cm _) rfl (Nat.le_of_ble_eq_true rfl) rfl ?_
    obtain ⟨⟨r1, I1, L1⟩, e1, q⟩ := obs q
    dsimp only at q
    refine w_cvirt (o := 307) (as := [.ref 306, .int (I 0 4)]) (st := []) (Ev.cm _) rfl rfl rfl (Nat.le_of_ble_eq_true rfl) (Nat.le_of_ble_eq_true rfl) rfl (Nat.le_of_ble_eq_true rfl) (eo_R_read (g := ?_) e1)
    show Wp _ _ _ _ _ _ _ 32 [(0, .ref 0)] [.int r1] (HS I1 L1 X)
    refine w_istore_n (ls2 := [(0, .ref 0), (1, .int r1)]) (Ev.cm _) rfl rfl ?_
    refine w_aload_n (Ev.cm _) rfl rfl ?_
    refine w_iconst (Ev.cm _) rfl ?_
    refine w_putI (Ev.cm _) rfl (Nat.le_of_ble_eq_true rfl) rfl ?_
    refine w_aload_n (Ev.cm _) rfl rfl ?_
    refine w_getR (q := 273) (Ev.cm _) rfl (Nat.le_of_ble_eq_true rfl) rfl rfl ?_
    refine w_aload_n (Ev.cm _) rfl rfl ?_
    refine w_getR (q := 1) (Ev.cm _) rfl (Nat.le_of_ble_eq_true rfl) rfl rfl ?_
    refine w_getI (Ev.cm _) rfl (Nat.le_of_ble_eq_true rfl) rfl ?_
    obtain ⟨b2, q⟩ := ois q
    refine w_aald (q := 274 + 8 * (I1 1 6).toNatClampNeg) (Ev.cm _) rfl (Nat.le_of_ble_eq_true rfl) rfl (show vp_in (I1 1 6) 4 from vpI 4 (by decide) b2.1 b2.2) (r_lib b2) ?_
    refine w_astore_n (ls2 := [(0, .ref 0), (1, .int r1), (2, .ref (274 + 8 * (I1 1 6).toNatClampNeg))]) (Ev.cm _) rfl trivial rfl ?_
    refine w_iload_n (Ev.cm _) rfl rfl ?_
    refine w_if_eq (Ev.cm _) rfl (fun c2 => ?_) (fun c2 => ?_)
    · have c2 : r1 = 0 := c2
      rw [if_pos c2] at q
      refine w_iconst (Ev.cm _) rfl ?_
      refine w_ireturn (Ev.cm _) rfl trivial rf0 ?_
      cases q
      exact g
    · have c2 : ¬ (r1 = 0) := c2
      rw [if_neg c2] at q
      refine w_aload_n (Ev.cm _) rfl rfl ?_
      refine w_ifnonnull (Ev.cm _) rfl ?_
      refine w_aload_n (Ev.cm _) rfl rfl ?_
      refine w_aload_n (Ev.cm _) rfl rfl ?_
      refine w_getR (q := 307) (Ev.cm _) rfl (Nat.le_of_ble_eq_true rfl) rfl rfl ?_
      refine w_getR (q := 308) (Ev.cm _) rfl (Nat.le_of_ble_eq_true rfl) rfl rfl ?_
      obtain ⟨⟨r3, I3, L3⟩, e3, q⟩ := obs q
      dsimp only at q
      refine w_cvirt (o := 274 + 8 * (I1 1 6).toNatClampNeg) (as := [.ref 308]) (st := []) (Ev.cm _) rfl rfl rfl (Nat.le_of_ble_eq_true rfl) (isT_lt0 (isT_ix b2)) (congrArg Prod.fst (isT_k0 (isT_ix b2))) (Nat.le_of_ble_eq_true rfl) (eo_T_copyText (isT_ix b2) (g := ?_) e3)
      show Wp _ _ _ _ _ _ _ 72 [(0, .ref 0), (1, .int r1), (2, .ref (274 + 8 * (I1 1 6).toNatClampNeg))] [] (HS I3 L3 X)
      refine w_aload_n (Ev.cm _) rfl rfl ?_
      refine w_getR (q := 1) (Ev.cm _) rfl (Nat.le_of_ble_eq_true rfl) rfl rfl ?_
      refine w_dup (Ev.cm _) rfl rfl ?_
      refine w_getI (Ev.cm _) rfl (Nat.le_of_ble_eq_true rfl) rfl ?_
      refine w_iconst (Ev.cm _) rfl ?_
      refine w_iadd (Ev.cm _) rfl ?_
      refine w_putI (Ev.cm _) rfl (Nat.le_of_ble_eq_true rfl) rfl ?_
      refine w_aload_n (Ev.cm _) rfl rfl ?_
      refine w_getR (q := 1) (Ev.cm _) rfl (Nat.le_of_ble_eq_true rfl) rfl rfl ?_
      refine w_getI (Ev.cm _) rfl (Nat.le_of_ble_eq_true rfl) rfl ?_
      refine w_iconst (Ev.cm _) rfl ?_
      refine w_isub (Ev.cm _) rfl ?_
      refine w_ireturn (Ev.cm _) rfl trivial rf0 ?_
      cases q
      exact g
  · have c1 : ¬ ((0 : Int32) ≤ (I 1 6) ∧ (I 1 6) ≤ (3 : Int32)) := bI_0.mp c1
    rw [if_neg c1] at q
    refine w_iconst (Ev.cm _) rfl ?_
    refine w_ireturn (Ev.cm _) rfl trivial rf0 ?_
    cases q
    exact g
