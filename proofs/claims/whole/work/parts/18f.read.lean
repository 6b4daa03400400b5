/-! methods, read back by program -/
def LO_M_doubt_132 (fu : Nat) (k_116 : Int32 → Int32 → (Nat → Nat → Int32) → (Nat → Nat → Int64) → Option (Int32 × (Nat → Nat → Int32) × (Nat → Nat → Int64))) (k_124 : Int32 → Int32 → (Nat → Nat → Int32) → (Nat → Nat → Int64) → Option (Int32 × (Nat → Nat → Int32) × (Nat → Nat → Int64))) : Nat → Int32 → Int32 → Int32 → (Nat → Nat → Int32) → (Nat → Nat → Int64) → Option (Int32 × (Nat → Nat → Int32) × (Nat → Nat → Int64))
  | 0, _, _, _, _, _ => none
  | n + 1, x1, x2, x3, I, L => if I 332 5 ≤ x3 then (k_124 x1 (x2 + 1) I L) else (if 0 ≤ x2 ∧ x2 < 64 then (if 1000000 ≤ I 346 x2.toNatClampNeg then (k_124 x1 (x2 + 1) I L) else ((FO_M_wordAt fu x3 I L).bind (fun u2 => let r2 := u2.1; let I2 := u2.2.1; let L2 := u2.2.2; (FO_M_restOf fu x2 r2 I2 L2).bind (fun u3 => let r3 := u3.1; let I3 := u3.2.1; let L3 := u3.2.2; (FO_M_wordAt fu x3 I3 L3).bind (fun u4 => let r4 := u4.1; let I4 := u4.2.1; let L4 := u4.2.2; (FO_M_restOf fu r4 x2 I4 L4).bind (fun u5 => let r5 := u5.1; let I5 := u5.2.1; let L5 := u5.2.2; if r3 = (-1) then (if r5 = (-1) then (LO_M_doubt_132 fu k_116 k_124 n x1 x2 (x3 + 1) I5 L5) else (if 0 ≤ x2 ∧ x2 < 64 then ((FO_M_lengthOf fu r5 I5 L5).bind (fun u7 => let r7 := u7.1; let I7 := u7.2.1; let L7 := u7.2.2; (FO_M_isFewer fu r5 ((I5 346 x2.toNatClampNeg) + r7) I7 L7).bind (fun u8 => let r8 := u8.1; let I8 := u8.2.1; let L8 := u8.2.2; LO_M_doubt_132 fu k_116 k_124 n (x1 ||| r8) x2 (x3 + 1) I8 L8))) else none)) else (if 0 ≤ x2 ∧ x2 < 64 then ((FO_M_isFewer fu r3 (I5 346 x2.toNatClampNeg) I5 L5).bind (fun u10 => let r10 := u10.1; let I10 := u10.2.1; let L10 := u10.2.2; LO_M_doubt_132 fu k_116 k_124 n (x1 ||| r10) x2 (x3 + 1) I10 L10)) else none))))))) else none)
set_option maxHeartbeats 20000000 in
set_option maxRecDepth 20000 in
theorem lo_M_doubt_132 {d fu n0 s0 : Nat} {X : Nat × (Nat → Int32)} {Q : PQ} {k_116 : Int32 → Int32 → (Nat → Nat → Int32) → (Nat → Nat → Int64) → Option (Int32 × (Nat → Nat → Int32) × (Nat → Nat → Int64))} {k_124 : Int32 → Int32 → (Nat → Nat → Int32) → (Nat → Nat → Int64) → Option (Int32 × (Nat → Nat → Int32) × (Nat → Nat → Int64))} {res : Int32 × (Nat → Nat → Int32) × (Nat → Nat → Int64)}  (g : Q (some (.int res.1)) (HS res.2.1 res.2.2 X)) (hk_116 : ∀ (x1 : Int32) (x2 : Int32) (I : Nat → Nat → Int32) (L : Nat → Nat → Int64), k_116 x1 x2 I L = some res → Wp (Ev (d + 2)) cd_M_doubt (0, 0) (some .int) n0 s0 Q 116 [(0, .ref 331), (1, .int x1), (2, .int x2)] [] (HS I L X)) (hk_124 : ∀ (x1 : Int32) (x2 : Int32) (I : Nat → Nat → Int32) (L : Nat → Nat → Int64), k_124 x1 x2 I L = some res → Wp (Ev (d + 2)) cd_M_doubt (0, 0) (some .int) n0 s0 Q 124 [(0, .ref 331), (1, .int x1), (2, .int x2)] [] (HS I L X)) : ∀ (n : Nat) (x1 : Int32) (x2 : Int32) (x3 : Int32) (I : Nat → Nat → Int32) (L : Nat → Nat → Int64), LO_M_doubt_132 fu k_116 k_124 n x1 x2 x3 I L = some res → Wp (Ev (d + 2)) cd_M_doubt (0, 0) (some .int) n0 s0 Q 132 [(0, .ref 331), (1, .int x1), (2, .int x2), (3, .int x3)] [] (HS I L X) := by
  intro n
  induction n with
  | zero => intro _ _ _ _ _ q; cases q
  | succ n ih =>
    intro x1 x2 x3 I L q
    unfold LO_M_doubt_132 at q
    refine w_iload_n (Ev.cm _) rfl rfl ?_
    refine w_aload_n (Ev.cm _) rfl rfl ?_
    refine w_getR (q := 332) (Ev.cm _) rfl (Nat.le_of_ble_eq_true rfl) rfl rfl ?_
    refine w_iconst (Ev.cm _) rfl ?_
    refine w_iald (Ev.cm _) rfl (Nat.le_of_ble_eq_true rfl) rfl (show vp_in 5 1541 from vpI 1541 (by decide) (by decide) (by decide)) ?_
    refine w_icmp_ge (Ev.cm _) rfl (fun c1 => ?_) (fun c1 => ?_)
    · have c1 : I 332 5 ≤ x3 := c1
      rw [if_pos c1] at q
      refine w_iinc (ls2 := [(0, .ref 331), (1, .int x1), (2, .int (x2 + 1)), (3, .int x3)]) (Ev.cm _) rfl rfl rfl ?_
      refine w_goto (Ev.cm _) rfl ?_
      show Wp _ _ _ _ _ _ _ 124 [(0, .ref 331), (1, .int x1), (2, .int (x2 + 1)), (3, .int x3)] [] (HS I L X)
      refine Wp.sub [0, 1, 2] (ls2 := [(0, .ref 331), (1, .int x1), (2, .int (x2 + 1))]) rfl ?_
      exact hk_124 _ _ _ _ q
    · have c1 : ¬ (I 332 5 ≤ x3) := c1
      rw [if_neg c1] at q
      refine w_aload_n (Ev.cm _) rfl rfl ?_
      refine w_getR (q := 346) (Ev.cm _) rfl (Nat.le_of_ble_eq_true rfl) rfl rfl ?_
      refine w_iload_n (Ev.cm _) rfl rfl ?_
      obtain ⟨b1, q⟩ := ois q
      refine w_iald (Ev.cm _) rfl (Nat.le_of_ble_eq_true rfl) rfl (show vp_in x2 64 from vpI 64 (by decide) b1.1 b1.2) ?_
      refine w_ldc_w (Ev.cm _) rfl ?_
      refine w_icmp_ge (Ev.cm _) rfl (fun c2 => ?_) (fun c2 => ?_)
      · have c2 : 1000000 ≤ I 346 x2.toNatClampNeg := c2
        rw [if_pos c2] at q
        refine w_iinc (ls2 := [(0, .ref 331), (1, .int x1), (2, .int (x2 + 1)), (3, .int x3)]) (Ev.cm _) rfl rfl rfl ?_
        refine w_goto (Ev.cm _) rfl ?_
        show Wp _ _ _ _ _ _ _ 124 [(0, .ref 331), (1, .int x1), (2, .int (x2 + 1)), (3, .int x3)] [] (HS I L X)
        refine Wp.sub [0, 1, 2] (ls2 := [(0, .ref 331), (1, .int x1), (2, .int (x2 + 1))]) rfl ?_
        exact hk_124 _ _ _ _ q
      · have c2 : ¬ (1000000 ≤ I 346 x2.toNatClampNeg) := c2
        rw [if_neg c2] at q
        refine w_iload_n (Ev.cm _) rfl rfl ?_
        refine w_aload_n (Ev.cm _) rfl rfl ?_
        refine w_iload_n (Ev.cm _) rfl rfl ?_
        obtain ⟨⟨r2, I2, L2⟩, e2, q⟩ := obs q
        dsimp only at q
        refine w_cvirt (o := 331) (as := [.int x3]) (st := [.int x2]) (Ev.cm _) rfl rfl rfl (Nat.le_of_ble_eq_true rfl) (Nat.le_of_ble_eq_true rfl) rfl (Nat.le_of_ble_eq_true rfl) (eo_M_wordAt (g := ?_) e2)
        show Wp _ _ _ _ _ _ _ 160 [(0, .ref 331), (1, .int x1), (2, .int x2), (3, .int x3)] [.int r2, .int x2] (HS I2 L2 X)
        obtain ⟨⟨r3, I3, L3⟩, e3, q⟩ := obs q
        dsimp only at q
        refine w_cstat (as := [.int x2, .int r2]) (st := []) (Ev.cm _) rfl rfl rfl (Nat.le_of_ble_eq_true rfl) (Nat.le_of_ble_eq_true rfl) (eo_M_restOf (g := ?_) e3)
        show Wp _ _ _ _ _ _ _ 163 [(0, .ref 331), (1, .int x1), (2, .int x2), (3, .int x3)] [.int r3] (HS I3 L3 X)
        refine w_istore (ls2 := [(0, .ref 331), (1, .int x1), (2, .int x2), (3, .int x3), (4, .int r3)]) (Ev.cm _) rfl rfl ?_
        refine w_aload_n (Ev.cm _) rfl rfl ?_
        refine w_iload_n (Ev.cm _) rfl rfl ?_
        obtain ⟨⟨r4, I4, L4⟩, e4, q⟩ := obs q
        dsimp only at q
        refine w_cvirt (o := 331) (as := [.int x3]) (st := []) (Ev.cm _) rfl rfl rfl (Nat.le_of_ble_eq_true rfl) (Nat.le_of_ble_eq_true rfl) rfl (Nat.le_of_ble_eq_true rfl) (eo_M_wordAt (g := ?_) e4)
        show Wp _ _ _ _ _ _ _ 170 [(0, .ref 331), (1, .int x1), (2, .int x2), (3, .int x3), (4, .int r3)] [.int r4] (HS I4 L4 X)
        refine w_iload_n (Ev.cm _) rfl rfl ?_
        obtain ⟨⟨r5, I5, L5⟩, e5, q⟩ := obs q
        dsimp only at q
        refine w_cstat (as := [.int r4, .int x2]) (st := []) (Ev.cm _) rfl rfl rfl (Nat.le_of_ble_eq_true rfl) (Nat.le_of_ble_eq_true rfl) (eo_M_restOf (g := ?_) e5)
        show Wp _ _ _ _ _ _ _ 174 [(0, .ref 331), (1, .int x1), (2, .int x2), (3, .int x3), (4, .int r3)] [.int r5] (HS I5 L5 X)
        refine w_istore (ls2 := [(0, .ref 331), (1, .int x1), (2, .int x2), (3, .int x3), (4, .int r3), (5, .int r5)]) (Ev.cm _) rfl rfl ?_
        refine w_iload (Ev.cm _) rfl rfl ?_
        refine w_iconst (Ev.cm _) rfl ?_
        refine w_icmp_eq (Ev.cm _) rfl (fun c3 => ?_) (fun c3 => ?_)
        · have c3 : r3 = (-1) := c3
          rw [if_pos c3] at q
          refine w_iload (Ev.cm _) rfl rfl ?_
          refine w_iconst (Ev.cm _) rfl ?_
          refine w_icmp_eq (Ev.cm _) rfl (fun c4 => ?_) (fun c4 => ?_)
          · have c4 : r5 = (-1) := c4
            rw [if_pos c4] at q
            refine w_iinc (ls2 := [(0, .ref 331), (1, .int x1), (2, .int x2), (3, .int (x3 + 1)), (4, .int r3), (5, .int r5)]) (Ev.cm _) rfl rfl rfl ?_
            refine w_goto (Ev.cm _) rfl ?_
            show Wp _ _ _ _ _ _ _ 132 [(0, .ref 331), (1, .int x1), (2, .int x2), (3, .int (x3 + 1)), (4, .int r3), (5, .int r5)] [] (HS I5 L5 X)
            refine Wp.sub [0, 1, 2, 3] (ls2 := [(0, .ref 331), (1, .int x1), (2, .int x2), (3, .int (x3 + 1))]) rfl ?_
            exact ih _ _ _ _ _ q
          · have c4 : ¬ (r5 = (-1)) := c4
            rw [if_neg c4] at q
            refine w_iload_n (Ev.cm _) rfl rfl ?_
            refine w_aload_n (Ev.cm _) rfl rfl ?_
            refine w_iload (Ev.cm _) rfl rfl ?_
            refine w_aload_n (Ev.cm _) rfl rfl ?_
            refine w_getR (q := 346) (Ev.cm _) rfl (Nat.le_of_ble_eq_true rfl) rfl rfl ?_
            refine w_iload_n (Ev.cm _) rfl rfl ?_
            obtain ⟨b6, q⟩ := ois q
            refine w_iald (Ev.cm _) rfl (Nat.le_of_ble_eq_true rfl) rfl (show vp_in x2 64 from vpI 64 (by decide) b6.1 b6.2) ?_
            refine w_iload (Ev.cm _) rfl rfl ?_
            obtain ⟨⟨r7, I7, L7⟩, e7, q⟩ := obs q
            dsimp only at q
            refine w_cstat (as := [.int r5]) (st := [.int (I5 346 x2.toNatClampNeg), .int r5, .ref 331, .int x1]) (Ev.cm _) rfl rfl rfl (Nat.le_of_ble_eq_true rfl) (Nat.le_of_ble_eq_true rfl) (eo_M_lengthOf (g := ?_) e7)
            show Wp _ _ _ _ _ _ _ 221 [(0, .ref 331), (1, .int x1), (2, .int x2), (3, .int x3), (4, .int r3), (5, .int r5)] [.int r7, .int (I5 346 x2.toNatClampNeg), .int r5, .ref 331, .int x1] (HS I7 L7 X)
            refine w_iadd (Ev.cm _) rfl ?_
            obtain ⟨⟨r8, I8, L8⟩, e8, q⟩ := obs q
            dsimp only at q
            refine w_cvirt (o := 331) (as := [.int r5, .int ((I5 346 x2.toNatClampNeg) + r7)]) (st := [.int x1]) (Ev.cm _) rfl rfl rfl (Nat.le_of_ble_eq_true rfl) (Nat.le_of_ble_eq_true rfl) rfl (Nat.le_of_ble_eq_true rfl) (eo_M_isFewer (g := ?_) e8)
            show Wp _ _ _ _ _ _ _ 225 [(0, .ref 331), (1, .int x1), (2, .int x2), (3, .int x3), (4, .int r3), (5, .int r5)] [.int r8, .int x1] (HS I8 L8 X)
            refine w_ior (Ev.cm _) rfl ?_
            refine w_istore_n (ls2 := [(0, .ref 331), (1, .int (x1 ||| r8)), (2, .int x2), (3, .int x3), (4, .int r3), (5, .int r5)]) (Ev.cm _) rfl rfl ?_
            refine w_iinc (ls2 := [(0, .ref 331), (1, .int (x1 ||| r8)), (2, .int x2), (3, .int (x3 + 1)), (4, .int r3), (5, .int r5)]) (Ev.cm _) rfl rfl rfl ?_
            refine w_goto (Ev.cm _) rfl ?_
            show Wp _ _ _ _ _ _ _ 132 [(0, .ref 331), (1, .int (x1 ||| r8)), (2, .int x2), (3, .int (x3 + 1)), (4, .int r3), (5, .int r5)] [] (HS I8 L8 X)
            refine Wp.sub [0, 1, 2, 3] (ls2 := [(0, .ref 331), (1, .int (x1 ||| r8)), (2, .int x2), (3, .int (x3 + 1))]) rfl ?_
            exact ih _ _ _ _ _ q
        · have c3 : ¬ (r3 = (-1)) := c3
          rw [if_neg c3] at q
          refine w_iload_n (Ev.cm _) rfl rfl ?_
          refine w_aload_n (Ev.cm _) rfl rfl ?_
          refine w_iload (Ev.cm _) rfl rfl ?_
          refine w_aload_n (Ev.cm _) rfl rfl ?_
          refine w_getR (q := 346) (Ev.cm _) rfl (Nat.le_of_ble_eq_true rfl) rfl rfl ?_
          refine w_iload_n (Ev.cm _) rfl rfl ?_
          obtain ⟨b9, q⟩ := ois q
          refine w_iald (Ev.cm _) rfl (Nat.le_of_ble_eq_true rfl) rfl (show vp_in x2 64 from vpI 64 (by decide) b9.1 b9.2) ?_
          obtain ⟨⟨r10, I10, L10⟩, e10, q⟩ := obs q
          dsimp only at q
          refine w_cvirt (o := 331) (as := [.int r3, .int (I5 346 x2.toNatClampNeg)]) (st := [.int x1]) (Ev.cm _) rfl rfl rfl (Nat.le_of_ble_eq_true rfl) (Nat.le_of_ble_eq_true rfl) rfl (Nat.le_of_ble_eq_true rfl) (eo_M_isFewer (g := ?_) e10)
          show Wp _ _ _ _ _ _ _ 195 [(0, .ref 331), (1, .int x1), (2, .int x2), (3, .int x3), (4, .int r3), (5, .int r5)] [.int r10, .int x1] (HS I10 L10 X)
          refine w_ior (Ev.cm _) rfl ?_
          refine w_istore_n (ls2 := [(0, .ref 331), (1, .int (x1 ||| r10)), (2, .int x2), (3, .int x3), (4, .int r3), (5, .int r5)]) (Ev.cm _) rfl rfl ?_
          refine w_goto (Ev.cm _) rfl ?_
          refine w_iinc (ls2 := [(0, .ref 331), (1, .int (x1 ||| r10)), (2, .int x2), (3, .int (x3 + 1)), (4, .int r3), (5, .int r5)]) (Ev.cm _) rfl rfl rfl ?_
          refine w_goto (Ev.cm _) rfl ?_
          show Wp _ _ _ _ _ _ _ 132 [(0, .ref 331), (1, .int (x1 ||| r10)), (2, .int x2), (3, .int (x3 + 1)), (4, .int r3), (5, .int r5)] [] (HS I10 L10 X)
          refine Wp.sub [0, 1, 2, 3] (ls2 := [(0, .ref 331), (1, .int (x1 ||| r10)), (2, .int x2), (3, .int (x3 + 1))]) rfl ?_
          exact ih _ _ _ _ _ q
def LO_M_doubt_124 (fu : Nat) (k_116 : Int32 → Int32 → (Nat → Nat → Int32) → (Nat → Nat → Int64) → Option (Int32 × (Nat → Nat → Int32) × (Nat → Nat → Int64))) : Nat → Int32 → Int32 → (Nat → Nat → Int32) → (Nat → Nat → Int64) → Option (Int32 × (Nat → Nat → Int32) × (Nat → Nat → Int64))
  | 0, _, _, _, _ => none
  | n + 1, x1, x2, I, L => if 64 ≤ x2 then (k_116 x1 x2 I L) else (LO_M_doubt_132 fu k_116 (fun x1 x2 I L => LO_M_doubt_124 fu k_116 n x1 x2 I L) fu x1 x2 0 I L)
set_option maxHeartbeats 20000000 in
set_option maxRecDepth 20000 in
theorem lo_M_doubt_124 {d fu n0 s0 : Nat} {X : Nat × (Nat → Int32)} {Q : PQ} {k_116 : Int32 → Int32 → (Nat → Nat → Int32) → (Nat → Nat → Int64) → Option (Int32 × (Nat → Nat → Int32) × (Nat → Nat → Int64))} {res : Int32 × (Nat → Nat → Int32) × (Nat → Nat → Int64)}  (g : Q (some (.int res.1)) (HS res.2.1 res.2.2 X)) (hk_116 : ∀ (x1 : Int32) (x2 : Int32) (I : Nat → Nat → Int32) (L : Nat → Nat → Int64), k_116 x1 x2 I L = some res → Wp (Ev (d + 2)) cd_M_doubt (0, 0) (some .int) n0 s0 Q 116 [(0, .ref 331), (1, .int x1), (2, .int x2)] [] (HS I L X)) : ∀ (n : Nat) (x1 : Int32) (x2 : Int32) (I : Nat → Nat → Int32) (L : Nat → Nat → Int64), LO_M_doubt_124 fu k_116 n x1 x2 I L = some res → Wp (Ev (d + 2)) cd_M_doubt (0, 0) (some .int) n0 s0 Q 124 [(0, .ref 331), (1, .int x1), (2, .int x2)] [] (HS I L X) := by
  intro n
  induction n with
  | zero => intro _ _ _ _ q; cases q
  | succ n ih =>
    intro x1 x2 I L q
    unfold LO_M_doubt_124 at q
    refine w_iload_n (Ev.cm _) rfl rfl ?_
    refine w_bipush (Ev.cm _) rfl ?_
    refine w_icmp_ge (Ev.cm _) rfl (fun c1 => ?_) (fun c1 => ?_)
    · have c1 : 64 ≤ x2 := c1
      rw [if_pos c1] at q
      refine w_goto (Ev.cm _) rfl ?_
      show Wp _ _ _ _ _ _ _ 116 [(0, .ref 331), (1, .int x1), (2, .int x2)] [] (HS I L X)
      refine Wp.sub [0, 1, 2] (ls2 := [(0, .ref 331), (1, .int x1), (2, .int x2)]) rfl ?_
      exact hk_116 _ _ _ _ q
    · have c1 : ¬ (64 ≤ x2) := c1
      rw [if_neg c1] at q
      refine w_iconst (Ev.cm _) rfl ?_
      refine w_istore_n (ls2 := [(0, .ref 331), (1, .int x1), (2, .int x2), (3, .int 0)]) (Ev.cm _) rfl rfl ?_
      show Wp _ _ _ _ _ _ _ 132 [(0, .ref 331), (1, .int x1), (2, .int x2), (3, .int 0)] [] (HS I L X)
      refine Wp.sub [0, 1, 2, 3] (ls2 := [(0, .ref 331), (1, .int x1), (2, .int x2), (3, .int 0)]) rfl ?_
      exact lo_M_doubt_132 g hk_116 (fun x1 x2 I L q => ih x1 x2 I L q) fu _ _ _ _ _ q
def LO_M_doubt_116 (fu : Nat) : Nat → Int32 → Int32 → (Nat → Nat → Int32) → (Nat → Nat → Int64) → Option (Int32 × (Nat → Nat → Int32) × (Nat → Nat → Int64))
  | 0, _, _, _, _ => none
  | n + 1, x1, x2, I, L => if x1 = 0 then (if I 346 1 = 1000000 then (some ((-1), I, L)) else (some (I 346 1, I, L))) else (LO_M_doubt_124 fu (fun x1 x2 I L => LO_M_doubt_116 fu n x1 x2 I L) fu 0 2 I L)
set_option maxHeartbeats 20000000 in
set_option maxRecDepth 20000 in
theorem lo_M_doubt_116 {d fu n0 s0 : Nat} {X : Nat × (Nat → Int32)} {Q : PQ} {res : Int32 × (Nat → Nat → Int32) × (Nat → Nat → Int64)}  (g : Q (some (.int res.1)) (HS res.2.1 res.2.2 X)) : ∀ (n : Nat) (x1 : Int32) (x2 : Int32) (I : Nat → Nat → Int32) (L : Nat → Nat → Int64), LO_M_doubt_116 fu n x1 x2 I L = some res → Wp (Ev (d + 2)) cd_M_doubt (0, 0) (some .int) n0 s0 Q 116 [(0, .ref 331), (1, .int x1), (2, .int x2)] [] (HS I L X) := by
  intro n
  induction n with
  | zero => intro _ _ _ _ q; cases q
  | succ n ih =>
    intro x1 x2 I L q
    unfold LO_M_doubt_116 at q
    refine w_iload_n (Ev.cm _) rfl rfl ?_
    refine w_if_eq (Ev.cm _) rfl (fun c1 => ?_) (fun c1 => ?_)
    · have c1 : x1 = 0 := c1
      rw [if_pos c1] at q
      refine w_aload_n (Ev.cm _) rfl rfl ?_
      refine w_getR (q := 346) (Ev.cm _) rfl (Nat.le_of_ble_eq_true rfl) rfl rfl ?_
      refine w_iconst (Ev.cm _) rfl ?_
      refine w_iald (Ev.cm _) rfl (Nat.le_of_ble_eq_true rfl) rfl (show vp_in 1 64 from vpI 64 (by decide) (by decide) (by decide)) ?_
      refine w_ldc_w (Ev.cm _) rfl ?_
      refine w_icmp_ne (Ev.cm _) rfl (fun c2 => ?_) (fun c2 => ?_)
      · have c2 : ¬ (I 346 1 = 1000000) := c2
        rw [if_neg c2] at q
        refine w_aload_n (Ev.cm _) rfl rfl ?_
        refine w_getR (q := 346) (Ev.cm _) rfl (Nat.le_of_ble_eq_true rfl) rfl rfl ?_
        refine w_iconst (Ev.cm _) rfl ?_
        refine w_iald (Ev.cm _) rfl (Nat.le_of_ble_eq_true rfl) rfl (show vp_in 1 64 from vpI 64 (by decide) (by decide) (by decide)) ?_
        refine w_ireturn (Ev.cm _) rfl trivial rf0 ?_
        cases q
        exact g
      · have c2 : I 346 1 = 1000000 := c2
        rw [if_pos c2] at q
        refine w_iconst (Ev.cm _) rfl ?_
        refine w_goto (Ev.cm _) rfl ?_
        refine w_ireturn (Ev.cm _) rfl trivial rf0 ?_
        cases q
        exact g
    · have c1 : ¬ (x1 = 0) := c1
      rw [if_neg c1] at q
      refine w_iconst (Ev.cm _) rfl ?_
      refine w_istore_n (ls2 := [(0, .ref 331), (1, .int 0), (2, .int x2)]) (Ev.cm _) rfl rfl ?_
      refine w_iconst (Ev.cm _) rfl ?_
      refine w_istore_n (ls2 := [(0, .ref 331), (1, .int 0), (2, .int 2)]) (Ev.cm _) rfl rfl ?_
      show Wp _ _ _ _ _ _ _ 124 [(0, .ref 331), (1, .int 0), (2, .int 2)] [] (HS I L X)
      refine Wp.sub [0, 1, 2] (ls2 := [(0, .ref 331), (1, .int 0), (2, .int 2)]) rfl ?_
      exact lo_M_doubt_124 g (fun x1 x2 I L q => ih x1 x2 I L q) fu _ _ _ _ q
def LO_M_doubt_39 (fu : Nat) (k_27 : Int32 → Int32 → (Nat → Nat → Int32) → (Nat → Nat → Int64) → Option (Int32 × (Nat → Nat → Int32) × (Nat → Nat → Int64))) : Nat → Int32 → Int32 → Int32 → (Nat → Nat → Int32) → (Nat → Nat → Int64) → Option (Int32 × (Nat → Nat → Int32) × (Nat → Nat → Int64))
  | 0, _, _, _, _, _ => none
  | n + 1, x1, x2, x3, I, L => if I 332 5 ≤ x3 then (k_27 x1 (x2 + 1) I L) else (if x2 = x3 then (LO_M_doubt_39 fu k_27 n (x1 ||| 0) x2 (x3 + 1) I L) else ((FO_M_wordAt fu x2 I L).bind (fun u1 => let r1 := u1.1; let I1 := u1.2.1; let L1 := u1.2.2; (FO_M_wordAt fu x3 I1 L1).bind (fun u2 => let r2 := u2.1; let I2 := u2.2.1; let L2 := u2.2.2; (FO_M_restOf fu r1 r2 I2 L2).bind (fun u3 => let r3 := u3.1; let I3 := u3.2.1; let L3 := u3.2.2; if r3 = (-1) then (LO_M_doubt_39 fu k_27 n (x1 ||| 0) x2 (x3 + 1) I3 L3) else ((FO_M_wordAt fu x2 I3 L3).bind (fun u4 => let r4 := u4.1; let I4 := u4.2.1; let L4 := u4.2.2; (FO_M_lengthOf fu r4 I4 L4).bind (fun u5 => let r5 := u5.1; let I5 := u5.2.1; let L5 := u5.2.2; (FO_M_isFewer fu r3 r5 I5 L5).bind (fun u6 => let r6 := u6.1; let I6 := u6.2.1; let L6 := u6.2.2; if r6 = 0 then (LO_M_doubt_39 fu k_27 n (x1 ||| 0) x2 (x3 + 1) I6 L6) else (LO_M_doubt_39 fu k_27 n (x1 ||| 1) x2 (x3 + 1) I6 L6))))))))))
set_option maxHeartbeats 20000000 in
set_option maxRecDepth 20000 in
theorem lo_M_doubt_39 {d fu n0 s0 : Nat} {X : Nat × (Nat → Int32)} {Q : PQ} {k_27 : Int32 → Int32 → (Nat → Nat → Int32) → (Nat → Nat → Int64) → Option (Int32 × (Nat → Nat → Int32) × (Nat → Nat → Int64))} {res : Int32 × (Nat → Nat → Int32) × (Nat → Nat → Int64)}  (g : Q (some (.int res.1)) (HS res.2.1 res.2.2 X)) (hk_27 : ∀ (x1 : Int32) (x2 : Int32) (I : Nat → Nat → Int32) (L : Nat → Nat → Int64), k_27 x1 x2 I L = some res → Wp (Ev (d + 2)) cd_M_doubt (0, 0) (some .int) n0 s0 Q 27 [(0, .ref 331), (1, .int x1), (2, .int x2)] [] (HS I L X)) : ∀ (n : Nat) (x1 : Int32) (x2 : Int32) (x3 : Int32) (I : Nat → Nat → Int32) (L : Nat → Nat → Int64), LO_M_doubt_39 fu k_27 n x1 x2 x3 I L = some res → Wp (Ev (d + 2)) cd_M_doubt (0, 0) (some .int) n0 s0 Q 39 [(0, .ref 331), (1, .int x1), (2, .int x2), (3, .int x3)] [] (HS I L X) := by
  intro n
  induction n with
  | zero => intro _ _ _ _ _ q; cases q
  | succ n ih =>
    intro x1 x2 x3 I L q
    unfold LO_M_doubt_39 at q
    refine w_iload_n (Ev.cm _) rfl rfl ?_
    refine w_aload_n (Ev.cm _) rfl rfl ?_
    refine w_getR (q := 332) (Ev.cm _) rfl (Nat.le_of_ble_eq_true rfl) rfl rfl ?_
    refine w_iconst (Ev.cm _) rfl ?_
    refine w_iald (Ev.cm _) rfl (Nat.le_of_ble_eq_true rfl) rfl (show vp_in 5 1541 from vpI 1541 (by decide) (by decide) (by decide)) ?_
    refine w_icmp_ge (Ev.cm _) rfl (fun c1 => ?_) (fun c1 => ?_)
    · have c1 : I 332 5 ≤ x3 := c1
      rw [if_pos c1] at q
      refine w_iinc (ls2 := [(0, .ref 331), (1, .int x1), (2, .int (x2 + 1)), (3, .int x3)]) (Ev.cm _) rfl rfl rfl ?_
      refine w_goto (Ev.cm _) rfl ?_
      show Wp _ _ _ _ _ _ _ 27 [(0, .ref 331), (1, .int x1), (2, .int (x2 + 1)), (3, .int x3)] [] (HS I L X)
      refine Wp.sub [0, 1, 2] (ls2 := [(0, .ref 331), (1, .int x1), (2, .int (x2 + 1))]) rfl ?_
      exact hk_27 _ _ _ _ q
    · have c1 : ¬ (I 332 5 ≤ x3) := c1
      rw [if_neg c1] at q
      refine w_iload_n (Ev.cm _) rfl rfl ?_
      refine w_iload_n (Ev.cm _) rfl rfl ?_
      refine w_icmp_ne (Ev.cm _) rfl (fun c2 => ?_) (fun c2 => ?_)
      · have c2 : ¬ (x2 = x3) := c2
        rw [if_neg c2] at q
        refine w_aload_n (Ev.cm _) rfl rfl ?_
        refine w_iload_n (Ev.cm _) rfl rfl ?_
        obtain ⟨⟨r1, I1, L1⟩, e1, q⟩ := obs q
        dsimp only at q
        refine w_cvirt (o := 331) (as := [.int x2]) (st := []) (Ev.cm _) rfl rfl rfl (Nat.le_of_ble_eq_true rfl) (Nat.le_of_ble_eq_true rfl) rfl (Nat.le_of_ble_eq_true rfl) (eo_M_wordAt (g := ?_) e1)
        show Wp _ _ _ _ _ _ _ 63 [(0, .ref 331), (1, .int x1), (2, .int x2), (3, .int x3)] [.int r1] (HS I1 L1 X)
        refine w_aload_n (Ev.cm _) rfl rfl ?_
        refine w_iload_n (Ev.cm _) rfl rfl ?_
        obtain ⟨⟨r2, I2, L2⟩, e2, q⟩ := obs q
        dsimp only at q
        refine w_cvirt (o := 331) (as := [.int x3]) (st := [.int r1]) (Ev.cm _) rfl rfl rfl (Nat.le_of_ble_eq_true rfl) (Nat.le_of_ble_eq_true rfl) rfl (Nat.le_of_ble_eq_true rfl) (eo_M_wordAt (g := ?_) e2)
        show Wp _ _ _ _ _ _ _ 68 [(0, .ref 331), (1, .int x1), (2, .int x2), (3, .int x3)] [.int r2, .int r1] (HS I2 L2 X)
        obtain ⟨⟨r3, I3, L3⟩, e3, q⟩ := obs q
        dsimp only at q
        refine w_cstat (as := [.int r1, .int r2]) (st := []) (Ev.cm _) rfl rfl rfl (Nat.le_of_ble_eq_true rfl) (Nat.le_of_ble_eq_true rfl) (eo_M_restOf (g := ?_) e3)
        show Wp _ _ _ _ _ _ _ 71 [(0, .ref 331), (1, .int x1), (2, .int x2), (3, .int x3)] [.int r3] (HS I3 L3 X)
        refine w_istore (ls2 := [(0, .ref 331), (1, .int x1), (2, .int x2), (3, .int x3), (4, .int r3)]) (Ev.cm _) rfl rfl ?_
        refine w_iload_n (Ev.cm _) rfl rfl ?_
        refine w_iload (Ev.cm _) rfl rfl ?_
        refine w_iconst (Ev.cm _) rfl ?_
        refine w_icmp_eq (Ev.cm _) rfl (fun c3 => ?_) (fun c3 => ?_)
        · have c3 : r3 = (-1) := c3
          rw [if_pos c3] at q
          refine w_iconst (Ev.cm _) rfl ?_
          refine w_ior (Ev.cm _) rfl ?_
          refine w_istore_n (ls2 := [(0, .ref 331), (1, .int (x1 ||| 0)), (2, .int x2), (3, .int x3), (4, .int r3)]) (Ev.cm _) rfl rfl ?_
          refine w_iinc (ls2 := [(0, .ref 331), (1, .int (x1 ||| 0)), (2, .int x2), (3, .int (x3 + 1)), (4, .int r3)]) (Ev.cm _) rfl rfl rfl ?_
          refine w_goto (Ev.cm _) rfl ?_
          show Wp _ _ _ _ _ _ _ 39 [(0, .ref 331), (1, .int (x1 ||| 0)), (2, .int x2), (3, .int (x3 + 1)), (4, .int r3)] [] (HS I3 L3 X)
          refine Wp.sub [0, 1, 2, 3] (ls2 := [(0, .ref 331), (1, .int (x1 ||| 0)), (2, .int x2), (3, .int (x3 + 1))]) rfl ?_
          exact ih _ _ _ _ _ q
        · have c3 : ¬ (r3 = (-1)) := c3
          rw [if_neg c3] at q
          refine w_aload_n (Ev.cm _) rfl rfl ?_
          refine w_iload (Ev.cm _) rfl rfl ?_
          refine w_aload_n (Ev.cm _) rfl rfl ?_
          refine w_iload_n (Ev.cm _) rfl rfl ?_
          obtain ⟨⟨r4, I4, L4⟩, e4, q⟩ := obs q
          dsimp only at q
          refine w_cvirt (o := 331) (as := [.int x2]) (st := [.int r3, .ref 331, .int x1]) (Ev.cm _) rfl rfl rfl (Nat.le_of_ble_eq_true rfl) (Nat.le_of_ble_eq_true rfl) rfl (Nat.le_of_ble_eq_true rfl) (eo_M_wordAt (g := ?_) e4)
          show Wp _ _ _ _ _ _ _ 88 [(0, .ref 331), (1, .int x1), (2, .int x2), (3, .int x3), (4, .int r3)] [.int r4, .int r3, .ref 331, .int x1] (HS I4 L4 X)
          obtain ⟨⟨r5, I5, L5⟩, e5, q⟩ := obs q
          dsimp only at q
          refine w_cstat (as := [.int r4]) (st := [.int r3, .ref 331, .int x1]) (Ev.cm _) rfl rfl rfl (Nat.le_of_ble_eq_true rfl) (Nat.le_of_ble_eq_true rfl) (eo_M_lengthOf (g := ?_) e5)
          show Wp _ _ _ _ _ _ _ 91 [(0, .ref 331), (1, .int x1), (2, .int x2), (3, .int x3), (4, .int r3)] [.int r5, .int r3, .ref 331, .int x1] (HS I5 L5 X)
          obtain ⟨⟨r6, I6, L6⟩, e6, q⟩ := obs q
          dsimp only at q
          refine w_cvirt (o := 331) (as := [.int r3, .int r5]) (st := [.int x1]) (Ev.cm _) rfl rfl rfl (Nat.le_of_ble_eq_true rfl) (Nat.le_of_ble_eq_true rfl) rfl (Nat.le_of_ble_eq_true rfl) (eo_M_isFewer (g := ?_) e6)
          show Wp _ _ _ _ _ _ _ 94 [(0, .ref 331), (1, .int x1), (2, .int x2), (3, .int x3), (4, .int r3)] [.int r6, .int x1] (HS I6 L6 X)
          refine w_if_eq (Ev.cm _) rfl (fun c4 => ?_) (fun c4 => ?_)
          · have c4 : r6 = 0 := c4
            rw [if_pos c4] at q
            refine w_iconst (Ev.cm _) rfl ?_
            refine w_ior (Ev.cm _) rfl ?_
            refine w_istore_n (ls2 := [(0, .ref 331), (1, .int (x1 ||| 0)), (2, .int x2), (3, .int x3), (4, .int r3)]) (Ev.cm _) rfl rfl ?_
            refine w_iinc (ls2 := [(0, .ref 331), (1, .int (x1 ||| 0)), (2, .int x2), (3, .int (x3 + 1)), (4, .int r3)]) (Ev.cm _) rfl rfl rfl ?_
            refine w_goto (Ev.cm _) rfl ?_
            show Wp _ _ _ _ _ _ _ 39 [(0, .ref 331), (1, .int (x1 ||| 0)), (2, .int x2), (3, .int (x3 + 1)), (4, .int r3)] [] (HS I6 L6 X)
            refine Wp.sub [0, 1, 2, 3] (ls2 := [(0, .ref 331), (1, .int (x1 ||| 0)), (2, .int x2), (3, .int (x3 + 1))]) rfl ?_
            exact ih _ _ _ _ _ q
          · have c4 : ¬ (r6 = 0) := c4
            rw [if_neg c4] at q
            refine w_iconst (Ev.cm _) rfl ?_
            refine w_goto (Ev.cm _) rfl ?_
            refine w_ior (Ev.cm _) rfl ?_
            refine w_istore_n (ls2 := [(0, .ref 331), (1, .int (x1 ||| 1)), (2, .int x2), (3, .int x3), (4, .int r3)]) (Ev.cm _) rfl rfl ?_
            refine w_iinc (ls2 := [(0, .ref 331), (1, .int (x1 ||| 1)), (2, .int x2), (3, .int (x3 + 1)), (4, .int r3)]) (Ev.cm _) rfl rfl rfl ?_
            refine w_goto (Ev.cm _) rfl ?_
            show Wp _ _ _ _ _ _ _ 39 [(0, .ref 331), (1, .int (x1 ||| 1)), (2, .int x2), (3, .int (x3 + 1)), (4, .int r3)] [] (HS I6 L6 X)
            refine Wp.sub [0, 1, 2, 3] (ls2 := [(0, .ref 331), (1, .int (x1 ||| 1)), (2, .int x2), (3, .int (x3 + 1))]) rfl ?_
            exact ih _ _ _ _ _ q
      · have c2 : x2 = x3 := c2
        rw [if_pos c2] at q
        refine w_iconst (Ev.cm _) rfl ?_
        refine w_goto (Ev.cm _) rfl ?_
        refine w_istore (ls2 := [(0, .ref 331), (1, .int x1), (2, .int x2), (3, .int x3), (4, .int (-1))]) (Ev.cm _) rfl rfl ?_
        refine w_iload_n (Ev.cm _) rfl rfl ?_
        refine w_iload (Ev.cm _) rfl rfl ?_
        refine w_iconst (Ev.cm _) rfl ?_
        refine w_icmp_eq (Ev.cm _) rfl (fun _ => ?_) (fun q => absurd (by decide) q)
        refine w_iconst (Ev.cm _) rfl ?_
        refine w_ior (Ev.cm _) rfl ?_
        refine w_istore_n (ls2 := [(0, .ref 331), (1, .int (x1 ||| 0)), (2, .int x2), (3, .int x3), (4, .int (-1))]) (Ev.cm _) rfl rfl ?_
        refine w_iinc (ls2 := [(0, .ref 331), (1, .int (x1 ||| 0)), (2, .int x2), (3, .int (x3 + 1)), (4, .int (-1))]) (Ev.cm _) rfl rfl rfl ?_
        refine w_goto (Ev.cm _) rfl ?_
        show Wp _ _ _ _ _ _ _ 39 [(0, .ref 331), (1, .int (x1 ||| 0)), (2, .int x2), (3, .int (x3 + 1)), (4, .int (-1))] [] (HS I L X)
        refine Wp.sub [0, 1, 2, 3] (ls2 := [(0, .ref 331), (1, .int (x1 ||| 0)), (2, .int x2), (3, .int (x3 + 1))]) rfl ?_
        exact ih _ _ _ _ _ q
def LO_M_doubt_27 (fu : Nat) : Nat → Int32 → Int32 → (Nat → Nat → Int32) → (Nat → Nat → Int64) → Option (Int32 × (Nat → Nat → Int32) × (Nat → Nat → Int64))
  | 0, _, _, _, _ => none
  | n + 1, x1, x2, I, L => if I 332 5 ≤ x2 then (LO_M_doubt_116 fu fu x1 x2 I L) else (LO_M_doubt_39 fu (fun x1 x2 I L => LO_M_doubt_27 fu n x1 x2 I L) fu x1 x2 0 I L)
set_option maxHeartbeats 20000000 in
set_option maxRecDepth 20000 in
theorem lo_M_doubt_27 {d fu n0 s0 : Nat} {X : Nat × (Nat → Int32)} {Q : PQ} {res : Int32 × (Nat → Nat → Int32) × (Nat → Nat → Int64)}  (g : Q (some (.int res.1)) (HS res.2.1 res.2.2 X)) : ∀ (n : Nat) (x1 : Int32) (x2 : Int32) (I : Nat → Nat → Int32) (L : Nat → Nat → Int64), LO_M_doubt_27 fu n x1 x2 I L = some res → Wp (Ev (d + 2)) cd_M_doubt (0, 0) (some .int) n0 s0 Q 27 [(0, .ref 331), (1, .int x1), (2, .int x2)] [] (HS I L X) := by
  intro n
  induction n with
  | zero => intro _ _ _ _ q; cases q
  | succ n ih =>
    intro x1 x2 I L q
    unfold LO_M_doubt_27 at q
    refine w_iload_n (Ev.cm _) rfl rfl ?_
    refine w_aload_n (Ev.cm _) rfl rfl ?_
    refine w_getR (q := 332) (Ev.cm _) rfl (Nat.le_of_ble_eq_true rfl) rfl rfl ?_
    refine w_iconst (Ev.cm _) rfl ?_
    refine w_iald (Ev.cm _) rfl (Nat.le_of_ble_eq_true rfl) rfl (show vp_in 5 1541 from vpI 1541 (by decide) (by decide) (by decide)) ?_
    refine w_icmp_ge (Ev.cm _) rfl (fun c1 => ?_) (fun c1 => ?_)
    · have c1 : I 332 5 ≤ x2 := c1
      rw [if_pos c1] at q
      show Wp _ _ _ _ _ _ _ 116 [(0, .ref 331), (1, .int x1), (2, .int x2)] [] (HS I L X)
      refine Wp.sub [0, 1, 2] (ls2 := [(0, .ref 331), (1, .int x1), (2, .int x2)]) rfl ?_
      exact lo_M_doubt_116 g fu _ _ _ _ q
    · have c1 : ¬ (I 332 5 ≤ x2) := c1
      rw [if_neg c1] at q
      refine w_iconst (Ev.cm _) rfl ?_
      refine w_istore_n (ls2 := [(0, .ref 331), (1, .int x1), (2, .int x2), (3, .int 0)]) (Ev.cm _) rfl rfl ?_
      show Wp _ _ _ _ _ _ _ 39 [(0, .ref 331), (1, .int x1), (2, .int x2), (3, .int 0)] [] (HS I L X)
      refine Wp.sub [0, 1, 2, 3] (ls2 := [(0, .ref 331), (1, .int x1), (2, .int x2), (3, .int 0)]) rfl ?_
      exact lo_M_doubt_39 g (fun x1 x2 I L q => ih x1 x2 I L q) fu _ _ _ _ _ q
def LO_M_doubt_2 (fu : Nat) : Nat → Int32 → (Nat → Nat → Int32) → (Nat → Nat → Int64) → Option (Int32 × (Nat → Nat → Int32) × (Nat → Nat → Int64))
  | 0, _, _, _ => none
  | n + 1, x1, I, L => if 64 ≤ x1 then (LO_M_doubt_27 fu fu 0 0 I L) else (if 0 ≤ x1 ∧ x1 < 64 then (LO_M_doubt_2 fu n (x1 + 1) (sI I 346 x1.toNatClampNeg 1000000) L) else none)
set_option maxHeartbeats 20000000 in
set_option maxRecDepth 20000 in
theorem lo_M_doubt_2 {d fu n0 s0 : Nat} {X : Nat × (Nat → Int32)} {Q : PQ} {res : Int32 × (Nat → Nat → Int32) × (Nat → Nat → Int64)}  (g : Q (some (.int res.1)) (HS res.2.1 res.2.2 X)) : ∀ (n : Nat) (x1 : Int32) (I : Nat → Nat → Int32) (L : Nat → Nat → Int64), LO_M_doubt_2 fu n x1 I L = some res → Wp (Ev (d + 2)) cd_M_doubt (0, 0) (some .int) n0 s0 Q 2 [(0, .ref 331), (1, .int x1)] [] (HS I L X) := by
  intro n
  induction n with
  | zero => intro _ _ _ q; cases q
  | succ n ih =>
    intro x1 I L q
    unfold LO_M_doubt_2 at q
    refine w_iload_n (Ev.cm _) rfl rfl ?_
    refine w_bipush (Ev.cm _) rfl ?_
    refine w_icmp_ge (Ev.cm _) rfl (fun c1 => ?_) (fun c1 => ?_)
    · have c1 : 64 ≤ x1 := c1
      rw [if_pos c1] at q
      refine w_iconst (Ev.cm _) rfl ?_
      refine w_istore_n (ls2 := [(0, .ref 331), (1, .int 0)]) (Ev.cm _) rfl rfl ?_
      refine w_iconst (Ev.cm _) rfl ?_
      refine w_istore_n (ls2 := [(0, .ref 331), (1, .int 0), (2, .int 0)]) (Ev.cm _) rfl rfl ?_
      show Wp _ _ _ _ _ _ _ 27 [(0, .ref 331), (1, .int 0), (2, .int 0)] [] (HS I L X)
      refine Wp.sub [0, 1, 2] (ls2 := [(0, .ref 331), (1, .int 0), (2, .int 0)]) rfl ?_
      exact lo_M_doubt_27 g fu _ _ _ _ q
    · have c1 : ¬ (64 ≤ x1) := c1
      rw [if_neg c1] at q
      refine w_aload_n (Ev.cm _) rfl rfl ?_
      refine w_getR (q := 346) (Ev.cm _) rfl (Nat.le_of_ble_eq_true rfl) rfl rfl ?_
      refine w_iload_n (Ev.cm _) rfl rfl ?_
      refine w_ldc_w (Ev.cm _) rfl ?_
      obtain ⟨b1, q⟩ := ois q
      refine w_iast (Ev.cm _) rfl (Nat.le_of_ble_eq_true rfl) rfl (show vp_in x1 64 from vpI 64 (by decide) b1.1 b1.2) ?_
      refine w_iinc (ls2 := [(0, .ref 331), (1, .int (x1 + 1))]) (Ev.cm _) rfl rfl rfl ?_
      refine w_goto (Ev.cm _) rfl ?_
      show Wp _ _ _ _ _ _ _ 2 [(0, .ref 331), (1, .int (x1 + 1))] [] (HS (sI I 346 x1.toNatClampNeg 1000000) L X)
      refine Wp.sub [0, 1] (ls2 := [(0, .ref 331), (1, .int (x1 + 1))]) rfl ?_
      exact ih _ _ _ q
def FO_M_doubt (fu : Nat) (I : Nat → Nat → Int32) (L : Nat → Nat → Int64) : Option (Int32 × (Nat → Nat → Int32) × (Nat → Nat → Int64)) := LO_M_doubt_2 fu fu 0 I L
set_option maxHeartbeats 20000000 in
set_option maxRecDepth 20000 in
theorem eo_M_doubt {d fu : Nat} {I : Nat → Nat → Int32} {L : Nat → Nat → Int64} {X : Nat × (Nat → Int32)} {Q : PQ} {res : Int32 × (Nat → Nat → Int32) × (Nat → Nat → Int64)}  (g : Q (some (.int res.1)) (HS res.2.1 res.2.2 X)) (q : FO_M_doubt fu  I L = some res) : Ev (d + 3) m_M_doubt [.ref 331] (HS I L X) Q := by
  unfold FO_M_doubt at q
  refine ev_start (d := d + 2) rfl rfl rfl (Nat.le_of_ble_eq_true rfl) ?_
  show Wp (Ev (d + 2)) cd_M_doubt (0, 0) (some .int) _ _ Q 0 [(0, .ref 331)] [] (HS I L X)
  refine w_iconst (Ev.cm _) rfl ?_
  refine w_istore_n (ls2 := [(0, .ref 331), (1, .int 0)]) (Ev.cm _) rfl rfl ?_
  show Wp _ _ _ _ _ _ _ 2 [(0, .ref 331), (1, .int 0)] [] (HS I L X)
  refine Wp.sub [0, 1] (ls2 := [(0, .ref 331), (1, .int 0)]) rfl ?_
  exact lo_M_doubt_2 g fu _ _ _ q
def FO_M_clear (fu : Nat) (I : Nat → Nat → Int32) (L : Nat → Nat → Int64) : Option (Int32 × (Nat → Nat → Int32) × (Nat → Nat → Int64)) := (FO_M_doubt fu  I L).bind (fun u1 => let r1 := u1.1; let I1 := u1.2.1; let L1 := u1.2.2; if r1 = (-1) then (some (1, I1, L1)) else (some (0, I1, L1)))
set_option maxHeartbeats 20000000 in
set_option maxRecDepth 20000 in
theorem eo_M_clear {d fu : Nat} {I : Nat → Nat → Int32} {L : Nat → Nat → Int64} {X : Nat × (Nat → Int32)} {Q : PQ} {res : Int32 × (Nat → Nat → Int32) × (Nat → Nat → Int64)}  (g : Q (some (.int res.1)) (HS res.2.1 res.2.2 X)) (q : FO_M_clear fu  I L = some res) : Ev (d + 4) m_M_clear [.ref 331] (HS I L X) Q := by
  unfold FO_M_clear at q
  refine ev_start (d := d + 3) rfl rfl rfl (Nat.le_of_ble_eq_true rfl) ?_
  show Wp (Ev (d + 3)) cd_M_clear (0, 0) (some .int) _ _ Q 0 [(0, .ref 331)] [] (HS I L X)
  refine w_aload_n (Ev.cm _) rfl rfl ?_
  obtain ⟨⟨r1, I1, L1⟩, e1, q⟩ := obs q
  dsimp only at q
  refine w_cvirt (o := 331) (as := []) (st := []) (Ev.cm _) rfl rfl rfl (Nat.le_of_ble_eq_true rfl) (Nat.le_of_ble_eq_true rfl) rfl (Nat.le_of_ble_eq_true rfl) (eo_M_doubt (g := ?_) e1)
  show Wp _ _ _ _ _ _ _ 4 [(0, .ref 331)] [.int r1] (HS I1 L1 X)
  refine w_iconst (Ev.cm _) rfl ?_
  refine w_icmp_ne (Ev.cm _) rfl (fun c1 => ?_) (fun c1 => ?_)
  · have c1 : ¬ (r1 = (-1)) := c1
    rw [if_neg c1] at q
    refine w_iconst (Ev.cm _) rfl ?_
    refine w_ireturn (Ev.cm _) rfl trivial rf0 ?_
    cases q
    exact g
  · have c1 : r1 = (-1) := c1
    rw [if_pos c1] at q
    refine w_iconst (Ev.cm _) rfl ?_
    refine w_goto (Ev.cm _) rfl ?_
    refine w_ireturn (Ev.cm _) rfl trivial rf0 ?_
    cases q
    exact g
def LO_M_free_14 (fu : Nat) (k_2 : Int32 → (Nat → Nat → Int32) → (Nat → Nat → Int64) → Option (Int32 × (Nat → Nat → Int32) × (Nat → Nat → Int64))) : Nat → Int32 → Int32 → (Nat → Nat → Int32) → (Nat → Nat → Int64) → Option (Int32 × (Nat → Nat → Int32) × (Nat → Nat → Int64))
  | 0, _, _, _, _ => none
  | n + 1, x1, x2, I, L => if I 332 5 ≤ x2 then (k_2 (x1 + 1) I L) else (if x1 = x2 then (LO_M_free_14 fu k_2 n x1 (x2 + 1) I L) else ((FO_M_wordAt fu x1 I L).bind (fun u1 => let r1 := u1.1; let I1 := u1.2.1; let L1 := u1.2.2; (FO_M_wordAt fu x2 I1 L1).bind (fun u2 => let r2 := u2.1; let I2 := u2.2.1; let L2 := u2.2.2; (FO_M_restOf fu r1 r2 I2 L2).bind (fun u3 => let r3 := u3.1; let I3 := u3.2.1; let L3 := u3.2.2; if r3 = (-1) then (LO_M_free_14 fu k_2 n x1 (x2 + 1) I3 L3) else (some (0, I3, L3)))))))
set_option maxHeartbeats 20000000 in
set_option maxRecDepth 20000 in
theorem lo_M_free_14 {d fu n0 s0 : Nat} {X : Nat × (Nat → Int32)} {Q : PQ} {k_2 : Int32 → (Nat → Nat → Int32) → (Nat → Nat → Int64) → Option (Int32 × (Nat → Nat → Int32) × (Nat → Nat → Int64))} {res : Int32 × (Nat → Nat → Int32) × (Nat → Nat → Int64)}  (g : Q (some (.int res.1)) (HS res.2.1 res.2.2 X)) (hk_2 : ∀ (x1 : Int32) (I : Nat → Nat → Int32) (L : Nat → Nat → Int64), k_2 x1 I L = some res → Wp (Ev (d + 2)) cd_M_free (0, 0) (some .int) n0 s0 Q 2 [(0, .ref 331), (1, .int x1)] [] (HS I L X)) : ∀ (n : Nat) (x1 : Int32) (x2 : Int32) (I : Nat → Nat → Int32) (L : Nat → Nat → Int64), LO_M_free_14 fu k_2 n x1 x2 I L = some res → Wp (Ev (d + 2)) cd_M_free (0, 0) (some .int) n0 s0 Q 14 [(0, .ref 331), (1, .int x1), (2, .int x2)] [] (HS I L X) := by
  intro n
  induction n with
  | zero => intro _ _ _ _ q; cases q
  | succ n ih =>
    intro x1 x2 I L q
    unfold LO_M_free_14 at q
    refine w_iload_n (Ev.cm _) rfl rfl ?_
    refine w_aload_n (Ev.cm _) rfl rfl ?_
    refine w_getR (q := 332) (Ev.cm _) rfl (Nat.le_of_ble_eq_true rfl) rfl rfl ?_
    refine w_iconst (Ev.cm _) rfl ?_
    refine w_iald (Ev.cm _) rfl (Nat.le_of_ble_eq_true rfl) rfl (show vp_in 5 1541 from vpI 1541 (by decide) (by decide) (by decide)) ?_
    refine w_icmp_ge (Ev.cm _) rfl (fun c1 => ?_) (fun c1 => ?_)
    · have c1 : I 332 5 ≤ x2 := c1
      rw [if_pos c1] at q
      refine w_iinc (ls2 := [(0, .ref 331), (1, .int (x1 + 1)), (2, .int x2)]) (Ev.cm _) rfl rfl rfl ?_
      refine w_goto (Ev.cm _) rfl ?_
      show Wp _ _ _ _ _ _ _ 2 [(0, .ref 331), (1, .int (x1 + 1)), (2, .int x2)] [] (HS I L X)
      refine Wp.sub [0, 1] (ls2 := [(0, .ref 331), (1, .int (x1 + 1))]) rfl ?_
      exact hk_2 _ _ _ q
    · have c1 : ¬ (I 332 5 ≤ x2) := c1
      rw [if_neg c1] at q
      refine w_iload_n (Ev.cm _) rfl rfl ?_
      refine w_iload_n (Ev.cm _) rfl rfl ?_
      refine w_icmp_eq (Ev.cm _) rfl (fun c2 => ?_) (fun c2 => ?_)
      · have c2 : x1 = x2 := c2
        rw [if_pos c2] at q
        refine w_iinc (ls2 := [(0, .ref 331), (1, .int x1), (2, .int (x2 + 1))]) (Ev.cm _) rfl rfl rfl ?_
        refine w_goto (Ev.cm _) rfl ?_
        show Wp _ _ _ _ _ _ _ 14 [(0, .ref 331), (1, .int x1), (2, .int (x2 + 1))] [] (HS I L X)
        refine Wp.sub [0, 1, 2] (ls2 := [(0, .ref 331), (1, .int x1), (2, .int (x2 + 1))]) rfl ?_
        exact ih _ _ _ _ q
      · have c2 : ¬ (x1 = x2) := c2
        rw [if_neg c2] at q
        refine w_aload_n (Ev.cm _) rfl rfl ?_
        refine w_iload_n (Ev.cm _) rfl rfl ?_
        obtain ⟨⟨r1, I1, L1⟩, e1, q⟩ := obs q
        dsimp only at q
        refine w_cvirt (o := 331) (as := [.int x1]) (st := []) (Ev.cm _) rfl rfl rfl (Nat.le_of_ble_eq_true rfl) (Nat.le_of_ble_eq_true rfl) rfl (Nat.le_of_ble_eq_true rfl) (eo_M_wordAt (g := ?_) e1)
        show Wp _ _ _ _ _ _ _ 34 [(0, .ref 331), (1, .int x1), (2, .int x2)] [.int r1] (HS I1 L1 X)
        refine w_aload_n (Ev.cm _) rfl rfl ?_
        refine w_iload_n (Ev.cm _) rfl rfl ?_
        obtain ⟨⟨r2, I2, L2⟩, e2, q⟩ := obs q
        dsimp only at q
        refine w_cvirt (o := 331) (as := [.int x2]) (st := [.int r1]) (Ev.cm _) rfl rfl rfl (Nat.le_of_ble_eq_true rfl) (Nat.le_of_ble_eq_true rfl) rfl (Nat.le_of_ble_eq_true rfl) (eo_M_wordAt (g := ?_) e2)
        show Wp _ _ _ _ _ _ _ 39 [(0, .ref 331), (1, .int x1), (2, .int x2)] [.int r2, .int r1] (HS I2 L2 X)
        obtain ⟨⟨r3, I3, L3⟩, e3, q⟩ := obs q
        dsimp only at q
        refine w_cstat (as := [.int r1, .int r2]) (st := []) (Ev.cm _) rfl rfl rfl (Nat.le_of_ble_eq_true rfl) (Nat.le_of_ble_eq_true rfl) (eo_M_restOf (g := ?_) e3)
        show Wp _ _ _ _ _ _ _ 42 [(0, .ref 331), (1, .int x1), (2, .int x2)] [.int r3] (HS I3 L3 X)
        refine w_iconst (Ev.cm _) rfl ?_
        refine w_icmp_eq (Ev.cm _) rfl (fun c3 => ?_) (fun c3 => ?_)
        · have c3 : r3 = (-1) := c3
          rw [if_pos c3] at q
          refine w_iinc (ls2 := [(0, .ref 331), (1, .int x1), (2, .int (x2 + 1))]) (Ev.cm _) rfl rfl rfl ?_
          refine w_goto (Ev.cm _) rfl ?_
          show Wp _ _ _ _ _ _ _ 14 [(0, .ref 331), (1, .int x1), (2, .int (x2 + 1))] [] (HS I3 L3 X)
          refine Wp.sub [0, 1, 2] (ls2 := [(0, .ref 331), (1, .int x1), (2, .int (x2 + 1))]) rfl ?_
          exact ih _ _ _ _ q
        · have c3 : ¬ (r3 = (-1)) := c3
          rw [if_neg c3] at q
          refine w_iconst (Ev.cm _) rfl ?_
          refine w_ireturn (Ev.cm _) rfl trivial rf0 ?_
          cases q
          exact g
def LO_M_free_2 (fu : Nat) : Nat → Int32 → (Nat → Nat → Int32) → (Nat → Nat → Int64) → Option (Int32 × (Nat → Nat → Int32) × (Nat → Nat → Int64))
  | 0, _, _, _ => none
  | n + 1, x1, I, L => if I 332 5 ≤ x1 then (some (1, I, L)) else (LO_M_free_14 fu (fun x1 I L => LO_M_free_2 fu n x1 I L) fu x1 0 I L)
set_option maxHeartbeats 20000000 in
set_option maxRecDepth 20000 in
theorem lo_M_free_2 {d fu n0 s0 : Nat} {X : Nat × (Nat → Int32)} {Q : PQ} {res : Int32 × (Nat → Nat → Int32) × (Nat → Nat → Int64)}  (g : Q (some (.int res.1)) (HS res.2.1 res.2.2 X)) : ∀ (n : Nat) (x1 : Int32) (I : Nat → Nat → Int32) (L : Nat → Nat → Int64), LO_M_free_2 fu n x1 I L = some res → Wp (Ev (d + 2)) cd_M_free (0, 0) (some .int) n0 s0 Q 2 [(0, .ref 331), (1, .int x1)] [] (HS I L X) := by
  intro n
  induction n with
  | zero => intro _ _ _ q; cases q
  | succ n ih =>
    intro x1 I L q
    unfold LO_M_free_2 at q
    refine w_iload_n (Ev.cm _) rfl rfl ?_
    refine w_aload_n (Ev.cm _) rfl rfl ?_
    refine w_getR (q := 332) (Ev.cm _) rfl (Nat.le_of_ble_eq_true rfl) rfl rfl ?_
    refine w_iconst (Ev.cm _) rfl ?_
    refine w_iald (Ev.cm _) rfl (Nat.le_of_ble_eq_true rfl) rfl (show vp_in 5 1541 from vpI 1541 (by decide) (by decide) (by decide)) ?_
    refine w_icmp_ge (Ev.cm _) rfl (fun c1 => ?_) (fun c1 => ?_)
    · have c1 : I 332 5 ≤ x1 := c1
      rw [if_pos c1] at q
      refine w_iconst (Ev.cm _) rfl ?_
      refine w_ireturn (Ev.cm _) rfl trivial rf0 ?_
      cases q
      exact g
    · have c1 : ¬ (I 332 5 ≤ x1) := c1
      rw [if_neg c1] at q
      refine w_iconst (Ev.cm _) rfl ?_
      refine w_istore_n (ls2 := [(0, .ref 331), (1, .int x1), (2, .int 0)]) (Ev.cm _) rfl rfl ?_
      show Wp _ _ _ _ _ _ _ 14 [(0, .ref 331), (1, .int x1), (2, .int 0)] [] (HS I L X)
      refine Wp.sub [0, 1, 2] (ls2 := [(0, .ref 331), (1, .int x1), (2, .int 0)]) rfl ?_
      exact lo_M_free_14 g (fun x1 I L q => ih x1 I L q) fu _ _ _ _ q
def FO_M_free (fu : Nat) (I : Nat → Nat → Int32) (L : Nat → Nat → Int64) : Option (Int32 × (Nat → Nat → Int32) × (Nat → Nat → Int64)) := LO_M_free_2 fu fu 0 I L
set_option maxHeartbeats 20000000 in
set_option maxRecDepth 20000 in
theorem eo_M_free {d fu : Nat} {I : Nat → Nat → Int32} {L : Nat → Nat → Int64} {X : Nat × (Nat → Int32)} {Q : PQ} {res : Int32 × (Nat → Nat → Int32) × (Nat → Nat → Int64)}  (g : Q (some (.int res.1)) (HS res.2.1 res.2.2 X)) (q : FO_M_free fu  I L = some res) : Ev (d + 3) m_M_free [.ref 331] (HS I L X) Q := by
  unfold FO_M_free at q
  refine ev_start (d := d + 2) rfl rfl rfl (Nat.le_of_ble_eq_true rfl) ?_
  show Wp (Ev (d + 2)) cd_M_free (0, 0) (some .int) _ _ Q 0 [(0, .ref 331)] [] (HS I L X)
  refine w_iconst (Ev.cm _) rfl ?_
  refine w_istore_n (ls2 := [(0, .ref 331), (1, .int 0)]) (Ev.cm _) rfl rfl ?_
  show Wp _ _ _ _ _ _ _ 2 [(0, .ref 331), (1, .int 0)] [] (HS I L X)
  refine Wp.sub [0, 1] (ls2 := [(0, .ref 331), (1, .int 0)]) rfl ?_
  exact lo_M_free_2 g fu _ _ _ q
def LO_M_readsOf_37 (fu : Nat) (k_7 : Int32 → Int32 → Int32 → (Nat → Nat → Int32) → (Nat → Nat → Int64) → Option (Int32 × (Nat → Nat → Int32) × (Nat → Nat → Int64))) : Nat → Int32 → Int32 → Int32 → Int32 → Int32 → (Nat → Nat → Int32) → (Nat → Nat → Int64) → Option (Int32 × (Nat → Nat → Int32) × (Nat → Nat → Int64))
  | 0, _, _, _, _, _, _, _ => none
  | n + 1, x1, x2, x3, x4, x5, I, L => if I 332 5 ≤ x5 then (k_7 x1 x2 (x3 + 1) I L) else ((FO_M_wordAt fu x5 I L).bind (fun u1 => let r1 := u1.1; let I1 := u1.2.1; let L1 := u1.2.2; (FO_M_lengthOf fu r1 I1 L1).bind (fun u2 => let r2 := u2.1; let I2 := u2.2.1; let L2 := u2.2.2; if x3 < r2 then (LO_M_readsOf_37 fu k_7 n x1 x2 x3 x4 (x5 + 1) I2 L2) else ((FO_M_wordAt fu x5 I2 L2).bind (fun u3 => let r3 := u3.1; let I3 := u3.2.1; let L3 := u3.2.2; if (x4 &&& (((1 : Int32) <<< (r2 &&& 31)) - 1)) = (r3 &&& (((1 : Int32) <<< (r2 &&& 31)) - 1)) then (if 0 ≤ x3 ∧ x3 < 9 then (if 0 ≤ x3 - r2 ∧ x3 - r2 < 9 then (if 0 ≤ x3 ∧ x3 < 9 then (LO_M_readsOf_37 fu k_7 n x1 x2 x3 x4 (x5 + 1) (sI I3 347 x3.toNatClampNeg ((I3 347 x3.toNatClampNeg) + (I3 347 ((x3 - r2).toNatClampNeg)))) L3) else none) else none) else none) else (LO_M_readsOf_37 fu k_7 n x1 x2 x3 x4 (x5 + 1) I3 L3))))))
set_option maxHeartbeats 20000000 in
set_option maxRecDepth 20000 in
theorem lo_M_readsOf_37 {d fu n0 s0 : Nat} {X : Nat × (Nat → Int32)} {Q : PQ} {k_7 : Int32 → Int32 → Int32 → (Nat → Nat → Int32) → (Nat → Nat → Int64) → Option (Int32 × (Nat → Nat → Int32) × (Nat → Nat → Int64))} {res : Int32 × (Nat → Nat → Int32) × (Nat → Nat → Int64)}  (g : Q (some (.int res.1)) (HS res.2.1 res.2.2 X)) (hk_7 : ∀ (x1 : Int32) (x2 : Int32) (x3 : Int32) (I : Nat → Nat → Int32) (L : Nat → Nat → Int64), k_7 x1 x2 x3 I L = some res → Wp (Ev (d + 2)) cd_M_readsOf (0, 0) (some .int) n0 s0 Q 7 [(0, .ref 331), (1, .int x1), (2, .int x2), (3, .int x3)] [] (HS I L X)) : ∀ (n : Nat) (x1 : Int32) (x2 : Int32) (x3 : Int32) (x4 : Int32) (x5 : Int32) (I : Nat → Nat → Int32) (L : Nat → Nat → Int64), LO_M_readsOf_37 fu k_7 n x1 x2 x3 x4 x5 I L = some res → Wp (Ev (d + 2)) cd_M_readsOf (0, 0) (some .int) n0 s0 Q 37 [(0, .ref 331), (1, .int x1), (2, .int x2), (3, .int x3), (4, .int x4), (5, .int x5)] [] (HS I L X) := by
  intro n
  induction n with
  | zero => intro _ _ _ _ _ _ _ q; cases q
  | succ n ih =>
    intro x1 x2 x3 x4 x5 I L q
    unfold LO_M_readsOf_37 at q
    refine w_iload (Ev.cm _) rfl rfl ?_
    refine w_aload_n (Ev.cm _) rfl rfl ?_
    refine w_getR (q := 332) (Ev.cm _) rfl (Nat.le_of_ble_eq_true rfl) rfl rfl ?_
    refine w_iconst (Ev.cm _) rfl ?_
    refine w_iald (Ev.cm _) rfl (Nat.le_of_ble_eq_true rfl) rfl (show vp_in 5 1541 from vpI 1541 (by decide) (by decide) (by decide)) ?_
    refine w_icmp_ge (Ev.cm _) rfl (fun c1 => ?_) (fun c1 => ?_)
    · have c1 : I 332 5 ≤ x5 := c1
      rw [if_pos c1] at q
      refine w_iinc (ls2 := [(0, .ref 331), (1, .int x1), (2, .int x2), (3, .int (x3 + 1)), (4, .int x4), (5, .int x5)]) (Ev.cm _) rfl rfl rfl ?_
      refine w_goto (Ev.cm _) rfl ?_
      show Wp _ _ _ _ _ _ _ 7 [(0, .ref 331), (1, .int x1), (2, .int x2), (3, .int (x3 + 1)), (4, .int x4), (5, .int x5)] [] (HS I L X)
      refine Wp.sub [0, 1, 2, 3] (ls2 := [(0, .ref 331), (1, .int x1), (2, .int x2), (3, .int (x3 + 1))]) rfl ?_
      exact hk_7 _ _ _ _ _ q
    · have c1 : ¬ (I 332 5 ≤ x5) := c1
      rw [if_neg c1] at q
      refine w_aload_n (Ev.cm _) rfl rfl ?_
      refine w_iload (Ev.cm _) rfl rfl ?_
      obtain ⟨⟨r1, I1, L1⟩, e1, q⟩ := obs q
      dsimp only at q
      refine w_cvirt (o := 331) (as := [.int x5]) (st := []) (Ev.cm _) rfl rfl rfl (Nat.le_of_ble_eq_true rfl) (Nat.le_of_ble_eq_true rfl) rfl (Nat.le_of_ble_eq_true rfl) (eo_M_wordAt (g := ?_) e1)
      show Wp _ _ _ _ _ _ _ 54 [(0, .ref 331), (1, .int x1), (2, .int x2), (3, .int x3), (4, .int x4), (5, .int x5)] [.int r1] (HS I1 L1 X)
      obtain ⟨⟨r2, I2, L2⟩, e2, q⟩ := obs q
      dsimp only at q
      refine w_cstat (as := [.int r1]) (st := []) (Ev.cm _) rfl rfl rfl (Nat.le_of_ble_eq_true rfl) (Nat.le_of_ble_eq_true rfl) (eo_M_lengthOf (g := ?_) e2)
      show Wp _ _ _ _ _ _ _ 57 [(0, .ref 331), (1, .int x1), (2, .int x2), (3, .int x3), (4, .int x4), (5, .int x5)] [.int r2] (HS I2 L2 X)
      refine w_istore (ls2 := [(0, .ref 331), (1, .int x1), (2, .int x2), (3, .int x3), (4, .int x4), (5, .int x5), (6, .int r2)]) (Ev.cm _) rfl rfl ?_
      refine w_iload (Ev.cm _) rfl rfl ?_
      refine w_iload_n (Ev.cm _) rfl rfl ?_
      refine w_icmp_gt (Ev.cm _) rfl (fun c2 => ?_) (fun c2 => ?_)
      · have c2 : x3 < r2 := c2
        rw [if_pos c2] at q
        refine w_iinc (ls2 := [(0, .ref 331), (1, .int x1), (2, .int x2), (3, .int x3), (4, .int x4), (5, .int (x5 + 1)), (6, .int r2)]) (Ev.cm _) rfl rfl rfl ?_
        refine w_goto (Ev.cm _) rfl ?_
        show Wp _ _ _ _ _ _ _ 37 [(0, .ref 331), (1, .int x1), (2, .int x2), (3, .int x3), (4, .int x4), (5, .int (x5 + 1)), (6, .int r2)] [] (HS I2 L2 X)
        refine Wp.sub [0, 1, 2, 3, 4, 5] (ls2 := [(0, .ref 331), (1, .int x1), (2, .int x2), (3, .int x3), (4, .int x4), (5, .int (x5 + 1))]) rfl ?_
        exact ih _ _ _ _ _ _ _ q
      · have c2 : ¬ (x3 < r2) := c2
        rw [if_neg c2] at q
        refine w_iload (Ev.cm _) rfl rfl ?_
        refine w_iconst (Ev.cm _) rfl ?_
        refine w_iload (Ev.cm _) rfl rfl ?_
        refine w_ishl (Ev.cm _) rfl ?_
        refine w_iconst (Ev.cm _) rfl ?_
        refine w_isub (Ev.cm _) rfl ?_
        refine w_iand (Ev.cm _) rfl ?_
        refine w_aload_n (Ev.cm _) rfl rfl ?_
        refine w_iload (Ev.cm _) rfl rfl ?_
        obtain ⟨⟨r3, I3, L3⟩, e3, q⟩ := obs q
        dsimp only at q
        refine w_cvirt (o := 331) (as := [.int x5]) (st := [.int (x4 &&& (((1 : Int32) <<< (r2 &&& 31)) - 1))]) (Ev.cm _) rfl rfl rfl (Nat.le_of_ble_eq_true rfl) (Nat.le_of_ble_eq_true rfl) rfl (Nat.le_of_ble_eq_true rfl) (eo_M_wordAt (g := ?_) e3)
        show Wp _ _ _ _ _ _ _ 80 [(0, .ref 331), (1, .int x1), (2, .int x2), (3, .int x3), (4, .int x4), (5, .int x5), (6, .int r2)] [.int r3, .int (x4 &&& (((1 : Int32) <<< (r2 &&& 31)) - 1))] (HS I3 L3 X)
        refine w_iconst (Ev.cm _) rfl ?_
        refine w_iload (Ev.cm _) rfl rfl ?_
        refine w_ishl (Ev.cm _) rfl ?_
        refine w_iconst (Ev.cm _) rfl ?_
        refine w_isub (Ev.cm _) rfl ?_
        refine w_iand (Ev.cm _) rfl ?_
        refine w_icmp_ne (Ev.cm _) rfl (fun c3 => ?_) (fun c3 => ?_)
        · have c3 : ¬ ((x4 &&& (((1 : Int32) <<< (r2 &&& 31)) - 1)) = (r3 &&& (((1 : Int32) <<< (r2 &&& 31)) - 1))) := c3
          rw [if_neg c3] at q
          refine w_iinc (ls2 := [(0, .ref 331), (1, .int x1), (2, .int x2), (3, .int x3), (4, .int x4), (5, .int (x5 + 1)), (6, .int r2)]) (Ev.cm _) rfl rfl rfl ?_
          refine w_goto (Ev.cm _) rfl ?_
          show Wp _ _ _ _ _ _ _ 37 [(0, .ref 331), (1, .int x1), (2, .int x2), (3, .int x3), (4, .int x4), (5, .int (x5 + 1)), (6, .int r2)] [] (HS I3 L3 X)
          refine Wp.sub [0, 1, 2, 3, 4, 5] (ls2 := [(0, .ref 331), (1, .int x1), (2, .int x2), (3, .int x3), (4, .int x4), (5, .int (x5 + 1))]) rfl ?_
          exact ih _ _ _ _ _ _ _ q
        · have c3 : (x4 &&& (((1 : Int32) <<< (r2 &&& 31)) - 1)) = (r3 &&& (((1 : Int32) <<< (r2 &&& 31)) - 1)) := c3
          rw [if_pos c3] at q
          refine w_aload_n (Ev.cm _) rfl rfl ?_
          refine w_getR (q := 347) (Ev.cm _) rfl (Nat.le_of_ble_eq_true rfl) rfl rfl ?_
          refine w_iload_n (Ev.cm _) rfl rfl ?_
          refine w_dup2 (Ev.cm _) rfl rfl rfl ?_
          obtain ⟨b4, q⟩ := ois q
          refine w_iald (Ev.cm _) rfl (Nat.le_of_ble_eq_true rfl) rfl (show vp_in x3 9 from vpI 9 (by decide) b4.1 b4.2) ?_
          refine w_aload_n (Ev.cm _) rfl rfl ?_
          refine w_getR (q := 347) (Ev.cm _) rfl (Nat.le_of_ble_eq_true rfl) rfl rfl ?_
          refine w_iload_n (Ev.cm _) rfl rfl ?_
          refine w_iload (Ev.cm _) rfl rfl ?_
          refine w_isub (Ev.cm _) rfl ?_
          obtain ⟨b5, q⟩ := ois q
          refine w_iald (Ev.cm _) rfl (Nat.le_of_ble_eq_true rfl) rfl (show vp_in (x3 - r2) 9 from vpI 9 (by decide) b5.1 b5.2) ?_
          refine w_iadd (Ev.cm _) rfl ?_
          obtain ⟨b6, q⟩ := ois q
          refine w_iast (Ev.cm _) rfl (Nat.le_of_ble_eq_true rfl) rfl (show vp_in x3 9 from vpI 9 (by decide) b6.1 b6.2) ?_
          refine w_iinc (ls2 := [(0, .ref 331), (1, .int x1), (2, .int x2), (3, .int x3), (4, .int x4), (5, .int (x5 + 1)), (6, .int r2)]) (Ev.cm _) rfl rfl rfl ?_
          refine w_goto (Ev.cm _) rfl ?_
          show Wp _ _ _ _ _ _ _ 37 [(0, .ref 331), (1, .int x1), (2, .int x2), (3, .int x3), (4, .int x4), (5, .int (x5 + 1)), (6, .int r2)] [] (HS (sI I3 347 x3.toNatClampNeg ((I3 347 x3.toNatClampNeg) + (I3 347 ((x3 - r2).toNatClampNeg)))) L3 X)
          refine Wp.sub [0, 1, 2, 3, 4, 5] (ls2 := [(0, .ref 331), (1, .int x1), (2, .int x2), (3, .int x3), (4, .int x4), (5, .int (x5 + 1))]) rfl ?_
          exact ih _ _ _ _ _ _ _ q
def LO_M_readsOf_7 (fu : Nat) : Nat → Int32 → Int32 → Int32 → (Nat → Nat → Int32) → (Nat → Nat → Int64) → Option (Int32 × (Nat → Nat → Int32) × (Nat → Nat → Int64))
  | 0, _, _, _, _, _ => none
  | n + 1, x1, x2, x3, I, L => if x2 < x3 then (if 0 ≤ x2 ∧ x2 < 9 then (some (I 347 x2.toNatClampNeg, I, L)) else none) else (if x3 = 0 then (if 0 ≤ x3 ∧ x3 < 9 then (LO_M_readsOf_37 fu (fun x1 x2 x3 I L => LO_M_readsOf_7 fu n x1 x2 x3 I L) fu x1 x2 x3 (x1 >>> ((x2 - x3) &&& 31)) 0 (sI I 347 x3.toNatClampNeg 1) L) else none) else (if 0 ≤ x3 ∧ x3 < 9 then (LO_M_readsOf_37 fu (fun x1 x2 x3 I L => LO_M_readsOf_7 fu n x1 x2 x3 I L) fu x1 x2 x3 (x1 >>> ((x2 - x3) &&& 31)) 0 (sI I 347 x3.toNatClampNeg 0) L) else none))
set_option maxHeartbeats 20000000 in
set_option maxRecDepth 20000 in
theorem lo_M_readsOf_7 {d fu n0 s0 : Nat} {X : Nat × (Nat → Int32)} {Q : PQ} {res : Int32 × (Nat → Nat → Int32) × (Nat → Nat → Int64)}  (g : Q (some (.int res.1)) (HS res.2.1 res.2.2 X)) : ∀ (n : Nat) (x1 : Int32) (x2 : Int32) (x3 : Int32) (I : Nat → Nat → Int32) (L : Nat → Nat → Int64), LO_M_readsOf_7 fu n x1 x2 x3 I L = some res → Wp (Ev (d + 2)) cd_M_readsOf (0, 0) (some .int) n0 s0 Q 7 [(0, .ref 331), (1, .int x1), (2, .int x2), (3, .int x3)] [] (HS I L X) := by
  intro n
  induction n with
  | zero => intro _ _ _ _ _ q; cases q
  | succ n ih =>
    intro x1 x2 x3 I L q
    unfold LO_M_readsOf_7 at q
    refine w_iload_n (Ev.cm _) rfl rfl ?_
    refine w_iload_n (Ev.cm _) rfl rfl ?_
    refine w_icmp_gt (Ev.cm _) rfl (fun c1 => ?_) (fun c1 => ?_)
    · have c1 : x2 < x3 := c1
      rw [if_pos c1] at q
      refine w_aload_n (Ev.cm _) rfl rfl ?_
      refine w_getR (q := 347) (Ev.cm _) rfl (Nat.le_of_ble_eq_true rfl) rfl rfl ?_
      refine w_iload_n (Ev.cm _) rfl rfl ?_
      obtain ⟨b1, q⟩ := ois q
      refine w_iald (Ev.cm _) rfl (Nat.le_of_ble_eq_true rfl) rfl (show vp_in x2 9 from vpI 9 (by decide) b1.1 b1.2) ?_
      refine w_ireturn (Ev.cm _) rfl trivial rf0 ?_
      cases q
      exact g
    · have c1 : ¬ (x2 < x3) := c1
      rw [if_neg c1] at q
      refine w_aload_n (Ev.cm _) rfl rfl ?_
      refine w_getR (q := 347) (Ev.cm _) rfl (Nat.le_of_ble_eq_true rfl) rfl rfl ?_
      refine w_iload_n (Ev.cm _) rfl rfl ?_
      refine w_iload_n (Ev.cm _) rfl rfl ?_
      refine w_if_ne (Ev.cm _) rfl (fun c2 => ?_) (fun c2 => ?_)
      · have c2 : ¬ (x3 = 0) := c2
        rw [if_neg c2] at q
        refine w_iconst (Ev.cm _) rfl ?_
        obtain ⟨b2, q⟩ := ois q
        refine w_iast (Ev.cm _) rfl (Nat.le_of_ble_eq_true rfl) rfl (show vp_in x3 9 from vpI 9 (by decide) b2.1 b2.2) ?_
        refine w_iload_n (Ev.cm _) rfl rfl ?_
        refine w_iload_n (Ev.cm _) rfl rfl ?_
        refine w_iload_n (Ev.cm _) rfl rfl ?_
        refine w_isub (Ev.cm _) rfl ?_
        refine w_ishr (Ev.cm _) rfl ?_
        refine w_istore (ls2 := [(0, .ref 331), (1, .int x1), (2, .int x2), (3, .int x3), (4, .int (x1 >>> ((x2 - x3) &&& 31)))]) (Ev.cm _) rfl rfl ?_
        refine w_iconst (Ev.cm _) rfl ?_
        refine w_istore (ls2 := [(0, .ref 331), (1, .int x1), (2, .int x2), (3, .int x3), (4, .int (x1 >>> ((x2 - x3) &&& 31))), (5, .int 0)]) (Ev.cm _) rfl rfl ?_
        show Wp _ _ _ _ _ _ _ 37 [(0, .ref 331), (1, .int x1), (2, .int x2), (3, .int x3), (4, .int (x1 >>> ((x2 - x3) &&& 31))), (5, .int 0)] [] (HS (sI I 347 x3.toNatClampNeg 0) L X)
        refine Wp.sub [0, 1, 2, 3, 4, 5] (ls2 := [(0, .ref 331), (1, .int x1), (2, .int x2), (3, .int x3), (4, .int (x1 >>> ((x2 - x3) &&& 31))), (5, .int 0)]) rfl ?_
        exact lo_M_readsOf_37 g (fun x1 x2 x3 I L q => ih x1 x2 x3 I L q) fu _ _ _ _ _ _ _ q
      · have c2 : x3 = 0 := c2
        rw [if_pos c2] at q
        refine w_iconst (Ev.cm _) rfl ?_
        refine w_goto (Ev.cm _) rfl ?_
        obtain ⟨b3, q⟩ := ois q
        refine w_iast (Ev.cm _) rfl (Nat.le_of_ble_eq_true rfl) rfl (show vp_in x3 9 from vpI 9 (by decide) b3.1 b3.2) ?_
        refine w_iload_n (Ev.cm _) rfl rfl ?_
        refine w_iload_n (Ev.cm _) rfl rfl ?_
        refine w_iload_n (Ev.cm _) rfl rfl ?_
        refine w_isub (Ev.cm _) rfl ?_
        refine w_ishr (Ev.cm _) rfl ?_
        refine w_istore (ls2 := [(0, .ref 331), (1, .int x1), (2, .int x2), (3, .int x3), (4, .int (x1 >>> ((x2 - x3) &&& 31)))]) (Ev.cm _) rfl rfl ?_
        refine w_iconst (Ev.cm _) rfl ?_
        refine w_istore (ls2 := [(0, .ref 331), (1, .int x1), (2, .int x2), (3, .int x3), (4, .int (x1 >>> ((x2 - x3) &&& 31))), (5, .int 0)]) (Ev.cm _) rfl rfl ?_
        show Wp _ _ _ _ _ _ _ 37 [(0, .ref 331), (1, .int x1), (2, .int x2), (3, .int x3), (4, .int (x1 >>> ((x2 - x3) &&& 31))), (5, .int 0)] [] (HS (sI I 347 x3.toNatClampNeg 1) L X)
        refine Wp.sub [0, 1, 2, 3, 4, 5] (ls2 := [(0, .ref 331), (1, .int x1), (2, .int x2), (3, .int x3), (4, .int (x1 >>> ((x2 - x3) &&& 31))), (5, .int 0)]) rfl ?_
        exact lo_M_readsOf_37 g (fun x1 x2 x3 I L q => ih x1 x2 x3 I L q) fu _ _ _ _ _ _ _ q
def FO_M_readsOf (fu : Nat) (p0 : Int32) (I : Nat → Nat → Int32) (L : Nat → Nat → Int64) : Option (Int32 × (Nat → Nat → Int32) × (Nat → Nat → Int64)) := (FO_M_lengthOf fu p0 I L).bind (fun u1 => let r1 := u1.1; let I1 := u1.2.1; let L1 := u1.2.2; LO_M_readsOf_7 fu fu p0 r1 0 I1 L1)
set_option maxHeartbeats 20000000 in
set_option maxRecDepth 20000 in
theorem eo_M_readsOf {d fu : Nat} {p0 : Int32} {I : Nat → Nat → Int32} {L : Nat → Nat → Int64} {X : Nat × (Nat → Int32)} {Q : PQ} {res : Int32 × (Nat → Nat → Int32) × (Nat → Nat → Int64)}  (g : Q (some (.int res.1)) (HS res.2.1 res.2.2 X)) (q : FO_M_readsOf fu p0 I L = some res) : Ev (d + 3) m_M_readsOf [.ref 331, .int p0] (HS I L X) Q := by
  unfold FO_M_readsOf at q
  refine ev_start (d := d + 2) rfl rfl rfl (Nat.le_of_ble_eq_true rfl) ?_
  show Wp (Ev (d + 2)) cd_M_readsOf (0, 0) (some .int) _ _ Q 0 [(0, .ref 331), (1, .int p0)] [] (HS I L X)
  refine w_iload_n (Ev.cm _) rfl rfl ?_
  obtain ⟨⟨r1, I1, L1⟩, e1, q⟩ := obs q
  dsimp only at q
  refine w_cstat (as := [.int p0]) (st := []) (Ev.cm _) rfl rfl rfl (Nat.le_of_ble_eq_true rfl) (Nat.le_of_ble_eq_true rfl) (eo_M_lengthOf (g := ?_) e1)
  show Wp _ _ _ _ _ _ _ 4 [(0, .ref 331), (1, .int p0)] [.int r1] (HS I1 L1 X)
  refine w_istore_n (ls2 := [(0, .ref 331), (1, .int p0), (2, .int r1)]) (Ev.cm _) rfl rfl ?_
  refine w_iconst (Ev.cm _) rfl ?_
  refine w_istore_n (ls2 := [(0, .ref 331), (1, .int p0), (2, .int r1), (3, .int 0)]) (Ev.cm _) rfl rfl ?_
  show Wp _ _ _ _ _ _ _ 7 [(0, .ref 331), (1, .int p0), (2, .int r1), (3, .int 0)] [] (HS I1 L1 X)
  refine Wp.sub [0, 1, 2, 3] (ls2 := [(0, .ref 331), (1, .int p0), (2, .int r1), (3, .int 0)]) rfl ?_
  exact lo_M_readsOf_7 g fu _ _ _ _ _ q
def FO_M_reads (fu : Nat) (p0 : Int32) (I : Nat → Nat → Int32) (L : Nat → Nat → Int64) : Option (Int32 × (Nat → Nat → Int32) × (Nat → Nat → Int64)) := if (1 : Int32) ≤ p0 ∧ p0 ≤ (99999999 : Int32) then ((FO_M_twosOf fu p0 I L).bind (fun u1 => let r1 := u1.1; let I1 := u1.2.1; let L1 := u1.2.2; if r1 = (-1) then (some (0, I1, L1)) else ((FO_M_twosOf fu p0 I1 L1).bind (fun u2 => let r2 := u2.1; let I2 := u2.2.1; let L2 := u2.2.2; (FO_M_readsOf fu r2 I2 L2).bind (fun u3 => let r3 := u3.1; let I3 := u3.2.1; let L3 := u3.2.2; some (r3, I3, L3)))))) else (some ((-1), I, L))
set_option maxHeartbeats 20000000 in
set_option maxRecDepth 20000 in
theorem eo_M_reads {d fu : Nat} {p0 : Int32} {I : Nat → Nat → Int32} {L : Nat → Nat → Int64} {X : Nat × (Nat → Int32)} {Q : PQ} {res : Int32 × (Nat → Nat → Int32) × (Nat → Nat → Int64)}  (g : Q (some (.int res.1)) (HS res.2.1 res.2.2 X)) (q : FO_M_reads fu p0 I L = some res) : Ev (d + 4) m_M_reads [.ref 331, .int p0] (HS I L X) Q := by
  unfold FO_M_reads at q
  refine ev_start (d := d + 3) rfl rfl rfl (Nat.le_of_ble_eq_true rfl) ?_
  show Wp (Ev (d + 3)) cd_M_reads (0, 0) (some .int) _ _ Q 0 [(0, .ref 331), (1, .int p0)] [] (HS I L X)
  refine w_iload_n (Ev.cm _) rfl rfl ?_
  refine w_iconst (Ev.cm _) rfl ?_
  refine w_ldc_w (Ev.cm _) rfl ?_
  refine w_cstat (as := [.int p0, .int 1, .int 99999999]) (st := []) (Ev.cm _) rfl rfl rfl (Nat.le_of_ble_eq_true rfl) (Nat.le_of_ble_eq_true rfl) (m_isIn ?_)
  show Wp _ _ _ _ _ _ _ 8 [(0, .ref 331), (1, .int p0)] [.int (bI ((1 : Int32) ≤ p0 ∧ p0 ≤ (99999999 : Int32)))] (HS I L X)
  refine w_if_ne (Ev.cm _) rfl (fun c1 => ?_) (fun c1 => ?_)
  · have c1 : (1 : Int32) ≤ p0 ∧ p0 ≤ (99999999 : Int32) := bI_1.mp c1
    rw [if_pos c1] at q
    refine w_iload_n (Ev.cm _) rfl rfl ?_
    obtain ⟨⟨r1, I1, L1⟩, e1, q⟩ := obs q
    dsimp only at q
    refine w_cstat (as := [.int p0]) (st := []) (Ev.cm _) rfl rfl rfl (Nat.le_of_ble_eq_true rfl) (Nat.le_of_ble_eq_true rfl) (eo_M_twosOf (g := ?_) e1)
    show Wp _ _ _ _ _ _ _ 19 [(0, .ref 331), (1, .int p0)] [.int r1] (HS I1 L1 X)
    refine w_iconst (Ev.cm _) rfl ?_
    refine w_icmp_ne (Ev.cm _) rfl (fun c2 => ?_) (fun c2 => ?_)
    · have c2 : ¬ (r1 = (-1)) := c2
      rw [if_neg c2] at q
      refine w_aload_n (Ev.cm _) rfl rfl ?_
      refine w_iload_n (Ev.cm _) rfl rfl ?_
      obtain ⟨⟨r2, I2, L2⟩, e2, q⟩ := obs q
      dsimp only at q
      refine w_cstat (as := [.int p0]) (st := [.ref 331]) (Ev.cm _) rfl rfl rfl (Nat.le_of_ble_eq_true rfl) (Nat.le_of_ble_eq_true rfl) (eo_M_twosOf (g := ?_) e2)
      show Wp _ _ _ _ _ _ _ 32 [(0, .ref 331), (1, .int p0)] [.int r2, .ref 331] (HS I2 L2 X)
      obtain ⟨⟨r3, I3, L3⟩, e3, q⟩ := obs q
      dsimp only at q
      refine w_cvirt (o := 331) (as := [.int r2]) (st := []) (Ev.cm _) rfl rfl rfl (Nat.le_of_ble_eq_true rfl) (Nat.le_of_ble_eq_true rfl) rfl (Nat.le_of_ble_eq_true rfl) (eo_M_readsOf (g := ?_) e3)
      show Wp _ _ _ _ _ _ _ 35 [(0, .ref 331), (1, .int p0)] [.int r3] (HS I3 L3 X)
      refine w_ireturn (Ev.cm _) rfl trivial rf0 ?_
      cases q
      exact g
    · have c2 : r1 = (-1) := c2
      rw [if_pos c2] at q
      refine w_iconst (Ev.cm _) rfl ?_
      refine w_goto (Ev.cm _) rfl ?_
      refine w_ireturn (Ev.cm _) rfl trivial rf0 ?_
      cases q
      exact g
  · have c1 : ¬ ((1 : Int32) ≤ p0 ∧ p0 ≤ (99999999 : Int32)) := bI_0.mp c1
    rw [if_neg c1] at q
    refine w_iconst (Ev.cm _) rfl ?_
    refine w_goto (Ev.cm _) rfl ?_
    refine w_ireturn (Ev.cm _) rfl trivial rf0 ?_
    cases q
    exact g
def LO_M_unread_29 (fu : Nat) (k_2 : Int32 → (Nat → Nat → Int32) → (Nat → Nat → Int64) → Option (Int32 × (Nat → Nat → Int32) × (Nat → Nat → Int64))) : Nat → Int32 → Int32 → Int32 → (Nat → Nat → Int32) → (Nat → Nat → Int64) → Option (Int32 × (Nat → Nat → Int32) × (Nat → Nat → Int64))
  | 0, _, _, _, _, _ => none
  | n + 1, x1, x2, x3, I, L => if x3 < 0 then (some (x2, I, L)) else (LO_M_unread_29 fu k_2 n x1 ((((10 : Int32) * x2) + 1) + ((x1 >>> (x3 &&& 31)) &&& 1)) (x3 + (-1)) I L)
set_option maxHeartbeats 20000000 in
set_option maxRecDepth 20000 in
theorem lo_M_unread_29 {d fu n0 s0 : Nat} {X : Nat × (Nat → Int32)} {Q : PQ} {k_2 : Int32 → (Nat → Nat → Int32) → (Nat → Nat → Int64) → Option (Int32 × (Nat → Nat → Int32) × (Nat → Nat → Int64))} {res : Int32 × (Nat → Nat → Int32) × (Nat → Nat → Int64)}  (g : Q (some (.int res.1)) (HS res.2.1 res.2.2 X)) (hk_2 : ∀ (x1 : Int32) (I : Nat → Nat → Int32) (L : Nat → Nat → Int64), k_2 x1 I L = some res → Wp (Ev (d + 3)) cd_M_unread (0, 0) (some .int) n0 s0 Q 2 [(0, .ref 331), (1, .int x1)] [] (HS I L X)) : ∀ (n : Nat) (x1 : Int32) (x2 : Int32) (x3 : Int32) (I : Nat → Nat → Int32) (L : Nat → Nat → Int64), LO_M_unread_29 fu k_2 n x1 x2 x3 I L = some res → Wp (Ev (d + 3)) cd_M_unread (0, 0) (some .int) n0 s0 Q 29 [(0, .ref 331), (1, .int x1), (2, .int x2), (3, .int x3)] [] (HS I L X) := by
  intro n
  induction n with
  | zero => intro _ _ _ _ _ q; cases q
  | succ n ih =>
    intro x1 x2 x3 I L q
    unfold LO_M_unread_29 at q
    refine w_iload_n (Ev.cm _) rfl rfl ?_
    refine w_if_lt (Ev.cm _) rfl (fun c1 => ?_) (fun c1 => ?_)
    · have c1 : x3 < 0 := c1
      rw [if_pos c1] at q
      refine w_iload_n (Ev.cm _) rfl rfl ?_
      refine w_ireturn (Ev.cm _) rfl trivial rf0 ?_
      cases q
      exact g
    · have c1 : ¬ (x3 < 0) := c1
      rw [if_neg c1] at q
      refine w_bipush (Ev.cm _) rfl ?_
      refine w_iload_n (Ev.cm _) rfl rfl ?_
      refine w_imul (Ev.cm _) rfl ?_
      refine w_iconst (Ev.cm _) rfl ?_
      refine w_iadd (Ev.cm _) rfl ?_
      refine w_iload_n (Ev.cm _) rfl rfl ?_
      refine w_iload_n (Ev.cm _) rfl rfl ?_
      refine w_ishr (Ev.cm _) rfl ?_
      refine w_iconst (Ev.cm _) rfl ?_
      refine w_iand (Ev.cm _) rfl ?_
      refine w_iadd (Ev.cm _) rfl ?_
      refine w_istore_n (ls2 := [(0, .ref 331), (1, .int x1), (2, .int ((((10 : Int32) * x2) + 1) + ((x1 >>> (x3 &&& 31)) &&& 1))), (3, .int x3)]) (Ev.cm _) rfl rfl ?_
      refine w_iinc (ls2 := [(0, .ref 331), (1, .int x1), (2, .int ((((10 : Int32) * x2) + 1) + ((x1 >>> (x3 &&& 31)) &&& 1))), (3, .int (x3 + (-1)))]) (Ev.cm _) rfl rfl rfl ?_
      refine w_goto (Ev.cm _) rfl ?_
      show Wp _ _ _ _ _ _ _ 29 [(0, .ref 331), (1, .int x1), (2, .int ((((10 : Int32) * x2) + 1) + ((x1 >>> (x3 &&& 31)) &&& 1))), (3, .int (x3 + (-1)))] [] (HS I L X)
      refine Wp.sub [0, 1, 2, 3] (ls2 := [(0, .ref 331), (1, .int x1), (2, .int ((((10 : Int32) * x2) + 1) + ((x1 >>> (x3 &&& 31)) &&& 1))), (3, .int (x3 + (-1)))]) rfl ?_
      exact ih _ _ _ _ _ q
def LO_M_unread_2 (fu : Nat) : Nat → Int32 → (Nat → Nat → Int32) → (Nat → Nat → Int64) → Option (Int32 × (Nat → Nat → Int32) × (Nat → Nat → Int64))
  | 0, _, _, _ => none
  | n + 1, x1, I, L => if 512 ≤ x1 then (some ((-1), I, L)) else ((FO_M_readsOf fu x1 I L).bind (fun u1 => let r1 := u1.1; let I1 := u1.2.1; let L1 := u1.2.2; if r1 ≤ 0 then ((FO_M_lengthOf fu x1 I1 L1).bind (fun u2 => let r2 := u2.1; let I2 := u2.2.1; let L2 := u2.2.2; LO_M_unread_29 fu (fun x1 I L => LO_M_unread_2 fu n x1 I L) fu x1 0 (r2 - 1) I2 L2)) else (LO_M_unread_2 fu n (x1 + 1) I1 L1)))
set_option maxHeartbeats 20000000 in
set_option maxRecDepth 20000 in
theorem lo_M_unread_2 {d fu n0 s0 : Nat} {X : Nat × (Nat → Int32)} {Q : PQ} {res : Int32 × (Nat → Nat → Int32) × (Nat → Nat → Int64)}  (g : Q (some (.int res.1)) (HS res.2.1 res.2.2 X)) : ∀ (n : Nat) (x1 : Int32) (I : Nat → Nat → Int32) (L : Nat → Nat → Int64), LO_M_unread_2 fu n x1 I L = some res → Wp (Ev (d + 3)) cd_M_unread (0, 0) (some .int) n0 s0 Q 2 [(0, .ref 331), (1, .int x1)] [] (HS I L X) := by
  intro n
  induction n with
  | zero => intro _ _ _ q; cases q
  | succ n ih =>
    intro x1 I L q
    unfold LO_M_unread_2 at q
    refine w_iload_n (Ev.cm _) rfl rfl ?_
    refine w_sipush (Ev.cm _) rfl ?_
    refine w_icmp_ge (Ev.cm _) rfl (fun c1 => ?_) (fun c1 => ?_)
    · have c1 : 512 ≤ x1 := c1
      rw [if_pos c1] at q
      refine w_iconst (Ev.cm _) rfl ?_
      refine w_ireturn (Ev.cm _) rfl trivial rf0 ?_
      cases q
      exact g
    · have c1 : ¬ (512 ≤ x1) := c1
      rw [if_neg c1] at q
      refine w_aload_n (Ev.cm _) rfl rfl ?_
      refine w_iload_n (Ev.cm _) rfl rfl ?_
      obtain ⟨⟨r1, I1, L1⟩, e1, q⟩ := obs q
      dsimp only at q
      refine w_cvirt (o := 331) (as := [.int x1]) (st := []) (Ev.cm _) rfl rfl rfl (Nat.le_of_ble_eq_true rfl) (Nat.le_of_ble_eq_true rfl) rfl (Nat.le_of_ble_eq_true rfl) (eo_M_readsOf (g := ?_) e1)
      show Wp _ _ _ _ _ _ _ 14 [(0, .ref 331), (1, .int x1)] [.int r1] (HS I1 L1 X)
      refine w_if_le (Ev.cm _) rfl (fun c2 => ?_) (fun c2 => ?_)
      · have c2 : r1 ≤ 0 := c2
        rw [if_pos c2] at q
        refine w_iconst (Ev.cm _) rfl ?_
        refine w_istore_n (ls2 := [(0, .ref 331), (1, .int x1), (2, .int 0)]) (Ev.cm _) rfl rfl ?_
        refine w_iload_n (Ev.cm _) rfl rfl ?_
        obtain ⟨⟨r2, I2, L2⟩, e2, q⟩ := obs q
        dsimp only at q
        refine w_cstat (as := [.int x1]) (st := []) (Ev.cm _) rfl rfl rfl (Nat.le_of_ble_eq_true rfl) (Nat.le_of_ble_eq_true rfl) (eo_M_lengthOf (g := ?_) e2)
        show Wp _ _ _ _ _ _ _ 26 [(0, .ref 331), (1, .int x1), (2, .int 0)] [.int r2] (HS I2 L2 X)
        refine w_iconst (Ev.cm _) rfl ?_
        refine w_isub (Ev.cm _) rfl ?_
        refine w_istore_n (ls2 := [(0, .ref 331), (1, .int x1), (2, .int 0), (3, .int (r2 - 1))]) (Ev.cm _) rfl rfl ?_
        show Wp _ _ _ _ _ _ _ 29 [(0, .ref 331), (1, .int x1), (2, .int 0), (3, .int (r2 - 1))] [] (HS I2 L2 X)
        refine Wp.sub [0, 1, 2, 3] (ls2 := [(0, .ref 331), (1, .int x1), (2, .int 0), (3, .int (r2 - 1))]) rfl ?_
        exact lo_M_unread_29 g (fun x1 I L q => ih x1 I L q) fu _ _ _ _ _ q
      · have c2 : ¬ (r1 ≤ 0) := c2
        rw [if_neg c2] at q
        refine w_goto (Ev.cm _) rfl ?_
        refine w_iinc (ls2 := [(0, .ref 331), (1, .int (x1 + 1))]) (Ev.cm _) rfl rfl rfl ?_
        refine w_goto (Ev.cm _) rfl ?_
        show Wp _ _ _ _ _ _ _ 2 [(0, .ref 331), (1, .int (x1 + 1))] [] (HS I1 L1 X)
        refine Wp.sub [0, 1] (ls2 := [(0, .ref 331), (1, .int (x1 + 1))]) rfl ?_
        exact ih _ _ _ q
def FO_M_unread (fu : Nat) (I : Nat → Nat → Int32) (L : Nat → Nat → Int64) : Option (Int32 × (Nat → Nat → Int32) × (Nat → Nat → Int64)) := LO_M_unread_2 fu fu 2 I L
set_option maxHeartbeats 20000000 in
set_option maxRecDepth 20000 in
theorem eo_M_unread {d fu : Nat} {I : Nat → Nat → Int32} {L : Nat → Nat → Int64} {X : Nat × (Nat → Int32)} {Q : PQ} {res : Int32 × (Nat → Nat → Int32) × (Nat → Nat → Int64)}  (g : Q (some (.int res.1)) (HS res.2.1 res.2.2 X)) (q : FO_M_unread fu  I L = some res) : Ev (d + 4) m_M_unread [.ref 331] (HS I L X) Q := by
  unfold FO_M_unread at q
  refine ev_start (d := d + 3) rfl rfl rfl (Nat.le_of_ble_eq_true rfl) ?_
  show Wp (Ev (d + 3)) cd_M_unread (0, 0) (some .int) _ _ Q 0 [(0, .ref 331)] [] (HS I L X)
  refine w_iconst (Ev.cm _) rfl ?_
  refine w_istore_n (ls2 := [(0, .ref 331), (1, .int 2)]) (Ev.cm _) rfl rfl ?_
  show Wp _ _ _ _ _ _ _ 2 [(0, .ref 331), (1, .int 2)] [] (HS I L X)
  refine Wp.sub [0, 1] (ls2 := [(0, .ref 331), (1, .int 2)]) rfl ?_
  exact lo_M_unread_2 g fu _ _ _ q
def LO_M_room_4 (fu : Nat) : Nat → Int32 → Int32 → Int32 → (Nat → Nat → Int32) → (Nat → Nat → Int64) → Option (Int32 × (Nat → Nat → Int32) × (Nat → Nat → Int64))
  | 0, _, _, _, _, _ => none
  | n + 1, x1, x2, x3, I, L => if I 332 5 ≤ x3 then (if x1 = 0 then ((FO_M_divisor fu ((x2 : Int32).toInt64) 32 I L).bind (fun u1 => let r1 := u1.1; let I1 := u1.2.1; let L1 := u1.2.2; if ¬ (r1 : Int64).toInt32 = 0 then (some (x2 / ((r1 : Int64).toInt32), I1, L1)) else none)) else ((FO_M_divisor fu ((x2 : Int32).toInt64) 32 I L).bind (fun u3 => let r3 := u3.1; let I3 := u3.2.1; let L3 := u3.2.2; if ¬ (r3 : Int64).toInt32 = 0 then (some ((32 : Int32) / ((r3 : Int64).toInt32), I3, L3)) else none))) else ((FO_M_wordAt fu x3 I L).bind (fun u5 => let r5 := u5.1; let I5 := u5.2.1; let L5 := u5.2.2; (FO_M_lengthOf fu r5 I5 L5).bind (fun u6 => let r6 := u6.1; let I6 := u6.2.1; let L6 := u6.2.2; LO_M_room_4 fu n x1 (x2 + ((32 : Int32) >>> (r6 &&& 31))) (x3 + 1) I6 L6)))
set_option maxHeartbeats 20000000 in
set_option maxRecDepth 20000 in
theorem lo_M_room_4 {d fu n0 s0 : Nat} {X : Nat × (Nat → Int32)} {Q : PQ} {res : Int32 × (Nat → Nat → Int32) × (Nat → Nat → Int64)}  (g : Q (some (.int res.1)) (HS res.2.1 res.2.2 X)) : ∀ (n : Nat) (x1 : Int32) (x2 : Int32) (x3 : Int32) (I : Nat → Nat → Int32) (L : Nat → Nat → Int64), LO_M_room_4 fu n x1 x2 x3 I L = some res → Wp (Ev (d + 2)) cd_M_room (0, 0) (some .int) n0 s0 Q 4 [(0, .ref 331), (1, .int x1), (2, .int x2), (3, .int x3)] [] (HS I L X) := by
  intro n
  induction n with
  | zero => intro _ _ _ _ _ q; cases q
  | succ n ih =>
    intro x1 x2 x3 I L q
    unfold LO_M_room_4 at q
    refine w_iload_n (Ev.cm _) rfl rfl ?_
    refine w_aload_n (Ev.cm _) rfl rfl ?_
    refine w_getR (q := 332) (Ev.cm _) rfl (Nat.le_of_ble_eq_true rfl) rfl rfl ?_
    refine w_iconst (Ev.cm _) rfl ?_
    refine w_iald (Ev.cm _) rfl (Nat.le_of_ble_eq_true rfl) rfl (show vp_in 5 1541 from vpI 1541 (by decide) (by decide) (by decide)) ?_
    refine w_icmp_ge (Ev.cm _) rfl (fun c1 => ?_) (fun c1 => ?_)
    · have c1 : I 332 5 ≤ x3 := c1
      rw [if_pos c1] at q
      refine w_iload_n (Ev.cm _) rfl rfl ?_
      refine w_if_eq (Ev.cm _) rfl (fun c2 => ?_) (fun c2 => ?_)
      · have c2 : x1 = 0 := c2
        rw [if_pos c2] at q
        refine w_iload_n (Ev.cm _) rfl rfl ?_
        refine w_iload_n (Ev.cm _) rfl rfl ?_
        refine w_i2l (Ev.cm _) rfl ?_
        refine w_ldc2_w (Ev.cm _) rfl ?_
        obtain ⟨⟨r1, I1, L1⟩, e1, q⟩ := obs q
        dsimp only at q
        refine w_cstat (as := [.long ((x2 : Int32).toInt64), .long 32]) (st := [.int x2]) (Ev.cm _) rfl rfl rfl (Nat.le_of_ble_eq_true rfl) (Nat.le_of_ble_eq_true rfl) (eo_M_divisor (g := ?_) e1)
        show Wp _ _ _ _ _ _ _ 52 [(0, .ref 331), (1, .int x1), (2, .int x2), (3, .int x3)] [.long r1, .int x2] (HS I1 L1 X)
        refine w_l2i (Ev.cm _) rfl ?_
        obtain ⟨b2, q⟩ := ois q
        refine w_idiv (Ev.cm _) rfl b2 ?_
        refine w_ireturn (Ev.cm _) rfl trivial rf0 ?_
        cases q
        exact g
      · have c2 : ¬ (x1 = 0) := c2
        rw [if_neg c2] at q
        refine w_bipush (Ev.cm _) rfl ?_
        refine w_goto (Ev.cm _) rfl ?_
        refine w_iload_n (Ev.cm _) rfl rfl ?_
        refine w_i2l (Ev.cm _) rfl ?_
        refine w_ldc2_w (Ev.cm _) rfl ?_
        obtain ⟨⟨r3, I3, L3⟩, e3, q⟩ := obs q
        dsimp only at q
        refine w_cstat (as := [.long ((x2 : Int32).toInt64), .long 32]) (st := [.int 32]) (Ev.cm _) rfl rfl rfl (Nat.le_of_ble_eq_true rfl) (Nat.le_of_ble_eq_true rfl) (eo_M_divisor (g := ?_) e3)
        show Wp _ _ _ _ _ _ _ 52 [(0, .ref 331), (1, .int x1), (2, .int x2), (3, .int x3)] [.long r3, .int 32] (HS I3 L3 X)
        refine w_l2i (Ev.cm _) rfl ?_
        obtain ⟨b4, q⟩ := ois q
        refine w_idiv (Ev.cm _) rfl b4 ?_
        refine w_ireturn (Ev.cm _) rfl trivial rf0 ?_
        cases q
        exact g
    · have c1 : ¬ (I 332 5 ≤ x3) := c1
      rw [if_neg c1] at q
      refine w_iload_n (Ev.cm _) rfl rfl ?_
      refine w_bipush (Ev.cm _) rfl ?_
      refine w_aload_n (Ev.cm _) rfl rfl ?_
      refine w_iload_n (Ev.cm _) rfl rfl ?_
      obtain ⟨⟨r5, I5, L5⟩, e5, q⟩ := obs q
      dsimp only at q
      refine w_cvirt (o := 331) (as := [.int x3]) (st := [.int 32, .int x2]) (Ev.cm _) rfl rfl rfl (Nat.le_of_ble_eq_true rfl) (Nat.le_of_ble_eq_true rfl) rfl (Nat.le_of_ble_eq_true rfl) (eo_M_wordAt (g := ?_) e5)
      show Wp _ _ _ _ _ _ _ 22 [(0, .ref 331), (1, .int x1), (2, .int x2), (3, .int x3)] [.int r5, .int 32, .int x2] (HS I5 L5 X)
      obtain ⟨⟨r6, I6, L6⟩, e6, q⟩ := obs q
      dsimp only at q
      refine w_cstat (as := [.int r5]) (st := [.int 32, .int x2]) (Ev.cm _) rfl rfl rfl (Nat.le_of_ble_eq_true rfl) (Nat.le_of_ble_eq_true rfl) (eo_M_lengthOf (g := ?_) e6)
      show Wp _ _ _ _ _ _ _ 25 [(0, .ref 331), (1, .int x1), (2, .int x2), (3, .int x3)] [.int r6, .int 32, .int x2] (HS I6 L6 X)
      refine w_ishr (Ev.cm _) rfl ?_
      refine w_iadd (Ev.cm _) rfl ?_
      refine w_istore_n (ls2 := [(0, .ref 331), (1, .int x1), (2, .int (x2 + ((32 : Int32) >>> (r6 &&& 31)))), (3, .int x3)]) (Ev.cm _) rfl rfl ?_
      refine w_iinc (ls2 := [(0, .ref 331), (1, .int x1), (2, .int (x2 + ((32 : Int32) >>> (r6 &&& 31)))), (3, .int (x3 + 1))]) (Ev.cm _) rfl rfl rfl ?_
      refine w_goto (Ev.cm _) rfl ?_
      show Wp _ _ _ _ _ _ _ 4 [(0, .ref 331), (1, .int x1), (2, .int (x2 + ((32 : Int32) >>> (r6 &&& 31)))), (3, .int (x3 + 1))] [] (HS I6 L6 X)
      refine Wp.sub [0, 1, 2, 3] (ls2 := [(0, .ref 331), (1, .int x1), (2, .int (x2 + ((32 : Int32) >>> (r6 &&& 31)))), (3, .int (x3 + 1))]) rfl ?_
      exact ih _ _ _ _ _ q
def FO_M_room (fu : Nat) (p0 : Int32) (I : Nat → Nat → Int32) (L : Nat → Nat → Int64) : Option (Int32 × (Nat → Nat → Int32) × (Nat → Nat → Int64)) := LO_M_room_4 fu fu p0 0 0 I L
set_option maxHeartbeats 20000000 in
set_option maxRecDepth 20000 in
theorem eo_M_room {d fu : Nat} {p0 : Int32} {I : Nat → Nat → Int32} {L : Nat → Nat → Int64} {X : Nat × (Nat → Int32)} {Q : PQ} {res : Int32 × (Nat → Nat → Int32) × (Nat → Nat → Int64)}  (g : Q (some (.int res.1)) (HS res.2.1 res.2.2 X)) (q : FO_M_room fu p0 I L = some res) : Ev (d + 3) m_M_room [.ref 331, .int p0] (HS I L X) Q := by
  unfold FO_M_room at q
  refine ev_start (d := d + 2) rfl rfl rfl (Nat.le_of_ble_eq_true rfl) ?_
  show Wp (Ev (d + 2)) cd_M_room (0, 0) (some .int) _ _ Q 0 [(0, .ref 331), (1, .int p0)] [] (HS I L X)
  refine w_iconst (Ev.cm _) rfl ?_
  refine w_istore_n (ls2 := [(0, .ref 331), (1, .int p0), (2, .int 0)]) (Ev.cm _) rfl rfl ?_
  refine w_iconst (Ev.cm _) rfl ?_
  refine w_istore_n (ls2 := [(0, .ref 331), (1, .int p0), (2, .int 0), (3, .int 0)]) (Ev.cm _) rfl rfl ?_
  show Wp _ _ _ _ _ _ _ 4 [(0, .ref 331), (1, .int p0), (2, .int 0), (3, .int 0)] [] (HS I L X)
  refine Wp.sub [0, 1, 2, 3] (ls2 := [(0, .ref 331), (1, .int p0), (2, .int 0), (3, .int 0)]) rfl ?_
  exact lo_M_room_4 g fu _ _ _ _ _ q
def FO_M_print (fu : Nat) (p0 : Int32) (p1 : Int32) (I : Nat → Nat → Int32) (L : Nat → Nat → Int64) : Option (Int32 × (Nat → Nat → Int32) × (Nat → Nat → Int64)) := if F_M_isLodger I p0 = 0 then (some (0, I, L)) else (if p1 &&& (-8191) = 0 then (if 0 ≤ (36 : Int32) + p0 ∧ (36 : Int32) + p0 < 1541 then (some (1, sI I 332 (((36 : Int32) + p0).toNatClampNeg) p1, L)) else none) else (some (0, I, L)))
set_option maxHeartbeats 20000000 in
set_option maxRecDepth 20000 in
theorem eo_M_print {d fu : Nat} {p0 : Int32} {p1 : Int32} {I : Nat → Nat → Int32} {L : Nat → Nat → Int64} {X : Nat × (Nat → Int32)} {Q : PQ} {res : Int32 × (Nat → Nat → Int32) × (Nat → Nat → Int64)}  (g : Q (some (.int res.1)) (HS res.2.1 res.2.2 X)) (q : FO_M_print fu p0 p1 I L = some res) : Ev (d + 3) m_M_print [.ref 331, .int p0, .int p1] (HS I L X) Q := by
  unfold FO_M_print at q
  refine ev_start (d := d + 2) rfl rfl rfl (Nat.le_of_ble_eq_true rfl) ?_
  show Wp (Ev (d + 2)) cd_M_print (0, 0) (some .boolean) _ _ Q 0 [(0, .ref 331), (1, .int p0), (2, .int p1)] [] (HS I L X)
  refine w_aload_n (Ev.cm _) rfl rfl ?_
  refine w_iload_n (Ev.cm _) rfl rfl ?_
  refine w_cvirt (o := 331) (as := [.int p0]) (st := []) (Ev.cm _) rfl rfl rfl (Nat.le_of_ble_eq_true rfl) (Nat.le_of_ble_eq_true rfl) rfl (Nat.le_of_ble_eq_true rfl) (e_M_isLodger ?_)
  show Wp _ _ _ _ _ _ _ 5 [(0, .ref 331), (1, .int p0), (2, .int p1)] [.int (F_M_isLodger I p0)] (HS I L X)
  refine w_if_eq (Ev.cm _) rfl (fun c1 => ?_) (fun c1 => ?_)
  · have c1 : F_M_isLodger I p0 = 0 := c1
    rw [if_pos c1] at q
    refine w_iconst (Ev.cm _) rfl ?_
    refine w_ireturn (Ev.cm _) rfl (by first | exact rok_0 | exact rok_1 | exact rok_b) rf0 ?_
    cases q
    exact g
  · have c1 : ¬ (F_M_isLodger I p0 = 0) := c1
    rw [if_neg c1] at q
    refine w_iload_n (Ev.cm _) rfl rfl ?_
    refine w_cstat (as := [.int p1]) (st := []) (Ev.cm _) rfl rfl rfl (Nat.le_of_ble_eq_true rfl) (Nat.le_of_ble_eq_true rfl) (m_areStairs ?_)
    show Wp _ _ _ _ _ _ _ 12 [(0, .ref 331), (1, .int p0), (2, .int p1)] [.int (bI (p1 &&& (-8191) = 0))] (HS I L X)
    refine w_if_ne (Ev.cm _) rfl (fun c2 => ?_) (fun c2 => ?_)
    · have c2 : p1 &&& (-8191) = 0 := bI_1.mp c2
      rw [if_pos c2] at q
      refine w_aload_n (Ev.cm _) rfl rfl ?_
      refine w_getR (q := 332) (Ev.cm _) rfl (Nat.le_of_ble_eq_true rfl) rfl rfl ?_
      refine w_bipush (Ev.cm _) rfl ?_
      refine w_iload_n (Ev.cm _) rfl rfl ?_
      refine w_iadd (Ev.cm _) rfl ?_
      refine w_iload_n (Ev.cm _) rfl rfl ?_
      obtain ⟨b1, q⟩ := ois q
      refine w_iast (Ev.cm _) rfl (Nat.le_of_ble_eq_true rfl) rfl (show vp_in ((36 : Int32) + p0) 1541 from vpI 1541 (by decide) b1.1 b1.2) ?_
      refine w_iconst (Ev.cm _) rfl ?_
      refine w_ireturn (Ev.cm _) rfl (by first | exact rok_0 | exact rok_1 | exact rok_b) rf0 ?_
      cases q
      exact g
    · have c2 : ¬ (p1 &&& (-8191) = 0) := bI_0.mp c2
      rw [if_neg c2] at q
      refine w_iconst (Ev.cm _) rfl ?_
      refine w_ireturn (Ev.cm _) rfl (by first | exact rok_0 | exact rok_1 | exact rok_b) rf0 ?_
      cases q
      exact g
def LO_M_areUnlike_16 (fu : Nat) (k_2 : Int32 → Int32 → (Nat → Nat → Int32) → (Nat → Nat → Int64) → Option (Int32 × (Nat → Nat → Int32) × (Nat → Nat → Int64))) : Nat → Int32 → Int32 → Int32 → (Nat → Nat → Int32) → (Nat → Nat → Int64) → Option (Int32 × (Nat → Nat → Int32) × (Nat → Nat → Int64))
  | 0, _, _, _, _, _ => none
  | n + 1, x1, x2, x3, I, L => if I 332 0 ≤ x3 then (k_2 x1 (x2 + 1) I L) else (if 0 ≤ (36 : Int32) + x2 ∧ (36 : Int32) + x2 < 1541 then (if 0 ≤ (36 : Int32) + x3 ∧ (36 : Int32) + x3 < 1541 then (if ((I 332 (((36 : Int32) + x2).toNatClampNeg)) ^^^ (I 332 (((36 : Int32) + x3).toNatClampNeg))) &&& x1 = 0 then (some (0, I, L)) else (LO_M_areUnlike_16 fu k_2 n x1 x2 (x3 + 1) I L)) else none) else none)
set_option maxHeartbeats 20000000 in
set_option maxRecDepth 20000 in
theorem lo_M_areUnlike_16 {d fu n0 s0 : Nat} {X : Nat × (Nat → Int32)} {Q : PQ} {k_2 : Int32 → Int32 → (Nat → Nat → Int32) → (Nat → Nat → Int64) → Option (Int32 × (Nat → Nat → Int32) × (Nat → Nat → Int64))} {res : Int32 × (Nat → Nat → Int32) × (Nat → Nat → Int64)}  (g : Q (some (.int res.1)) (HS res.2.1 res.2.2 X)) (hk_2 : ∀ (x1 : Int32) (x2 : Int32) (I : Nat → Nat → Int32) (L : Nat → Nat → Int64), k_2 x1 x2 I L = some res → Wp (Ev (d + 0)) cd_M_areUnlike (0, 0) (some .boolean) n0 s0 Q 2 [(0, .ref 331), (1, .int x1), (2, .int x2)] [] (HS I L X)) : ∀ (n : Nat) (x1 : Int32) (x2 : Int32) (x3 : Int32) (I : Nat → Nat → Int32) (L : Nat → Nat → Int64), LO_M_areUnlike_16 fu k_2 n x1 x2 x3 I L = some res → Wp (Ev (d + 0)) cd_M_areUnlike (0, 0) (some .boolean) n0 s0 Q 16 [(0, .ref 331), (1, .int x1), (2, .int x2), (3, .int x3)] [] (HS I L X) := by
  intro n
  induction n with
  | zero => intro _ _ _ _ _ q; cases q
  | succ n ih =>
    intro x1 x2 x3 I L q
    unfold LO_M_areUnlike_16 at q
    refine w_iload_n (Ev.cm _) rfl rfl ?_
    refine w_aload_n (Ev.cm _) rfl rfl ?_
    refine w_getR (q := 332) (Ev.cm _) rfl (Nat.le_of_ble_eq_true rfl) rfl rfl ?_
    refine w_iconst (Ev.cm _) rfl ?_
    refine w_iald (Ev.cm _) rfl (Nat.le_of_ble_eq_true rfl) rfl (show vp_in 0 1541 from vpI 1541 (by decide) (by decide) (by decide)) ?_
    refine w_icmp_ge (Ev.cm _) rfl (fun c1 => ?_) (fun c1 => ?_)
    · have c1 : I 332 0 ≤ x3 := c1
      rw [if_pos c1] at q
      refine w_iinc (ls2 := [(0, .ref 331), (1, .int x1), (2, .int (x2 + 1)), (3, .int x3)]) (Ev.cm _) rfl rfl rfl ?_
      refine w_goto (Ev.cm _) rfl ?_
      show Wp _ _ _ _ _ _ _ 2 [(0, .ref 331), (1, .int x1), (2, .int (x2 + 1)), (3, .int x3)] [] (HS I L X)
      refine Wp.sub [0, 1, 2] (ls2 := [(0, .ref 331), (1, .int x1), (2, .int (x2 + 1))]) rfl ?_
      exact hk_2 _ _ _ _ q
    · have c1 : ¬ (I 332 0 ≤ x3) := c1
      rw [if_neg c1] at q
      refine w_aload_n (Ev.cm _) rfl rfl ?_
      refine w_getR (q := 332) (Ev.cm _) rfl (Nat.le_of_ble_eq_true rfl) rfl rfl ?_
      refine w_bipush (Ev.cm _) rfl ?_
      refine w_iload_n (Ev.cm _) rfl rfl ?_
      refine w_iadd (Ev.cm _) rfl ?_
      obtain ⟨b1, q⟩ := ois q
      refine w_iald (Ev.cm _) rfl (Nat.le_of_ble_eq_true rfl) rfl (show vp_in ((36 : Int32) + x2) 1541 from vpI 1541 (by decide) b1.1 b1.2) ?_
      refine w_aload_n (Ev.cm _) rfl rfl ?_
      refine w_getR (q := 332) (Ev.cm _) rfl (Nat.le_of_ble_eq_true rfl) rfl rfl ?_
      refine w_bipush (Ev.cm _) rfl ?_
      refine w_iload_n (Ev.cm _) rfl rfl ?_
      refine w_iadd (Ev.cm _) rfl ?_
      obtain ⟨b2, q⟩ := ois q
      refine w_iald (Ev.cm _) rfl (Nat.le_of_ble_eq_true rfl) rfl (show vp_in ((36 : Int32) + x3) 1541 from vpI 1541 (by decide) b2.1 b2.2) ?_
      refine w_ixor (Ev.cm _) rfl ?_
      refine w_iload_n (Ev.cm _) rfl rfl ?_
      refine w_iand (Ev.cm _) rfl ?_
      refine w_if_ne (Ev.cm _) rfl (fun c2 => ?_) (fun c2 => ?_)
      · have c2 : ¬ (((I 332 (((36 : Int32) + x2).toNatClampNeg)) ^^^ (I 332 (((36 : Int32) + x3).toNatClampNeg))) &&& x1 = 0) := c2
        rw [if_neg c2] at q
        refine w_iinc (ls2 := [(0, .ref 331), (1, .int x1), (2, .int x2), (3, .int (x3 + 1))]) (Ev.cm _) rfl rfl rfl ?_
        refine w_goto (Ev.cm _) rfl ?_
        show Wp _ _ _ _ _ _ _ 16 [(0, .ref 331), (1, .int x1), (2, .int x2), (3, .int (x3 + 1))] [] (HS I L X)
        refine Wp.sub [0, 1, 2, 3] (ls2 := [(0, .ref 331), (1, .int x1), (2, .int x2), (3, .int (x3 + 1))]) rfl ?_
        exact ih _ _ _ _ _ q
      · have c2 : ((I 332 (((36 : Int32) + x2).toNatClampNeg)) ^^^ (I 332 (((36 : Int32) + x3).toNatClampNeg))) &&& x1 = 0 := c2
        rw [if_pos c2] at q
        refine w_iconst (Ev.cm _) rfl ?_
        refine w_ireturn (Ev.cm _) rfl (by first | exact rok_0 | exact rok_1 | exact rok_b) rf0 ?_
        cases q
        exact g
def LO_M_areUnlike_2 (fu : Nat) : Nat → Int32 → Int32 → (Nat → Nat → Int32) → (Nat → Nat → Int64) → Option (Int32 × (Nat → Nat → Int32) × (Nat → Nat → Int64))
  | 0, _, _, _, _ => none
  | n + 1, x1, x2, I, L => if I 332 0 ≤ x2 then (some (1, I, L)) else (LO_M_areUnlike_16 fu (fun x1 x2 I L => LO_M_areUnlike_2 fu n x1 x2 I L) fu x1 x2 (x2 + 1) I L)
set_option maxHeartbeats 20000000 in
set_option maxRecDepth 20000 in
theorem lo_M_areUnlike_2 {d fu n0 s0 : Nat} {X : Nat × (Nat → Int32)} {Q : PQ} {res : Int32 × (Nat → Nat → Int32) × (Nat → Nat → Int64)}  (g : Q (some (.int res.1)) (HS res.2.1 res.2.2 X)) : ∀ (n : Nat) (x1 : Int32) (x2 : Int32) (I : Nat → Nat → Int32) (L : Nat → Nat → Int64), LO_M_areUnlike_2 fu n x1 x2 I L = some res → Wp (Ev (d + 0)) cd_M_areUnlike (0, 0) (some .boolean) n0 s0 Q 2 [(0, .ref 331), (1, .int x1), (2, .int x2)] [] (HS I L X) := by
  intro n
  induction n with
  | zero => intro _ _ _ _ q; cases q
  | succ n ih =>
    intro x1 x2 I L q
    unfold LO_M_areUnlike_2 at q
    refine w_iload_n (Ev.cm _) rfl rfl ?_
    refine w_aload_n (Ev.cm _) rfl rfl ?_
    refine w_getR (q := 332) (Ev.cm _) rfl (Nat.le_of_ble_eq_true rfl) rfl rfl ?_
    refine w_iconst (Ev.cm _) rfl ?_
    refine w_iald (Ev.cm _) rfl (Nat.le_of_ble_eq_true rfl) rfl (show vp_in 0 1541 from vpI 1541 (by decide) (by decide) (by decide)) ?_
    refine w_icmp_ge (Ev.cm _) rfl (fun c1 => ?_) (fun c1 => ?_)
    · have c1 : I 332 0 ≤ x2 := c1
      rw [if_pos c1] at q
      refine w_iconst (Ev.cm _) rfl ?_
      refine w_ireturn (Ev.cm _) rfl (by first | exact rok_0 | exact rok_1 | exact rok_b) rf0 ?_
      cases q
      exact g
    · have c1 : ¬ (I 332 0 ≤ x2) := c1
      rw [if_neg c1] at q
      refine w_iload_n (Ev.cm _) rfl rfl ?_
      refine w_iconst (Ev.cm _) rfl ?_
      refine w_iadd (Ev.cm _) rfl ?_
      refine w_istore_n (ls2 := [(0, .ref 331), (1, .int x1), (2, .int x2), (3, .int (x2 + 1))]) (Ev.cm _) rfl rfl ?_
      show Wp _ _ _ _ _ _ _ 16 [(0, .ref 331), (1, .int x1), (2, .int x2), (3, .int (x2 + 1))] [] (HS I L X)
      refine Wp.sub [0, 1, 2, 3] (ls2 := [(0, .ref 331), (1, .int x1), (2, .int x2), (3, .int (x2 + 1))]) rfl ?_
      exact lo_M_areUnlike_16 g (fun x1 x2 I L q => ih x1 x2 I L q) fu _ _ _ _ _ q
def FO_M_areUnlike (fu : Nat) (p0 : Int32) (I : Nat → Nat → Int32) (L : Nat → Nat → Int64) : Option (Int32 × (Nat → Nat → Int32) × (Nat → Nat → Int64)) := LO_M_areUnlike_2 fu fu p0 0 I L
set_option maxHeartbeats 20000000 in
set_option maxRecDepth 20000 in
theorem eo_M_areUnlike {d fu : Nat} {p0 : Int32} {I : Nat → Nat → Int32} {L : Nat → Nat → Int64} {X : Nat × (Nat → Int32)} {Q : PQ} {res : Int32 × (Nat → Nat → Int32) × (Nat → Nat → Int64)}  (g : Q (some (.int res.1)) (HS res.2.1 res.2.2 X)) (q : FO_M_areUnlike fu p0 I L = some res) : Ev (d + 1) m_M_areUnlike [.ref 331, .int p0] (HS I L X) Q := by
  unfold FO_M_areUnlike at q
  refine ev_start (d := d + 0) rfl rfl rfl (Nat.le_of_ble_eq_true rfl) ?_
  show Wp (Ev (d + 0)) cd_M_areUnlike (0, 0) (some .boolean) _ _ Q 0 [(0, .ref 331), (1, .int p0)] [] (HS I L X)
  refine w_iconst (Ev.cm _) rfl ?_
  refine w_istore_n (ls2 := [(0, .ref 331), (1, .int p0), (2, .int 0)]) (Ev.cm _) rfl rfl ?_
  show Wp _ _ _ _ _ _ _ 2 [(0, .ref 331), (1, .int p0), (2, .int 0)] [] (HS I L X)
  refine Wp.sub [0, 1, 2] (ls2 := [(0, .ref 331), (1, .int p0), (2, .int 0)]) rfl ?_
  exact lo_M_areUnlike_2 g fu _ _ _ _ q
def LO_M_enough_6 (fu : Nat) : Nat → Int32 → Int32 → Int32 → (Nat → Nat → Int32) → (Nat → Nat → Int64) → Option (Int32 × (Nat → Nat → Int32) × (Nat → Nat → Int64))
  | 0, _, _, _, _, _ => none
  | n + 1, x1, x2, x3, I, L => if x3 < 0 then (if x2 = (-1) then (some ((-1), I, L)) else (if x1 = 0 then (some (x2, I, L)) else ((FO_M_bits fu x2 I L).bind (fun u1 => let r1 := u1.1; let I1 := u1.2.1; let L1 := u1.2.2; some (r1, I1, L1))))) else (if x2 = (-1) then ((FO_M_areUnlike fu x3 I L).bind (fun u2 => let r2 := u2.1; let I2 := u2.2.1; let L2 := u2.2.2; if r2 = 0 then (LO_M_enough_6 fu n x1 x2 (x3 + (-2)) I2 L2) else (LO_M_enough_6 fu n x1 x3 (x3 + (-2)) I2 L2))) else ((FO_M_bits fu x3 I L).bind (fun u3 => let r3 := u3.1; let I3 := u3.2.1; let L3 := u3.2.2; (FO_M_bits fu x2 I3 L3).bind (fun u4 => let r4 := u4.1; let I4 := u4.2.1; let L4 := u4.2.2; if r4 < r3 then (LO_M_enough_6 fu n x1 x2 (x3 + (-2)) I4 L4) else ((FO_M_areUnlike fu x3 I4 L4).bind (fun u5 => let r5 := u5.1; let I5 := u5.2.1; let L5 := u5.2.2; if r5 = 0 then (LO_M_enough_6 fu n x1 x2 (x3 + (-2)) I5 L5) else (LO_M_enough_6 fu n x1 x3 (x3 + (-2)) I5 L5)))))))
set_option maxHeartbeats 20000000 in
set_option maxRecDepth 20000 in
theorem lo_M_enough_6 {d fu n0 s0 : Nat} {X : Nat × (Nat → Int32)} {Q : PQ} {res : Int32 × (Nat → Nat → Int32) × (Nat → Nat → Int64)}  (g : Q (some (.int res.1)) (HS res.2.1 res.2.2 X)) : ∀ (n : Nat) (x1 : Int32) (x2 : Int32) (x3 : Int32) (I : Nat → Nat → Int32) (L : Nat → Nat → Int64), LO_M_enough_6 fu n x1 x2 x3 I L = some res → Wp (Ev (d + 1)) cd_M_enough (0, 0) (some .int) n0 s0 Q 6 [(0, .ref 331), (1, .int x1), (2, .int x2), (3, .int x3)] [] (HS I L X) := by
  intro n
  induction n with
  | zero => intro _ _ _ _ _ q; cases q
  | succ n ih =>
    intro x1 x2 x3 I L q
    unfold LO_M_enough_6 at q
    refine w_iload_n (Ev.cm _) rfl rfl ?_
    refine w_if_lt (Ev.cm _) rfl (fun c1 => ?_) (fun c1 => ?_)
    · have c1 : x3 < 0 := c1
      rw [if_pos c1] at q
      refine w_iload_n (Ev.cm _) rfl rfl ?_
      refine w_iconst (Ev.cm _) rfl ?_
      refine w_icmp_ne (Ev.cm _) rfl (fun c2 => ?_) (fun c2 => ?_)
      · have c2 : ¬ (x2 = (-1)) := c2
        rw [if_neg c2] at q
        refine w_iload_n (Ev.cm _) rfl rfl ?_
        refine w_if_eq (Ev.cm _) rfl (fun c3 => ?_) (fun c3 => ?_)
        · have c3 : x1 = 0 := c3
          rw [if_pos c3] at q
          refine w_iload_n (Ev.cm _) rfl rfl ?_
          refine w_ireturn (Ev.cm _) rfl trivial rf0 ?_
          cases q
          exact g
        · have c3 : ¬ (x1 = 0) := c3
          rw [if_neg c3] at q
          refine w_iload_n (Ev.cm _) rfl rfl ?_
          obtain ⟨⟨r1, I1, L1⟩, e1, q⟩ := obs q
          dsimp only at q
          refine w_cstat (as := [.int x2]) (st := []) (Ev.cm _) rfl rfl rfl (Nat.le_of_ble_eq_true rfl) (Nat.le_of_ble_eq_true rfl) (eo_M_bits (g := ?_) e1)
          show Wp _ _ _ _ _ _ _ 59 [(0, .ref 331), (1, .int x1), (2, .int x2), (3, .int x3)] [.int r1] (HS I1 L1 X)
          refine w_goto (Ev.cm _) rfl ?_
          refine w_ireturn (Ev.cm _) rfl trivial rf0 ?_
          cases q
          exact g
      · have c2 : x2 = (-1) := c2
        rw [if_pos c2] at q
        refine w_iconst (Ev.cm _) rfl ?_
        refine w_goto (Ev.cm _) rfl ?_
        refine w_ireturn (Ev.cm _) rfl trivial rf0 ?_
        cases q
        exact g
    · have c1 : ¬ (x3 < 0) := c1
      rw [if_neg c1] at q
      refine w_iload_n (Ev.cm _) rfl rfl ?_
      refine w_iconst (Ev.cm _) rfl ?_
      refine w_icmp_eq (Ev.cm _) rfl (fun c4 => ?_) (fun c4 => ?_)
      · have c4 : x2 = (-1) := c4
        rw [if_pos c4] at q
        refine w_aload_n (Ev.cm _) rfl rfl ?_
        refine w_iload_n (Ev.cm _) rfl rfl ?_
        obtain ⟨⟨r2, I2, L2⟩, e2, q⟩ := obs q
        dsimp only at q
        refine w_cvirt (o := 331) (as := [.int x3]) (st := []) (Ev.cm _) rfl rfl rfl (Nat.le_of_ble_eq_true rfl) (Nat.le_of_ble_eq_true rfl) rfl (Nat.le_of_ble_eq_true rfl) (eo_M_areUnlike (g := ?_) e2)
        show Wp _ _ _ _ _ _ _ 31 [(0, .ref 331), (1, .int x1), (2, .int x2), (3, .int x3)] [.int r2] (HS I2 L2 X)
        refine w_if_eq (Ev.cm _) rfl (fun c5 => ?_) (fun c5 => ?_)
        · have c5 : r2 = 0 := c5
          rw [if_pos c5] at q
          refine w_iinc (ls2 := [(0, .ref 331), (1, .int x1), (2, .int x2), (3, .int (x3 + (-2)))]) (Ev.cm _) rfl rfl rfl ?_
          refine w_goto (Ev.cm _) rfl ?_
          show Wp _ _ _ _ _ _ _ 6 [(0, .ref 331), (1, .int x1), (2, .int x2), (3, .int (x3 + (-2)))] [] (HS I2 L2 X)
          refine Wp.sub [0, 1, 2, 3] (ls2 := [(0, .ref 331), (1, .int x1), (2, .int x2), (3, .int (x3 + (-2)))]) rfl ?_
          exact ih _ _ _ _ _ q
        · have c5 : ¬ (r2 = 0) := c5
          rw [if_neg c5] at q
          refine w_iload_n (Ev.cm _) rfl rfl ?_
          refine w_istore_n (ls2 := [(0, .ref 331), (1, .int x1), (2, .int x3), (3, .int x3)]) (Ev.cm _) rfl rfl ?_
          refine w_iinc (ls2 := [(0, .ref 331), (1, .int x1), (2, .int x3), (3, .int (x3 + (-2)))]) (Ev.cm _) rfl rfl rfl ?_
          refine w_goto (Ev.cm _) rfl ?_
          show Wp _ _ _ _ _ _ _ 6 [(0, .ref 331), (1, .int x1), (2, .int x3), (3, .int (x3 + (-2)))] [] (HS I2 L2 X)
          refine Wp.sub [0, 1, 2, 3] (ls2 := [(0, .ref 331), (1, .int x1), (2, .int x3), (3, .int (x3 + (-2)))]) rfl ?_
          exact ih _ _ _ _ _ q
      · have c4 : ¬ (x2 = (-1)) := c4
        rw [if_neg c4] at q
        refine w_iload_n (Ev.cm _) rfl rfl ?_
        obtain ⟨⟨r3, I3, L3⟩, e3, q⟩ := obs q
        dsimp only at q
        refine w_cstat (as := [.int x3]) (st := []) (Ev.cm _) rfl rfl rfl (Nat.le_of_ble_eq_true rfl) (Nat.le_of_ble_eq_true rfl) (eo_M_bits (g := ?_) e3)
        show Wp _ _ _ _ _ _ _ 19 [(0, .ref 331), (1, .int x1), (2, .int x2), (3, .int x3)] [.int r3] (HS I3 L3 X)
        refine w_iload_n (Ev.cm _) rfl rfl ?_
        obtain ⟨⟨r4, I4, L4⟩, e4, q⟩ := obs q
        dsimp only at q
        refine w_cstat (as := [.int x2]) (st := [.int r3]) (Ev.cm _) rfl rfl rfl (Nat.le_of_ble_eq_true rfl) (Nat.le_of_ble_eq_true rfl) (eo_M_bits (g := ?_) e4)
        show Wp _ _ _ _ _ _ _ 23 [(0, .ref 331), (1, .int x1), (2, .int x2), (3, .int x3)] [.int r4, .int r3] (HS I4 L4 X)
        refine w_icmp_gt (Ev.cm _) rfl (fun c6 => ?_) (fun c6 => ?_)
        · have c6 : r4 < r3 := c6
          rw [if_pos c6] at q
          refine w_iinc (ls2 := [(0, .ref 331), (1, .int x1), (2, .int x2), (3, .int (x3 + (-2)))]) (Ev.cm _) rfl rfl rfl ?_
          refine w_goto (Ev.cm _) rfl ?_
          show Wp _ _ _ _ _ _ _ 6 [(0, .ref 331), (1, .int x1), (2, .int x2), (3, .int (x3 + (-2)))] [] (HS I4 L4 X)
          refine Wp.sub [0, 1, 2, 3] (ls2 := [(0, .ref 331), (1, .int x1), (2, .int x2), (3, .int (x3 + (-2)))]) rfl ?_
          exact ih _ _ _ _ _ q
        · have c6 : ¬ (r4 < r3) := c6
          rw [if_neg c6] at q
          refine w_aload_n (Ev.cm _) rfl rfl ?_
          refine w_iload_n (Ev.cm _) rfl rfl ?_
          obtain ⟨⟨r5, I5, L5⟩, e5, q⟩ := obs q
          dsimp only at q
          refine w_cvirt (o := 331) (as := [.int x3]) (st := []) (Ev.cm _) rfl rfl rfl (Nat.le_of_ble_eq_true rfl) (Nat.le_of_ble_eq_true rfl) rfl (Nat.le_of_ble_eq_true rfl) (eo_M_areUnlike (g := ?_) e5)
          show Wp _ _ _ _ _ _ _ 31 [(0, .ref 331), (1, .int x1), (2, .int x2), (3, .int x3)] [.int r5] (HS I5 L5 X)
          refine w_if_eq (Ev.cm _) rfl (fun c7 => ?_) (fun c7 => ?_)
          · have c7 : r5 = 0 := c7
            rw [if_pos c7] at q
            refine w_iinc (ls2 := [(0, .ref 331), (1, .int x1), (2, .int x2), (3, .int (x3 + (-2)))]) (Ev.cm _) rfl rfl rfl ?_
            refine w_goto (Ev.cm _) rfl ?_
            show Wp _ _ _ _ _ _ _ 6 [(0, .ref 331), (1, .int x1), (2, .int x2), (3, .int (x3 + (-2)))] [] (HS I5 L5 X)
            refine Wp.sub [0, 1, 2, 3] (ls2 := [(0, .ref 331), (1, .int x1), (2, .int x2), (3, .int (x3 + (-2)))]) rfl ?_
            exact ih _ _ _ _ _ q
          · have c7 : ¬ (r5 = 0) := c7
            rw [if_neg c7] at q
            refine w_iload_n (Ev.cm _) rfl rfl ?_
            refine w_istore_n (ls2 := [(0, .ref 331), (1, .int x1), (2, .int x3), (3, .int x3)]) (Ev.cm _) rfl rfl ?_
            refine w_iinc (ls2 := [(0, .ref 331), (1, .int x1), (2, .int x3), (3, .int (x3 + (-2)))]) (Ev.cm _) rfl rfl rfl ?_
            refine w_goto (Ev.cm _) rfl ?_
            show Wp _ _ _ _ _ _ _ 6 [(0, .ref 331), (1, .int x1), (2, .int x3), (3, .int (x3 + (-2)))] [] (HS I5 L5 X)
            refine Wp.sub [0, 1, 2, 3] (ls2 := [(0, .ref 331), (1, .int x1), (2, .int x3), (3, .int (x3 + (-2)))]) rfl ?_
            exact ih _ _ _ _ _ q
def FO_M_enough (fu : Nat) (p0 : Int32) (I : Nat → Nat → Int32) (L : Nat → Nat → Int64) : Option (Int32 × (Nat → Nat → Int32) × (Nat → Nat → Int64)) := LO_M_enough_6 fu fu p0 (-1) 8190 I L
set_option maxHeartbeats 20000000 in
set_option maxRecDepth 20000 in
theorem eo_M_enough {d fu : Nat} {p0 : Int32} {I : Nat → Nat → Int32} {L : Nat → Nat → Int64} {X : Nat × (Nat → Int32)} {Q : PQ} {res : Int32 × (Nat → Nat → Int32) × (Nat → Nat → Int64)}  (g : Q (some (.int res.1)) (HS res.2.1 res.2.2 X)) (q : FO_M_enough fu p0 I L = some res) : Ev (d + 2) m_M_enough [.ref 331, .int p0] (HS I L X) Q := by
  unfold FO_M_enough at q
  refine ev_start (d := d + 1) rfl rfl rfl (Nat.le_of_ble_eq_true rfl) ?_
  show Wp (Ev (d + 1)) cd_M_enough (0, 0) (some .int) _ _ Q 0 [(0, .ref 331), (1, .int p0)] [] (HS I L X)
  refine w_iconst (Ev.cm _) rfl ?_
  refine w_istore_n (ls2 := [(0, .ref 331), (1, .int p0), (2, .int (-1))]) (Ev.cm _) rfl rfl ?_
  refine w_sipush (Ev.cm _) rfl ?_
  refine w_istore_n (ls2 := [(0, .ref 331), (1, .int p0), (2, .int (-1)), (3, .int 8190)]) (Ev.cm _) rfl rfl ?_
  show Wp _ _ _ _ _ _ _ 6 [(0, .ref 331), (1, .int p0), (2, .int (-1)), (3, .int 8190)] [] (HS I L X)
  refine Wp.sub [0, 1, 2, 3] (ls2 := [(0, .ref 331), (1, .int p0), (2, .int (-1)), (3, .int 8190)]) rfl ?_
  exact lo_M_enough_6 g fu _ _ _ _ _ q
def LO_M_fits_24 (fu : Nat) : Nat → Int32 → Int32 → Int32 → Int32 → (Nat → Nat → Int32) → (Nat → Nat → Int64) → Option (Int32 × (Nat → Nat → Int32) × (Nat → Nat → Int64))
  | 0, _, _, _, _, _, _ => none
  | n + 1, x1, x2, x3, x4, I, L => if I 332 0 ≤ x4 then (some (x3, I, L)) else (if 0 ≤ (36 : Int32) + x4 ∧ (36 : Int32) + x4 < 1541 then ((FO_M_bits fu ((I 332 (((36 : Int32) + x4).toNatClampNeg)) ^^^ x1) I L).bind (fun u2 => let r2 := u2.1; let I2 := u2.2.1; let L2 := u2.2.2; if x2 < r2 then (LO_M_fits_24 fu n x1 x2 (x3 ||| 0) (x4 + 1) I2 L2) else (LO_M_fits_24 fu n x1 x2 (x3 ||| ((1 : Int32) <<< (x4 &&& 31))) (x4 + 1) I2 L2))) else none)
set_option maxHeartbeats 20000000 in
set_option maxRecDepth 20000 in
theorem lo_M_fits_24 {d fu n0 s0 : Nat} {X : Nat × (Nat → Int32)} {Q : PQ} {res : Int32 × (Nat → Nat → Int32) × (Nat → Nat → Int64)}  (g : Q (some (.int res.1)) (HS res.2.1 res.2.2 X)) : ∀ (n : Nat) (x1 : Int32) (x2 : Int32) (x3 : Int32) (x4 : Int32) (I : Nat → Nat → Int32) (L : Nat → Nat → Int64), LO_M_fits_24 fu n x1 x2 x3 x4 I L = some res → Wp (Ev (d + 1)) cd_M_fits (0, 0) (some .int) n0 s0 Q 24 [(0, .ref 331), (1, .int x1), (2, .int x2), (3, .int x3), (4, .int x4)] [] (HS I L X) := by
  intro n
  induction n with
  | zero => intro _ _ _ _ _ _ q; cases q
  | succ n ih =>
    intro x1 x2 x3 x4 I L q
    unfold LO_M_fits_24 at q
    refine w_iload (Ev.cm _) rfl rfl ?_
    refine w_aload_n (Ev.cm _) rfl rfl ?_
    refine w_getR (q := 332) (Ev.cm _) rfl (Nat.le_of_ble_eq_true rfl) rfl rfl ?_
    refine w_iconst (Ev.cm _) rfl ?_
    refine w_iald (Ev.cm _) rfl (Nat.le_of_ble_eq_true rfl) rfl (show vp_in 0 1541 from vpI 1541 (by decide) (by decide) (by decide)) ?_
    refine w_icmp_ge (Ev.cm _) rfl (fun c1 => ?_) (fun c1 => ?_)
    · have c1 : I 332 0 ≤ x4 := c1
      rw [if_pos c1] at q
      refine w_iload_n (Ev.cm _) rfl rfl ?_
      refine w_ireturn (Ev.cm _) rfl trivial rf0 ?_
      cases q
      exact g
    · have c1 : ¬ (I 332 0 ≤ x4) := c1
      rw [if_neg c1] at q
      refine w_iload_n (Ev.cm _) rfl rfl ?_
      refine w_aload_n (Ev.cm _) rfl rfl ?_
      refine w_getR (q := 332) (Ev.cm _) rfl (Nat.le_of_ble_eq_true rfl) rfl rfl ?_
      refine w_bipush (Ev.cm _) rfl ?_
      refine w_iload (Ev.cm _) rfl rfl ?_
      refine w_iadd (Ev.cm _) rfl ?_
      obtain ⟨b1, q⟩ := ois q
      refine w_iald (Ev.cm _) rfl (Nat.le_of_ble_eq_true rfl) rfl (show vp_in ((36 : Int32) + x4) 1541 from vpI 1541 (by decide) b1.1 b1.2) ?_
      refine w_iload_n (Ev.cm _) rfl rfl ?_
      refine w_ixor (Ev.cm _) rfl ?_
      obtain ⟨⟨r2, I2, L2⟩, e2, q⟩ := obs q
      dsimp only at q
      refine w_cstat (as := [.int ((I 332 (((36 : Int32) + x4).toNatClampNeg)) ^^^ x1)]) (st := [.int x3]) (Ev.cm _) rfl rfl rfl (Nat.le_of_ble_eq_true rfl) (Nat.le_of_ble_eq_true rfl) (eo_M_bits (g := ?_) e2)
      show Wp _ _ _ _ _ _ _ 51 [(0, .ref 331), (1, .int x1), (2, .int x2), (3, .int x3), (4, .int x4)] [.int r2, .int x3] (HS I2 L2 X)
      refine w_iload_n (Ev.cm _) rfl rfl ?_
      refine w_icmp_gt (Ev.cm _) rfl (fun c2 => ?_) (fun c2 => ?_)
      · have c2 : x2 < r2 := c2
        rw [if_pos c2] at q
        refine w_iconst (Ev.cm _) rfl ?_
        refine w_ior (Ev.cm _) rfl ?_
        refine w_istore_n (ls2 := [(0, .ref 331), (1, .int x1), (2, .int x2), (3, .int (x3 ||| 0)), (4, .int x4)]) (Ev.cm _) rfl rfl ?_
        refine w_iinc (ls2 := [(0, .ref 331), (1, .int x1), (2, .int x2), (3, .int (x3 ||| 0)), (4, .int (x4 + 1))]) (Ev.cm _) rfl rfl rfl ?_
        refine w_goto (Ev.cm _) rfl ?_
        show Wp _ _ _ _ _ _ _ 24 [(0, .ref 331), (1, .int x1), (2, .int x2), (3, .int (x3 ||| 0)), (4, .int (x4 + 1))] [] (HS I2 L2 X)
        refine Wp.sub [0, 1, 2, 3, 4] (ls2 := [(0, .ref 331), (1, .int x1), (2, .int x2), (3, .int (x3 ||| 0)), (4, .int (x4 + 1))]) rfl ?_
        exact ih _ _ _ _ _ _ q
      · have c2 : ¬ (x2 < r2) := c2
        rw [if_neg c2] at q
        refine w_iconst (Ev.cm _) rfl ?_
        refine w_iload (Ev.cm _) rfl rfl ?_
        refine w_ishl (Ev.cm _) rfl ?_
        refine w_goto (Ev.cm _) rfl ?_
        refine w_ior (Ev.cm _) rfl ?_
        refine w_istore_n (ls2 := [(0, .ref 331), (1, .int x1), (2, .int x2), (3, .int (x3 ||| ((1 : Int32) <<< (x4 &&& 31)))), (4, .int x4)]) (Ev.cm _) rfl rfl ?_
        refine w_iinc (ls2 := [(0, .ref 331), (1, .int x1), (2, .int x2), (3, .int (x3 ||| ((1 : Int32) <<< (x4 &&& 31)))), (4, .int (x4 + 1))]) (Ev.cm _) rfl rfl rfl ?_
        refine w_goto (Ev.cm _) rfl ?_
        show Wp _ _ _ _ _ _ _ 24 [(0, .ref 331), (1, .int x1), (2, .int x2), (3, .int (x3 ||| ((1 : Int32) <<< (x4 &&& 31)))), (4, .int (x4 + 1))] [] (HS I2 L2 X)
        refine Wp.sub [0, 1, 2, 3, 4] (ls2 := [(0, .ref 331), (1, .int x1), (2, .int x2), (3, .int (x3 ||| ((1 : Int32) <<< (x4 &&& 31)))), (4, .int (x4 + 1))]) rfl ?_
        exact ih _ _ _ _ _ _ q
def FO_M_fits (fu : Nat) (p0 : Int32) (p1 : Int32) (I : Nat → Nat → Int32) (L : Nat → Nat → Int64) : Option (Int32 × (Nat → Nat → Int32) × (Nat → Nat → Int64)) := if p0 &&& (-8191) = 0 then (if (0 : Int32) ≤ p1 ∧ p1 ≤ (12 : Int32) then (LO_M_fits_24 fu fu p0 p1 0 0 I L) else (some ((-1), I, L))) else (some ((-1), I, L))
set_option maxHeartbeats 20000000 in
set_option maxRecDepth 20000 in
theorem eo_M_fits {d fu : Nat} {p0 : Int32} {p1 : Int32} {I : Nat → Nat → Int32} {L : Nat → Nat → Int64} {X : Nat × (Nat → Int32)} {Q : PQ} {res : Int32 × (Nat → Nat → Int32) × (Nat → Nat → Int64)}  (g : Q (some (.int res.1)) (HS res.2.1 res.2.2 X)) (q : FO_M_fits fu p0 p1 I L = some res) : Ev (d + 2) m_M_fits [.ref 331, .int p0, .int p1] (HS I L X) Q := by
  unfold FO_M_fits at q
  refine ev_start (d := d + 1) rfl rfl rfl (Nat.le_of_ble_eq_true rfl) ?_
  show Wp (Ev (d + 1)) cd_M_fits (0, 0) (some .int) _ _ Q 0 [(0, .ref 331), (1, .int p0), (2, .int p1)] [] (HS I L X)
  refine w_iload_n (Ev.cm _) rfl rfl ?_
  refine w_cstat (as := [.int p0]) (st := []) (Ev.cm _) rfl rfl rfl (Nat.le_of_ble_eq_true rfl) (Nat.le_of_ble_eq_true rfl) (m_areStairs ?_)
  show Wp _ _ _ _ _ _ _ 4 [(0, .ref 331), (1, .int p0), (2, .int p1)] [.int (bI (p0 &&& (-8191) = 0))] (HS I L X)
  refine w_if_eq (Ev.cm _) rfl (fun c1 => ?_) (fun c1 => ?_)
  · have c1 : ¬ (p0 &&& (-8191) = 0) := bI_0.mp c1
    rw [if_neg c1] at q
    refine w_iconst (Ev.cm _) rfl ?_
    refine w_ireturn (Ev.cm _) rfl trivial rf0 ?_
    cases q
    exact g
  · have c1 : p0 &&& (-8191) = 0 := bI_1.mp c1
    rw [if_pos c1] at q
    refine w_iload_n (Ev.cm _) rfl rfl ?_
    refine w_iconst (Ev.cm _) rfl ?_
    refine w_bipush (Ev.cm _) rfl ?_
    refine w_cstat (as := [.int p1, .int 0, .int 12]) (st := []) (Ev.cm _) rfl rfl rfl (Nat.le_of_ble_eq_true rfl) (Nat.le_of_ble_eq_true rfl) (m_isIn ?_)
    show Wp _ _ _ _ _ _ _ 14 [(0, .ref 331), (1, .int p0), (2, .int p1)] [.int (bI ((0 : Int32) ≤ p1 ∧ p1 ≤ (12 : Int32)))] (HS I L X)
    refine w_if_ne (Ev.cm _) rfl (fun c2 => ?_) (fun c2 => ?_)
    · have c2 : (0 : Int32) ≤ p1 ∧ p1 ≤ (12 : Int32) := bI_1.mp c2
      rw [if_pos c2] at q
      refine w_iconst (Ev.cm _) rfl ?_
      refine w_istore_n (ls2 := [(0, .ref 331), (1, .int p0), (2, .int p1), (3, .int 0)]) (Ev.cm _) rfl rfl ?_
      refine w_iconst (Ev.cm _) rfl ?_
      refine w_istore (ls2 := [(0, .ref 331), (1, .int p0), (2, .int p1), (3, .int 0), (4, .int 0)]) (Ev.cm _) rfl rfl ?_
      show Wp _ _ _ _ _ _ _ 24 [(0, .ref 331), (1, .int p0), (2, .int p1), (3, .int 0), (4, .int 0)] [] (HS I L X)
      refine Wp.sub [0, 1, 2, 3, 4] (ls2 := [(0, .ref 331), (1, .int p0), (2, .int p1), (3, .int 0), (4, .int 0)]) rfl ?_
      exact lo_M_fits_24 g fu _ _ _ _ _ _ q
    · have c2 : ¬ ((0 : Int32) ≤ p1 ∧ p1 ≤ (12 : Int32)) := bI_0.mp c2
      rw [if_neg c2] at q
      refine w_iconst (Ev.cm _) rfl ?_
      refine w_ireturn (Ev.cm _) rfl trivial rf0 ?_
      cases q
      exact g
def LO_M_alone_22 (fu : Nat) : Nat → Int32 → Int32 → Int32 → (Nat → Nat → Int32) → (Nat → Nat → Int64) → Option (Int32 × (Nat → Nat → Int32) × (Nat → Nat → Int64))
  | 0, _, _, _, _, _ => none
  | n + 1, x1, x2, x3, I, L => if I 332 0 ≤ x3 then (some (x2, I, L)) else (if x3 = x1 then (LO_M_alone_22 fu n x1 (x2 &&& x2) (x3 + 1) I L) else (if 0 ≤ (36 : Int32) + x3 ∧ (36 : Int32) + x3 < 1541 then (LO_M_alone_22 fu n x1 (x2 &&& ((I 332 (((36 : Int32) + x3).toNatClampNeg)) ^^^ (-1))) (x3 + 1) I L) else none))
set_option maxHeartbeats 20000000 in
set_option maxRecDepth 20000 in
theorem lo_M_alone_22 {d fu n0 s0 : Nat} {X : Nat × (Nat → Int32)} {Q : PQ} {res : Int32 × (Nat → Nat → Int32) × (Nat → Nat → Int64)}  (g : Q (some (.int res.1)) (HS res.2.1 res.2.2 X)) : ∀ (n : Nat) (x1 : Int32) (x2 : Int32) (x3 : Int32) (I : Nat → Nat → Int32) (L : Nat → Nat → Int64), LO_M_alone_22 fu n x1 x2 x3 I L = some res → Wp (Ev (d + 2)) cd_M_alone (0, 0) (some .int) n0 s0 Q 22 [(0, .ref 331), (1, .int x1), (2, .int x2), (3, .int x3)] [] (HS I L X) := by
  intro n
  induction n with
  | zero => intro _ _ _ _ _ q; cases q
  | succ n ih =>
    intro x1 x2 x3 I L q
    unfold LO_M_alone_22 at q
    refine w_iload_n (Ev.cm _) rfl rfl ?_
    refine w_aload_n (Ev.cm _) rfl rfl ?_
    refine w_getR (q := 332) (Ev.cm _) rfl (Nat.le_of_ble_eq_true rfl) rfl rfl ?_
    refine w_iconst (Ev.cm _) rfl ?_
    refine w_iald (Ev.cm _) rfl (Nat.le_of_ble_eq_true rfl) rfl (show vp_in 0 1541 from vpI 1541 (by decide) (by decide) (by decide)) ?_
    refine w_icmp_ge (Ev.cm _) rfl (fun c1 => ?_) (fun c1 => ?_)
    · have c1 : I 332 0 ≤ x3 := c1
      rw [if_pos c1] at q
      refine w_iload_n (Ev.cm _) rfl rfl ?_
      refine w_ireturn (Ev.cm _) rfl trivial rf0 ?_
      cases q
      exact g
    · have c1 : ¬ (I 332 0 ≤ x3) := c1
      rw [if_neg c1] at q
      refine w_iload_n (Ev.cm _) rfl rfl ?_
      refine w_iload_n (Ev.cm _) rfl rfl ?_
      refine w_iload_n (Ev.cm _) rfl rfl ?_
      refine w_icmp_ne (Ev.cm _) rfl (fun c2 => ?_) (fun c2 => ?_)
      · have c2 : ¬ (x3 = x1) := c2
        rw [if_neg c2] at q
        refine w_aload_n (Ev.cm _) rfl rfl ?_
        refine w_getR (q := 332) (Ev.cm _) rfl (Nat.le_of_ble_eq_true rfl) rfl rfl ?_
        refine w_bipush (Ev.cm _) rfl ?_
        refine w_iload_n (Ev.cm _) rfl rfl ?_
        refine w_iadd (Ev.cm _) rfl ?_
        obtain ⟨b1, q⟩ := ois q
        refine w_iald (Ev.cm _) rfl (Nat.le_of_ble_eq_true rfl) rfl (show vp_in ((36 : Int32) + x3) 1541 from vpI 1541 (by decide) b1.1 b1.2) ?_
        refine w_iconst (Ev.cm _) rfl ?_
        refine w_ixor (Ev.cm _) rfl ?_
        refine w_iand (Ev.cm _) rfl ?_
        refine w_istore_n (ls2 := [(0, .ref 331), (1, .int x1), (2, .int (x2 &&& ((I 332 (((36 : Int32) + x3).toNatClampNeg)) ^^^ (-1)))), (3, .int x3)]) (Ev.cm _) rfl rfl ?_
        refine w_iinc (ls2 := [(0, .ref 331), (1, .int x1), (2, .int (x2 &&& ((I 332 (((36 : Int32) + x3).toNatClampNeg)) ^^^ (-1)))), (3, .int (x3 + 1))]) (Ev.cm _) rfl rfl rfl ?_
        refine w_goto (Ev.cm _) rfl ?_
        show Wp _ _ _ _ _ _ _ 22 [(0, .ref 331), (1, .int x1), (2, .int (x2 &&& ((I 332 (((36 : Int32) + x3).toNatClampNeg)) ^^^ (-1)))), (3, .int (x3 + 1))] [] (HS I L X)
        refine Wp.sub [0, 1, 2, 3] (ls2 := [(0, .ref 331), (1, .int x1), (2, .int (x2 &&& ((I 332 (((36 : Int32) + x3).toNatClampNeg)) ^^^ (-1)))), (3, .int (x3 + 1))]) rfl ?_
        exact ih _ _ _ _ _ q
      · have c2 : x3 = x1 := c2
        rw [if_pos c2] at q
        refine w_iload_n (Ev.cm _) rfl rfl ?_
        refine w_goto (Ev.cm _) rfl ?_
        refine w_iand (Ev.cm _) rfl ?_
        refine w_istore_n (ls2 := [(0, .ref 331), (1, .int x1), (2, .int (x2 &&& x2)), (3, .int x3)]) (Ev.cm _) rfl rfl ?_
        refine w_iinc (ls2 := [(0, .ref 331), (1, .int x1), (2, .int (x2 &&& x2)), (3, .int (x3 + 1))]) (Ev.cm _) rfl rfl rfl ?_
        refine w_goto (Ev.cm _) rfl ?_
        show Wp _ _ _ _ _ _ _ 22 [(0, .ref 331), (1, .int x1), (2, .int (x2 &&& x2)), (3, .int (x3 + 1))] [] (HS I L X)
        refine Wp.sub [0, 1, 2, 3] (ls2 := [(0, .ref 331), (1, .int x1), (2, .int (x2 &&& x2)), (3, .int (x3 + 1))]) rfl ?_
        exact ih _ _ _ _ _ q
def FO_M_alone (fu : Nat) (p0 : Int32) (I : Nat → Nat → Int32) (L : Nat → Nat → Int64) : Option (Int32 × (Nat → Nat → Int32) × (Nat → Nat → Int64)) := if F_M_isLodger I p0 = 0 then (some ((-1), I, L)) else (if 0 ≤ (36 : Int32) + p0 ∧ (36 : Int32) + p0 < 1541 then (LO_M_alone_22 fu fu p0 (I 332 (((36 : Int32) + p0).toNatClampNeg)) 0 I L) else none)
set_option maxHeartbeats 20000000 in
set_option maxRecDepth 20000 in
theorem eo_M_alone {d fu : Nat} {p0 : Int32} {I : Nat → Nat → Int32} {L : Nat → Nat → Int64} {X : Nat × (Nat → Int32)} {Q : PQ} {res : Int32 × (Nat → Nat → Int32) × (Nat → Nat → Int64)}  (g : Q (some (.int res.1)) (HS res.2.1 res.2.2 X)) (q : FO_M_alone fu p0 I L = some res) : Ev (d + 3) m_M_alone [.ref 331, .int p0] (HS I L X) Q := by
  unfold FO_M_alone at q
  refine ev_start (d := d + 2) rfl rfl rfl (Nat.le_of_ble_eq_true rfl) ?_
  show Wp (Ev (d + 2)) cd_M_alone (0, 0) (some .int) _ _ Q 0 [(0, .ref 331), (1, .int p0)] [] (HS I L X)
  refine w_aload_n (Ev.cm _) rfl rfl ?_
  refine w_iload_n (Ev.cm _) rfl rfl ?_
  refine w_cvirt (o := 331) (as := [.int p0]) (st := []) (Ev.cm _) rfl rfl rfl (Nat.le_of_ble_eq_true rfl) (Nat.le_of_ble_eq_true rfl) rfl (Nat.le_of_ble_eq_true rfl) (e_M_isLodger ?_)
  show Wp _ _ _ _ _ _ _ 5 [(0, .ref 331), (1, .int p0)] [.int (F_M_isLodger I p0)] (HS I L X)
  refine w_if_ne (Ev.cm _) rfl (fun c1 => ?_) (fun c1 => ?_)
  · have c1 : ¬ (F_M_isLodger I p0 = 0) := c1
    rw [if_neg c1] at q
    refine w_aload_n (Ev.cm _) rfl rfl ?_
    refine w_getR (q := 332) (Ev.cm _) rfl (Nat.le_of_ble_eq_true rfl) rfl rfl ?_
    refine w_bipush (Ev.cm _) rfl ?_
    refine w_iload_n (Ev.cm _) rfl rfl ?_
    refine w_iadd (Ev.cm _) rfl ?_
    obtain ⟨b1, q⟩ := ois q
    refine w_iald (Ev.cm _) rfl (Nat.le_of_ble_eq_true rfl) rfl (show vp_in ((36 : Int32) + p0) 1541 from vpI 1541 (by decide) b1.1 b1.2) ?_
    refine w_istore_n (ls2 := [(0, .ref 331), (1, .int p0), (2, .int (I 332 (((36 : Int32) + p0).toNatClampNeg)))]) (Ev.cm _) rfl rfl ?_
    refine w_iconst (Ev.cm _) rfl ?_
    refine w_istore_n (ls2 := [(0, .ref 331), (1, .int p0), (2, .int (I 332 (((36 : Int32) + p0).toNatClampNeg))), (3, .int 0)]) (Ev.cm _) rfl rfl ?_
    show Wp _ _ _ _ _ _ _ 22 [(0, .ref 331), (1, .int p0), (2, .int (I 332 (((36 : Int32) + p0).toNatClampNeg))), (3, .int 0)] [] (HS I L X)
    refine Wp.sub [0, 1, 2, 3] (ls2 := [(0, .ref 331), (1, .int p0), (2, .int (I 332 (((36 : Int32) + p0).toNatClampNeg))), (3, .int 0)]) rfl ?_
    exact lo_M_alone_22 g fu _ _ _ _ _ q
  · have c1 : F_M_isLodger I p0 = 0 := c1
    rw [if_pos c1] at q
    refine w_iconst (Ev.cm _) rfl ?_
    refine w_ireturn (Ev.cm _) rfl trivial rf0 ?_
    cases q
    exact g
def LO_M_shared_19 (fu : Nat) : Nat → Int32 → Int32 → (Nat → Nat → Int32) → (Nat → Nat → Int64) → Option (Int32 × (Nat → Nat → Int32) × (Nat → Nat → Int64))
  | 0, _, _, _, _ => none
  | n + 1, x1, x2, I, L => if I 332 0 ≤ x2 then (some (x1, I, L)) else (if 0 ≤ (36 : Int32) + x2 ∧ (36 : Int32) + x2 < 1541 then (LO_M_shared_19 fu n (x1 &&& (I 332 (((36 : Int32) + x2).toNatClampNeg))) (x2 + 1) I L) else none)
set_option maxHeartbeats 20000000 in
set_option maxRecDepth 20000 in
theorem lo_M_shared_19 {d fu n0 s0 : Nat} {X : Nat × (Nat → Int32)} {Q : PQ} {res : Int32 × (Nat → Nat → Int32) × (Nat → Nat → Int64)}  (g : Q (some (.int res.1)) (HS res.2.1 res.2.2 X)) : ∀ (n : Nat) (x1 : Int32) (x2 : Int32) (I : Nat → Nat → Int32) (L : Nat → Nat → Int64), LO_M_shared_19 fu n x1 x2 I L = some res → Wp (Ev (d + 0)) cd_M_shared (0, 0) (some .int) n0 s0 Q 19 [(0, .ref 331), (1, .int x1), (2, .int x2)] [] (HS I L X) := by
  intro n
  induction n with
  | zero => intro _ _ _ _ q; cases q
  | succ n ih =>
    intro x1 x2 I L q
    unfold LO_M_shared_19 at q
    refine w_iload_n (Ev.cm _) rfl rfl ?_
    refine w_aload_n (Ev.cm _) rfl rfl ?_
    refine w_getR (q := 332) (Ev.cm _) rfl (Nat.le_of_ble_eq_true rfl) rfl rfl ?_
    refine w_iconst (Ev.cm _) rfl ?_
    refine w_iald (Ev.cm _) rfl (Nat.le_of_ble_eq_true rfl) rfl (show vp_in 0 1541 from vpI 1541 (by decide) (by decide) (by decide)) ?_
    refine w_icmp_ge (Ev.cm _) rfl (fun c1 => ?_) (fun c1 => ?_)
    · have c1 : I 332 0 ≤ x2 := c1
      rw [if_pos c1] at q
      refine w_iload_n (Ev.cm _) rfl rfl ?_
      refine w_ireturn (Ev.cm _) rfl trivial rf0 ?_
      cases q
      exact g
    · have c1 : ¬ (I 332 0 ≤ x2) := c1
      rw [if_neg c1] at q
      refine w_iload_n (Ev.cm _) rfl rfl ?_
      refine w_aload_n (Ev.cm _) rfl rfl ?_
      refine w_getR (q := 332) (Ev.cm _) rfl (Nat.le_of_ble_eq_true rfl) rfl rfl ?_
      refine w_bipush (Ev.cm _) rfl ?_
      refine w_iload_n (Ev.cm _) rfl rfl ?_
      refine w_iadd (Ev.cm _) rfl ?_
      obtain ⟨b1, q⟩ := ois q
      refine w_iald (Ev.cm _) rfl (Nat.le_of_ble_eq_true rfl) rfl (show vp_in ((36 : Int32) + x2) 1541 from vpI 1541 (by decide) b1.1 b1.2) ?_
      refine w_iand (Ev.cm _) rfl ?_
      refine w_istore_n (ls2 := [(0, .ref 331), (1, .int (x1 &&& (I 332 (((36 : Int32) + x2).toNatClampNeg)))), (2, .int x2)]) (Ev.cm _) rfl rfl ?_
      refine w_iinc (ls2 := [(0, .ref 331), (1, .int (x1 &&& (I 332 (((36 : Int32) + x2).toNatClampNeg)))), (2, .int (x2 + 1))]) (Ev.cm _) rfl rfl rfl ?_
      refine w_goto (Ev.cm _) rfl ?_
      show Wp _ _ _ _ _ _ _ 19 [(0, .ref 331), (1, .int (x1 &&& (I 332 (((36 : Int32) + x2).toNatClampNeg)))), (2, .int (x2 + 1))] [] (HS I L X)
      refine Wp.sub [0, 1, 2] (ls2 := [(0, .ref 331), (1, .int (x1 &&& (I 332 (((36 : Int32) + x2).toNatClampNeg)))), (2, .int (x2 + 1))]) rfl ?_
      exact ih _ _ _ _ q
def FO_M_shared (fu : Nat) (I : Nat → Nat → Int32) (L : Nat → Nat → Int64) : Option (Int32 × (Nat → Nat → Int32) × (Nat → Nat → Int64)) := if I 332 0 = 0 then (LO_M_shared_19 fu fu 0 0 I L) else (LO_M_shared_19 fu fu 8190 0 I L)
set_option maxHeartbeats 20000000 in
set_option maxRecDepth 20000 in
theorem eo_M_shared {d fu : Nat} {I : Nat → Nat → Int32} {L : Nat → Nat → Int64} {X : Nat × (Nat → Int32)} {Q : PQ} {res : Int32 × (Nat → Nat → Int32) × (Nat → Nat → Int64)}  (g : Q (some (.int res.1)) (HS res.2.1 res.2.2 X)) (q : FO_M_shared fu  I L = some res) : Ev (d + 1) m_M_shared [.ref 331] (HS I L X) Q := by
  unfold FO_M_shared at q
  refine ev_start (d := d + 0) rfl rfl rfl (Nat.le_of_ble_eq_true rfl) ?_
  show Wp (Ev (d + 0)) cd_M_shared (0, 0) (some .int) _ _ Q 0 [(0, .ref 331)] [] (HS I L X)
  refine w_aload_n (Ev.cm _) rfl rfl ?_
  refine w_getR (q := 332) (Ev.cm _) rfl (Nat.le_of_ble_eq_true rfl) rfl rfl ?_
  refine w_iconst (Ev.cm _) rfl ?_
  refine w_iald (Ev.cm _) rfl (Nat.le_of_ble_eq_true rfl) rfl (show vp_in 0 1541 from vpI 1541 (by decide) (by decide) (by decide)) ?_
  refine w_if_ne (Ev.cm _) rfl (fun c1 => ?_) (fun c1 => ?_)
  · have c1 : ¬ (I 332 0 = 0) := c1
    rw [if_neg c1] at q
    refine w_sipush (Ev.cm _) rfl ?_
    refine w_istore_n (ls2 := [(0, .ref 331), (1, .int 8190)]) (Ev.cm _) rfl rfl ?_
    refine w_iconst (Ev.cm _) rfl ?_
    refine w_istore_n (ls2 := [(0, .ref 331), (1, .int 8190), (2, .int 0)]) (Ev.cm _) rfl rfl ?_
    show Wp _ _ _ _ _ _ _ 19 [(0, .ref 331), (1, .int 8190), (2, .int 0)] [] (HS I L X)
    refine Wp.sub [0, 1, 2] (ls2 := [(0, .ref 331), (1, .int 8190), (2, .int 0)]) rfl ?_
    exact lo_M_shared_19 g fu _ _ _ _ q
  · have c1 : I 332 0 = 0 := c1
    rw [if_pos c1] at q
    refine w_iconst (Ev.cm _) rfl ?_
    refine w_goto (Ev.cm _) rfl ?_
    refine w_istore_n (ls2 := [(0, .ref 331), (1, .int 0)]) (Ev.cm _) rfl rfl ?_
    refine w_iconst (Ev.cm _) rfl ?_
    refine w_istore_n (ls2 := [(0, .ref 331), (1, .int 0), (2, .int 0)]) (Ev.cm _) rfl rfl ?_
    show Wp _ _ _ _ _ _ _ 19 [(0, .ref 331), (1, .int 0), (2, .int 0)] [] (HS I L X)
    refine Wp.sub [0, 1, 2] (ls2 := [(0, .ref 331), (1, .int 0), (2, .int 0)]) rfl ?_
    exact lo_M_shared_19 g fu _ _ _ _ q
def LO_M_which_34 (fu : Nat) (k_16 : Int32 → Int32 → Int32 → Int32 → (Nat → Nat → Int32) → (Nat → Nat → Int64) → Option (Int32 × (Nat → Nat → Int32) × (Nat → Nat → Int64))) : Nat → Int32 → Int32 → Int32 → Int32 → Int32 → Int32 → (Nat → Nat → Int32) → (Nat → Nat → Int64) → Option (Int32 × (Nat → Nat → Int32) × (Nat → Nat → Int64))
  | 0, _, _, _, _, _, _, _, _ => none
  | n + 1, x1, x2, x3, x4, x5, x6, I, L => if x1 ≤ x6 then (if x5 ≤ x1 - x5 then (if x1 - x5 < x3 then (k_16 x1 x4 (x1 - x5) (x4 + 1) I L) else (k_16 x1 x2 x3 (x4 + 1) I L)) else (if x5 < x3 then (k_16 x1 x4 x5 (x4 + 1) I L) else (k_16 x1 x2 x3 (x4 + 1) I L))) else (if 0 ≤ (36 : Int32) + x6 ∧ (36 : Int32) + x6 < 1541 then ((FO_M_has fu (I 332 (((36 : Int32) + x6).toNatClampNeg)) x4 I L).bind (fun u2 => let r2 := u2.1; let I2 := u2.2.1; let L2 := u2.2.2; if r2 = 0 then (LO_M_which_34 fu k_16 n x1 x2 x3 x4 (x5 + 0) (x6 + 1) I2 L2) else (LO_M_which_34 fu k_16 n x1 x2 x3 x4 (x5 + 1) (x6 + 1) I2 L2))) else none)
set_option maxHeartbeats 20000000 in
set_option maxRecDepth 20000 in
theorem lo_M_which_34 {d fu n0 s0 : Nat} {X : Nat × (Nat → Int32)} {Q : PQ} {k_16 : Int32 → Int32 → Int32 → Int32 → (Nat → Nat → Int32) → (Nat → Nat → Int64) → Option (Int32 × (Nat → Nat → Int32) × (Nat → Nat → Int64))} {res : Int32 × (Nat → Nat → Int32) × (Nat → Nat → Int64)}  (g : Q (some (.int res.1)) (HS res.2.1 res.2.2 X)) (hk_16 : ∀ (x1 : Int32) (x2 : Int32) (x3 : Int32) (x4 : Int32) (I : Nat → Nat → Int32) (L : Nat → Nat → Int64), k_16 x1 x2 x3 x4 I L = some res → Wp (Ev (d + 1)) cd_M_which (0, 0) (some .int) n0 s0 Q 16 [(0, .ref 331), (1, .int x1), (2, .int x2), (3, .int x3), (4, .int x4)] [] (HS I L X)) : ∀ (n : Nat) (x1 : Int32) (x2 : Int32) (x3 : Int32) (x4 : Int32) (x5 : Int32) (x6 : Int32) (I : Nat → Nat → Int32) (L : Nat → Nat → Int64), LO_M_which_34 fu k_16 n x1 x2 x3 x4 x5 x6 I L = some res → Wp (Ev (d + 1)) cd_M_which (0, 0) (some .int) n0 s0 Q 34 [(0, .ref 331), (1, .int x1), (2, .int x2), (3, .int x3), (4, .int x4), (5, .int x5), (6, .int x6)] [] (HS I L X) := by
  intro n
  induction n with
  | zero => intro _ _ _ _ _ _ _ _ q; cases q
  | succ n ih =>
    intro x1 x2 x3 x4 x5 x6 I L q
    unfold LO_M_which_34 at q
    refine w_iload (Ev.cm _) rfl rfl ?_
    refine w_iload_n (Ev.cm _) rfl rfl ?_
    refine w_icmp_ge (Ev.cm _) rfl (fun c1 => ?_) (fun c1 => ?_)
    · have c1 : x1 ≤ x6 := c1
      rw [if_pos c1] at q
      refine w_iload (Ev.cm _) rfl rfl ?_
      refine w_iload_n (Ev.cm _) rfl rfl ?_
      refine w_iload (Ev.cm _) rfl rfl ?_
      refine w_isub (Ev.cm _) rfl ?_
      refine w_icmp_le (Ev.cm _) rfl (fun c2 => ?_) (fun c2 => ?_)
      · have c2 : x5 ≤ x1 - x5 := c2
        rw [if_pos c2] at q
        refine w_iload_n (Ev.cm _) rfl rfl ?_
        refine w_iload (Ev.cm _) rfl rfl ?_
        refine w_isub (Ev.cm _) rfl ?_
        refine w_istore (ls2 := [(0, .ref 331), (1, .int x1), (2, .int x2), (3, .int x3), (4, .int x4), (5, .int x5), (6, .int (x1 - x5))]) (Ev.cm _) rfl rfl ?_
        refine w_iload (Ev.cm _) rfl rfl ?_
        refine w_iload_n (Ev.cm _) rfl rfl ?_
        refine w_icmp_lt (Ev.cm _) rfl (fun c3 => ?_) (fun c3 => ?_)
        · have c3 : x1 - x5 < x3 := c3
          rw [if_pos c3] at q
          refine w_iload (Ev.cm _) rfl rfl ?_
          refine w_istore_n (ls2 := [(0, .ref 331), (1, .int x1), (2, .int x2), (3, .int (x1 - x5)), (4, .int x4), (5, .int x5), (6, .int (x1 - x5))]) (Ev.cm _) rfl rfl ?_
          refine w_iload (Ev.cm _) rfl rfl ?_
          refine w_istore_n (ls2 := [(0, .ref 331), (1, .int x1), (2, .int x4), (3, .int (x1 - x5)), (4, .int x4), (5, .int x5), (6, .int (x1 - x5))]) (Ev.cm _) rfl rfl ?_
          refine w_iinc (ls2 := [(0, .ref 331), (1, .int x1), (2, .int x4), (3, .int (x1 - x5)), (4, .int (x4 + 1)), (5, .int x5), (6, .int (x1 - x5))]) (Ev.cm _) rfl rfl rfl ?_
          refine w_goto (Ev.cm _) rfl ?_
          show Wp _ _ _ _ _ _ _ 16 [(0, .ref 331), (1, .int x1), (2, .int x4), (3, .int (x1 - x5)), (4, .int (x4 + 1)), (5, .int x5), (6, .int (x1 - x5))] [] (HS I L X)
          refine Wp.sub [0, 1, 2, 3, 4] (ls2 := [(0, .ref 331), (1, .int x1), (2, .int x4), (3, .int (x1 - x5)), (4, .int (x4 + 1))]) rfl ?_
          exact hk_16 _ _ _ _ _ _ q
        · have c3 : ¬ (x1 - x5 < x3) := c3
          rw [if_neg c3] at q
          refine w_goto (Ev.cm _) rfl ?_
          refine w_iinc (ls2 := [(0, .ref 331), (1, .int x1), (2, .int x2), (3, .int x3), (4, .int (x4 + 1)), (5, .int x5), (6, .int (x1 - x5))]) (Ev.cm _) rfl rfl rfl ?_
          refine w_goto (Ev.cm _) rfl ?_
          show Wp _ _ _ _ _ _ _ 16 [(0, .ref 331), (1, .int x1), (2, .int x2), (3, .int x3), (4, .int (x4 + 1)), (5, .int x5), (6, .int (x1 - x5))] [] (HS I L X)
          refine Wp.sub [0, 1, 2, 3, 4] (ls2 := [(0, .ref 331), (1, .int x1), (2, .int x2), (3, .int x3), (4, .int (x4 + 1))]) rfl ?_
          exact hk_16 _ _ _ _ _ _ q
      · have c2 : ¬ (x5 ≤ x1 - x5) := c2
        rw [if_neg c2] at q
        refine w_iload (Ev.cm _) rfl rfl ?_
        refine w_goto (Ev.cm _) rfl ?_
        refine w_istore (ls2 := [(0, .ref 331), (1, .int x1), (2, .int x2), (3, .int x3), (4, .int x4), (5, .int x5), (6, .int x5)]) (Ev.cm _) rfl rfl ?_
        refine w_iload (Ev.cm _) rfl rfl ?_
        refine w_iload_n (Ev.cm _) rfl rfl ?_
        refine w_icmp_lt (Ev.cm _) rfl (fun c4 => ?_) (fun c4 => ?_)
        · have c4 : x5 < x3 := c4
          rw [if_pos c4] at q
          refine w_iload (Ev.cm _) rfl rfl ?_
          refine w_istore_n (ls2 := [(0, .ref 331), (1, .int x1), (2, .int x2), (3, .int x5), (4, .int x4), (5, .int x5), (6, .int x5)]) (Ev.cm _) rfl rfl ?_
          refine w_iload (Ev.cm _) rfl rfl ?_
          refine w_istore_n (ls2 := [(0, .ref 331), (1, .int x1), (2, .int x4), (3, .int x5), (4, .int x4), (5, .int x5), (6, .int x5)]) (Ev.cm _) rfl rfl ?_
          refine w_iinc (ls2 := [(0, .ref 331), (1, .int x1), (2, .int x4), (3, .int x5), (4, .int (x4 + 1)), (5, .int x5), (6, .int x5)]) (Ev.cm _) rfl rfl rfl ?_
          refine w_goto (Ev.cm _) rfl ?_
          show Wp _ _ _ _ _ _ _ 16 [(0, .ref 331), (1, .int x1), (2, .int x4), (3, .int x5), (4, .int (x4 + 1)), (5, .int x5), (6, .int x5)] [] (HS I L X)
          refine Wp.sub [0, 1, 2, 3, 4] (ls2 := [(0, .ref 331), (1, .int x1), (2, .int x4), (3, .int x5), (4, .int (x4 + 1))]) rfl ?_
          exact hk_16 _ _ _ _ _ _ q
        · have c4 : ¬ (x5 < x3) := c4
          rw [if_neg c4] at q
          refine w_goto (Ev.cm _) rfl ?_
          refine w_iinc (ls2 := [(0, .ref 331), (1, .int x1), (2, .int x2), (3, .int x3), (4, .int (x4 + 1)), (5, .int x5), (6, .int x5)]) (Ev.cm _) rfl rfl rfl ?_
          refine w_goto (Ev.cm _) rfl ?_
          show Wp _ _ _ _ _ _ _ 16 [(0, .ref 331), (1, .int x1), (2, .int x2), (3, .int x3), (4, .int (x4 + 1)), (5, .int x5), (6, .int x5)] [] (HS I L X)
          refine Wp.sub [0, 1, 2, 3, 4] (ls2 := [(0, .ref 331), (1, .int x1), (2, .int x2), (3, .int x3), (4, .int (x4 + 1))]) rfl ?_
          exact hk_16 _ _ _ _ _ _ q
    · have c1 : ¬ (x1 ≤ x6) := c1
      rw [if_neg c1] at q
      refine w_iload (Ev.cm _) rfl rfl ?_
      refine w_aload_n (Ev.cm _) rfl rfl ?_
      refine w_getR (q := 332) (Ev.cm _) rfl (Nat.le_of_ble_eq_true rfl) rfl rfl ?_
      refine w_bipush (Ev.cm _) rfl ?_
      refine w_iload (Ev.cm _) rfl rfl ?_
      refine w_iadd (Ev.cm _) rfl ?_
      obtain ⟨b1, q⟩ := ois q
      refine w_iald (Ev.cm _) rfl (Nat.le_of_ble_eq_true rfl) rfl (show vp_in ((36 : Int32) + x6) 1541 from vpI 1541 (by decide) b1.1 b1.2) ?_
      refine w_iload (Ev.cm _) rfl rfl ?_
      obtain ⟨⟨r2, I2, L2⟩, e2, q⟩ := obs q
      dsimp only at q
      refine w_cstat (as := [.int (I 332 (((36 : Int32) + x6).toNatClampNeg)), .int x4]) (st := [.int x5]) (Ev.cm _) rfl rfl rfl (Nat.le_of_ble_eq_true rfl) (Nat.le_of_ble_eq_true rfl) (eo_M_has (g := ?_) e2)
      show Wp _ _ _ _ _ _ _ 57 [(0, .ref 331), (1, .int x1), (2, .int x2), (3, .int x3), (4, .int x4), (5, .int x5), (6, .int x6)] [.int r2, .int x5] (HS I2 L2 X)
      refine w_if_eq (Ev.cm _) rfl (fun c5 => ?_) (fun c5 => ?_)
      · have c5 : r2 = 0 := c5
        rw [if_pos c5] at q
        refine w_iconst (Ev.cm _) rfl ?_
        refine w_iadd (Ev.cm _) rfl ?_
        refine w_istore (ls2 := [(0, .ref 331), (1, .int x1), (2, .int x2), (3, .int x3), (4, .int x4), (5, .int (x5 + 0)), (6, .int x6)]) (Ev.cm _) rfl rfl ?_
        refine w_iinc (ls2 := [(0, .ref 331), (1, .int x1), (2, .int x2), (3, .int x3), (4, .int x4), (5, .int (x5 + 0)), (6, .int (x6 + 1))]) (Ev.cm _) rfl rfl rfl ?_
        refine w_goto (Ev.cm _) rfl ?_
        show Wp _ _ _ _ _ _ _ 34 [(0, .ref 331), (1, .int x1), (2, .int x2), (3, .int x3), (4, .int x4), (5, .int (x5 + 0)), (6, .int (x6 + 1))] [] (HS I2 L2 X)
        refine Wp.sub [0, 1, 2, 3, 4, 5, 6] (ls2 := [(0, .ref 331), (1, .int x1), (2, .int x2), (3, .int x3), (4, .int x4), (5, .int (x5 + 0)), (6, .int (x6 + 1))]) rfl ?_
        exact ih _ _ _ _ _ _ _ _ q
      · have c5 : ¬ (r2 = 0) := c5
        rw [if_neg c5] at q
        refine w_iconst (Ev.cm _) rfl ?_
        refine w_goto (Ev.cm _) rfl ?_
        refine w_iadd (Ev.cm _) rfl ?_
        refine w_istore (ls2 := [(0, .ref 331), (1, .int x1), (2, .int x2), (3, .int x3), (4, .int x4), (5, .int (x5 + 1)), (6, .int x6)]) (Ev.cm _) rfl rfl ?_
        refine w_iinc (ls2 := [(0, .ref 331), (1, .int x1), (2, .int x2), (3, .int x3), (4, .int x4), (5, .int (x5 + 1)), (6, .int (x6 + 1))]) (Ev.cm _) rfl rfl rfl ?_
        refine w_goto (Ev.cm _) rfl ?_
        show Wp _ _ _ _ _ _ _ 34 [(0, .ref 331), (1, .int x1), (2, .int x2), (3, .int x3), (4, .int x4), (5, .int (x5 + 1)), (6, .int (x6 + 1))] [] (HS I2 L2 X)
        refine Wp.sub [0, 1, 2, 3, 4, 5, 6] (ls2 := [(0, .ref 331), (1, .int x1), (2, .int x2), (3, .int x3), (4, .int x4), (5, .int (x5 + 1)), (6, .int (x6 + 1))]) rfl ?_
        exact ih _ _ _ _ _ _ _ _ q
def LO_M_which_16 (fu : Nat) : Nat → Int32 → Int32 → Int32 → Int32 → (Nat → Nat → Int32) → (Nat → Nat → Int64) → Option (Int32 × (Nat → Nat → Int32) × (Nat → Nat → Int64))
  | 0, _, _, _, _, _, _ => none
  | n + 1, x1, x2, x3, x4, I, L => if 12 < x4 then (some (x2, I, L)) else (if x1 ≤ 1 then (some (x2, I, L)) else (LO_M_which_34 fu (fun x1 x2 x3 x4 I L => LO_M_which_16 fu n x1 x2 x3 x4 I L) fu x1 x2 x3 x4 0 0 I L))
set_option maxHeartbeats 20000000 in
set_option maxRecDepth 20000 in
theorem lo_M_which_16 {d fu n0 s0 : Nat} {X : Nat × (Nat → Int32)} {Q : PQ} {res : Int32 × (Nat → Nat → Int32) × (Nat → Nat → Int64)}  (g : Q (some (.int res.1)) (HS res.2.1 res.2.2 X)) : ∀ (n : Nat) (x1 : Int32) (x2 : Int32) (x3 : Int32) (x4 : Int32) (I : Nat → Nat → Int32) (L : Nat → Nat → Int64), LO_M_which_16 fu n x1 x2 x3 x4 I L = some res → Wp (Ev (d + 1)) cd_M_which (0, 0) (some .int) n0 s0 Q 16 [(0, .ref 331), (1, .int x1), (2, .int x2), (3, .int x3), (4, .int x4)] [] (HS I L X) := by
  intro n
  induction n with
  | zero => intro _ _ _ _ _ _ q; cases q
  | succ n ih =>
    intro x1 x2 x3 x4 I L q
    unfold LO_M_which_16 at q
    refine w_iload (Ev.cm _) rfl rfl ?_
    refine w_bipush (Ev.cm _) rfl ?_
    refine w_icmp_gt (Ev.cm _) rfl (fun c1 => ?_) (fun c1 => ?_)
    · have c1 : 12 < x4 := c1
      rw [if_pos c1] at q
      refine w_iload_n (Ev.cm _) rfl rfl ?_
      refine w_ireturn (Ev.cm _) rfl trivial rf0 ?_
      cases q
      exact g
    · have c1 : ¬ (12 < x4) := c1
      rw [if_neg c1] at q
      refine w_iload_n (Ev.cm _) rfl rfl ?_
      refine w_iconst (Ev.cm _) rfl ?_
      refine w_icmp_le (Ev.cm _) rfl (fun c2 => ?_) (fun c2 => ?_)
      · have c2 : x1 ≤ 1 := c2
        rw [if_pos c2] at q
        refine w_iload_n (Ev.cm _) rfl rfl ?_
        refine w_ireturn (Ev.cm _) rfl trivial rf0 ?_
        cases q
        exact g
      · have c2 : ¬ (x1 ≤ 1) := c2
        rw [if_neg c2] at q
        refine w_iconst (Ev.cm _) rfl ?_
        refine w_istore (ls2 := [(0, .ref 331), (1, .int x1), (2, .int x2), (3, .int x3), (4, .int x4), (5, .int 0)]) (Ev.cm _) rfl rfl ?_
        refine w_iconst (Ev.cm _) rfl ?_
        refine w_istore (ls2 := [(0, .ref 331), (1, .int x1), (2, .int x2), (3, .int x3), (4, .int x4), (5, .int 0), (6, .int 0)]) (Ev.cm _) rfl rfl ?_
        show Wp _ _ _ _ _ _ _ 34 [(0, .ref 331), (1, .int x1), (2, .int x2), (3, .int x3), (4, .int x4), (5, .int 0), (6, .int 0)] [] (HS I L X)
        refine Wp.sub [0, 1, 2, 3, 4, 5, 6] (ls2 := [(0, .ref 331), (1, .int x1), (2, .int x2), (3, .int x3), (4, .int x4), (5, .int 0), (6, .int 0)]) rfl ?_
        exact lo_M_which_34 g (fun x1 x2 x3 x4 I L q => ih x1 x2 x3 x4 I L q) fu _ _ _ _ _ _ _ _ q
def FO_M_which (fu : Nat) (I : Nat → Nat → Int32) (L : Nat → Nat → Int64) : Option (Int32 × (Nat → Nat → Int32) × (Nat → Nat → Int64)) := LO_M_which_16 fu fu (I 332 0) (-1) 1000000 1 I L
set_option maxHeartbeats 20000000 in
set_option maxRecDepth 20000 in
theorem eo_M_which {d fu : Nat} {I : Nat → Nat → Int32} {L : Nat → Nat → Int64} {X : Nat × (Nat → Int32)} {Q : PQ} {res : Int32 × (Nat → Nat → Int32) × (Nat → Nat → Int64)}  (g : Q (some (.int res.1)) (HS res.2.1 res.2.2 X)) (q : FO_M_which fu  I L = some res) : Ev (d + 2) m_M_which [.ref 331] (HS I L X) Q := by
  unfold FO_M_which at q
  refine ev_start (d := d + 1) rfl rfl rfl (Nat.le_of_ble_eq_true rfl) ?_
  show Wp (Ev (d + 1)) cd_M_which (0, 0) (some .int) _ _ Q 0 [(0, .ref 331)] [] (HS I L X)
  refine w_aload_n (Ev.cm _) rfl rfl ?_
  refine w_getR (q := 332) (Ev.cm _) rfl (Nat.le_of_ble_eq_true rfl) rfl rfl ?_
  refine w_iconst (Ev.cm _) rfl ?_
  refine w_iald (Ev.cm _) rfl (Nat.le_of_ble_eq_true rfl) rfl (show vp_in 0 1541 from vpI 1541 (by decide) (by decide) (by decide)) ?_
  refine w_istore_n (ls2 := [(0, .ref 331), (1, .int (I 332 0))]) (Ev.cm _) rfl rfl ?_
  refine w_iconst (Ev.cm _) rfl ?_
  refine w_istore_n (ls2 := [(0, .ref 331), (1, .int (I 332 0)), (2, .int (-1))]) (Ev.cm _) rfl rfl ?_
  refine w_ldc_w (Ev.cm _) rfl ?_
  refine w_istore_n (ls2 := [(0, .ref 331), (1, .int (I 332 0)), (2, .int (-1)), (3, .int 1000000)]) (Ev.cm _) rfl rfl ?_
  refine w_iconst (Ev.cm _) rfl ?_
  refine w_istore (ls2 := [(0, .ref 331), (1, .int (I 332 0)), (2, .int (-1)), (3, .int 1000000), (4, .int 1)]) (Ev.cm _) rfl rfl ?_
  show Wp _ _ _ _ _ _ _ 16 [(0, .ref 331), (1, .int (I 332 0)), (2, .int (-1)), (3, .int 1000000), (4, .int 1)] [] (HS I L X)
  refine Wp.sub [0, 1, 2, 3, 4] (ls2 := [(0, .ref 331), (1, .int (I 332 0)), (2, .int (-1)), (3, .int 1000000), (4, .int 1)]) rfl ?_
  exact lo_M_which_16 g fu _ _ _ _ _ _ q
def FO_M_heavy (fu : Nat) (p0 : Int32) (p1 : Int32) (I : Nat → Nat → Int32) (L : Nat → Nat → Int64) : Option (Int32 × (Nat → Nat → Int32) × (Nat → Nat → Int64)) := if (0 : Int32) ≤ p0 ∧ p0 ≤ (5 : Int32) then (if (1 : Int32) ≤ p1 ∧ p1 ≤ (99 : Int32) then (if 0 ≤ (71 : Int32) + p0 ∧ (71 : Int32) + p0 < 1541 then (some (1, sI I 332 (((71 : Int32) + p0).toNatClampNeg) p1, L)) else none) else (some (0, I, L))) else (some (0, I, L))
set_option maxHeartbeats 20000000 in
set_option maxRecDepth 20000 in
theorem eo_M_heavy {d fu : Nat} {p0 : Int32} {p1 : Int32} {I : Nat → Nat → Int32} {L : Nat → Nat → Int64} {X : Nat × (Nat → Int32)} {Q : PQ} {res : Int32 × (Nat → Nat → Int32) × (Nat → Nat → Int64)}  (g : Q (some (.int res.1)) (HS res.2.1 res.2.2 X)) (q : FO_M_heavy fu p0 p1 I L = some res) : Ev (d + 2) m_M_heavy [.ref 331, .int p0, .int p1] (HS I L X) Q := by
  unfold FO_M_heavy at q
  refine ev_start (d := d + 1) rfl rfl rfl (Nat.le_of_ble_eq_true rfl) ?_
  show Wp (Ev (d + 1)) cd_M_heavy (0, 0) (some .boolean) _ _ Q 0 [(0, .ref 331), (1, .int p0), (2, .int p1)] [] (HS I L X)
  refine w_iload_n (Ev.cm _) rfl rfl ?_
  refine w_iconst (Ev.cm _) rfl ?_
  refine w_iconst (Ev.cm _) rfl ?_
  refine w_cstat (as := [.int p0, .int 0, .int 5]) (st := []) (Ev.cm _) rfl rfl rfl (Nat.le_of_ble_eq_true rfl) (Nat.le_of_ble_eq_true rfl) (m_isIn ?_)
  show Wp _ _ _ _ _ _ _ 6 [(0, .ref 331), (1, .int p0), (2, .int p1)] [.int (bI ((0 : Int32) ≤ p0 ∧ p0 ≤ (5 : Int32)))] (HS I L X)
  refine w_if_eq (Ev.cm _) rfl (fun c1 => ?_) (fun c1 => ?_)
  · have c1 : ¬ ((0 : Int32) ≤ p0 ∧ p0 ≤ (5 : Int32)) := bI_0.mp c1
    rw [if_neg c1] at q
    refine w_iconst (Ev.cm _) rfl ?_
    refine w_ireturn (Ev.cm _) rfl (by first | exact rok_0 | exact rok_1 | exact rok_b) rf0 ?_
    cases q
    exact g
  · have c1 : (0 : Int32) ≤ p0 ∧ p0 ≤ (5 : Int32) := bI_1.mp c1
    rw [if_pos c1] at q
    refine w_iload_n (Ev.cm _) rfl rfl ?_
    refine w_iconst (Ev.cm _) rfl ?_
    refine w_bipush (Ev.cm _) rfl ?_
    refine w_cstat (as := [.int p1, .int 1, .int 99]) (st := []) (Ev.cm _) rfl rfl rfl (Nat.le_of_ble_eq_true rfl) (Nat.le_of_ble_eq_true rfl) (m_isIn ?_)
    show Wp _ _ _ _ _ _ _ 16 [(0, .ref 331), (1, .int p0), (2, .int p1)] [.int (bI ((1 : Int32) ≤ p1 ∧ p1 ≤ (99 : Int32)))] (HS I L X)
    refine w_if_ne (Ev.cm _) rfl (fun c2 => ?_) (fun c2 => ?_)
    · have c2 : (1 : Int32) ≤ p1 ∧ p1 ≤ (99 : Int32) := bI_1.mp c2
      rw [if_pos c2] at q
      refine w_aload_n (Ev.cm _) rfl rfl ?_
      refine w_getR (q := 332) (Ev.cm _) rfl (Nat.le_of_ble_eq_true rfl) rfl rfl ?_
      refine w_bipush (Ev.cm _) rfl ?_
      refine w_iload_n (Ev.cm _) rfl rfl ?_
      refine w_iadd (Ev.cm _) rfl ?_
      refine w_iload_n (Ev.cm _) rfl rfl ?_
      obtain ⟨b1, q⟩ := ois q
      refine w_iast (Ev.cm _) rfl (Nat.le_of_ble_eq_true rfl) rfl (show vp_in ((71 : Int32) + p0) 1541 from vpI 1541 (by decide) b1.1 b1.2) ?_
      refine w_iconst (Ev.cm _) rfl ?_
      refine w_ireturn (Ev.cm _) rfl (by first | exact rok_0 | exact rok_1 | exact rok_b) rf0 ?_
      cases q
      exact g
    · have c2 : ¬ ((1 : Int32) ≤ p1 ∧ p1 ≤ (99 : Int32)) := bI_0.mp c2
      rw [if_neg c2] at q
      refine w_iconst (Ev.cm _) rfl ?_
      refine w_ireturn (Ev.cm _) rfl (by first | exact rok_0 | exact rok_1 | exact rok_b) rf0 ?_
      cases q
      exact g
def LO_M_lightest_4 (fu : Nat) : Nat → Int32 → Int32 → Int32 → (Nat → Nat → Int32) → (Nat → Nat → Int64) → Option (Int32 × (Nat → Nat → Int32) × (Nat → Nat → Int64))
  | 0, _, _, _, _, _ => none
  | n + 1, x1, x2, x3, I, L => if x1 ≤ x3 then (if 0 ≤ x2 ∧ x2 < 6 then (if 0 ≤ x1 - 1 ∧ x1 - 1 < 6 then (if 0 ≤ x2 ∧ x2 < 6 then (some (I 348 x2.toNatClampNeg, sI I 348 x2.toNatClampNeg (I 348 ((x1 - 1).toNatClampNeg)), L)) else none) else none) else none) else (if 0 ≤ x3 ∧ x3 < 6 then (if 0 ≤ x2 ∧ x2 < 6 then (if I 348 x2.toNatClampNeg ≤ I 348 x3.toNatClampNeg then (LO_M_lightest_4 fu n x1 x2 (x3 + 1) I L) else (LO_M_lightest_4 fu n x1 x3 (x3 + 1) I L)) else none) else none)
set_option maxHeartbeats 20000000 in
set_option maxRecDepth 20000 in
theorem lo_M_lightest_4 {d fu n0 s0 : Nat} {X : Nat × (Nat → Int32)} {Q : PQ} {res : Int32 × (Nat → Nat → Int32) × (Nat → Nat → Int64)}  (g : Q (some (.int res.1)) (HS res.2.1 res.2.2 X)) : ∀ (n : Nat) (x1 : Int32) (x2 : Int32) (x3 : Int32) (I : Nat → Nat → Int32) (L : Nat → Nat → Int64), LO_M_lightest_4 fu n x1 x2 x3 I L = some res → Wp (Ev (d + 0)) cd_M_lightest (0, 0) (some .int) n0 s0 Q 4 [(0, .ref 331), (1, .int x1), (2, .int x2), (3, .int x3)] [] (HS I L X) := by
  intro n
  induction n with
  | zero => intro _ _ _ _ _ q; cases q
  | succ n ih =>
    intro x1 x2 x3 I L q
    unfold LO_M_lightest_4 at q
    refine w_iload_n (Ev.cm _) rfl rfl ?_
    refine w_iload_n (Ev.cm _) rfl rfl ?_
    refine w_icmp_ge (Ev.cm _) rfl (fun c1 => ?_) (fun c1 => ?_)
    · have c1 : x1 ≤ x3 := c1
      rw [if_pos c1] at q
      refine w_aload_n (Ev.cm _) rfl rfl ?_
      refine w_getR (q := 348) (Ev.cm _) rfl (Nat.le_of_ble_eq_true rfl) rfl rfl ?_
      refine w_iload_n (Ev.cm _) rfl rfl ?_
      obtain ⟨b1, q⟩ := ois q
      refine w_iald (Ev.cm _) rfl (Nat.le_of_ble_eq_true rfl) rfl (show vp_in x2 6 from vpI 6 (by decide) b1.1 b1.2) ?_
      refine w_istore_n (ls2 := [(0, .ref 331), (1, .int x1), (2, .int x2), (3, .int (I 348 x2.toNatClampNeg))]) (Ev.cm _) rfl rfl ?_
      refine w_aload_n (Ev.cm _) rfl rfl ?_
      refine w_getR (q := 348) (Ev.cm _) rfl (Nat.le_of_ble_eq_true rfl) rfl rfl ?_
      refine w_iload_n (Ev.cm _) rfl rfl ?_
      refine w_aload_n (Ev.cm _) rfl rfl ?_
      refine w_getR (q := 348) (Ev.cm _) rfl (Nat.le_of_ble_eq_true rfl) rfl rfl ?_
      refine w_iload_n (Ev.cm _) rfl rfl ?_
      refine w_iconst (Ev.cm _) rfl ?_
      refine w_isub (Ev.cm _) rfl ?_
      obtain ⟨b2, q⟩ := ois q
      refine w_iald (Ev.cm _) rfl (Nat.le_of_ble_eq_true rfl) rfl (show vp_in (x1 - 1) 6 from vpI 6 (by decide) b2.1 b2.2) ?_
      obtain ⟨b3, q⟩ := ois q
      refine w_iast (Ev.cm _) rfl (Nat.le_of_ble_eq_true rfl) rfl (show vp_in x2 6 from vpI 6 (by decide) b3.1 b3.2) ?_
      refine w_iload_n (Ev.cm _) rfl rfl ?_
      refine w_ireturn (Ev.cm _) rfl trivial rf0 ?_
      cases q
      exact g
    · have c1 : ¬ (x1 ≤ x3) := c1
      rw [if_neg c1] at q
      refine w_aload_n (Ev.cm _) rfl rfl ?_
      refine w_getR (q := 348) (Ev.cm _) rfl (Nat.le_of_ble_eq_true rfl) rfl rfl ?_
      refine w_iload_n (Ev.cm _) rfl rfl ?_
      obtain ⟨b4, q⟩ := ois q
      refine w_iald (Ev.cm _) rfl (Nat.le_of_ble_eq_true rfl) rfl (show vp_in x3 6 from vpI 6 (by decide) b4.1 b4.2) ?_
      refine w_aload_n (Ev.cm _) rfl rfl ?_
      refine w_getR (q := 348) (Ev.cm _) rfl (Nat.le_of_ble_eq_true rfl) rfl rfl ?_
      refine w_iload_n (Ev.cm _) rfl rfl ?_
      obtain ⟨b5, q⟩ := ois q
      refine w_iald (Ev.cm _) rfl (Nat.le_of_ble_eq_true rfl) rfl (show vp_in x2 6 from vpI 6 (by decide) b5.1 b5.2) ?_
      refine w_icmp_ge (Ev.cm _) rfl (fun c2 => ?_) (fun c2 => ?_)
      · have c2 : I 348 x2.toNatClampNeg ≤ I 348 x3.toNatClampNeg := c2
        rw [if_pos c2] at q
        refine w_iinc (ls2 := [(0, .ref 331), (1, .int x1), (2, .int x2), (3, .int (x3 + 1))]) (Ev.cm _) rfl rfl rfl ?_
        refine w_goto (Ev.cm _) rfl ?_
        show Wp _ _ _ _ _ _ _ 4 [(0, .ref 331), (1, .int x1), (2, .int x2), (3, .int (x3 + 1))] [] (HS I L X)
        refine Wp.sub [0, 1, 2, 3] (ls2 := [(0, .ref 331), (1, .int x1), (2, .int x2), (3, .int (x3 + 1))]) rfl ?_
        exact ih _ _ _ _ _ q
      · have c2 : ¬ (I 348 x2.toNatClampNeg ≤ I 348 x3.toNatClampNeg) := c2
        rw [if_neg c2] at q
        refine w_iload_n (Ev.cm _) rfl rfl ?_
        refine w_istore_n (ls2 := [(0, .ref 331), (1, .int x1), (2, .int x3), (3, .int x3)]) (Ev.cm _) rfl rfl ?_
        refine w_iinc (ls2 := [(0, .ref 331), (1, .int x1), (2, .int x3), (3, .int (x3 + 1))]) (Ev.cm _) rfl rfl rfl ?_
        refine w_goto (Ev.cm _) rfl ?_
        show Wp _ _ _ _ _ _ _ 4 [(0, .ref 331), (1, .int x1), (2, .int x3), (3, .int (x3 + 1))] [] (HS I L X)
        refine Wp.sub [0, 1, 2, 3] (ls2 := [(0, .ref 331), (1, .int x1), (2, .int x3), (3, .int (x3 + 1))]) rfl ?_
        exact ih _ _ _ _ _ q
def FO_M_lightest (fu : Nat) (p0 : Int32) (I : Nat → Nat → Int32) (L : Nat → Nat → Int64) : Option (Int32 × (Nat → Nat → Int32) × (Nat → Nat → Int64)) := LO_M_lightest_4 fu fu p0 0 1 I L
set_option maxHeartbeats 20000000 in
set_option maxRecDepth 20000 in
theorem eo_M_lightest {d fu : Nat} {p0 : Int32} {I : Nat → Nat → Int32} {L : Nat → Nat → Int64} {X : Nat × (Nat → Int32)} {Q : PQ} {res : Int32 × (Nat → Nat → Int32) × (Nat → Nat → Int64)}  (g : Q (some (.int res.1)) (HS res.2.1 res.2.2 X)) (q : FO_M_lightest fu p0 I L = some res) : Ev (d + 1) m_M_lightest [.ref 331, .int p0] (HS I L X) Q := by
  unfold FO_M_lightest at q
  refine ev_start (d := d + 0) rfl rfl rfl (Nat.le_of_ble_eq_true rfl) ?_
  show Wp (Ev (d + 0)) cd_M_lightest (0, 0) (some .int) _ _ Q 0 [(0, .ref 331), (1, .int p0)] [] (HS I L X)
  refine w_iconst (Ev.cm _) rfl ?_
  refine w_istore_n (ls2 := [(0, .ref 331), (1, .int p0), (2, .int 0)]) (Ev.cm _) rfl rfl ?_
  refine w_iconst (Ev.cm _) rfl ?_
  refine w_istore_n (ls2 := [(0, .ref 331), (1, .int p0), (2, .int 0), (3, .int 1)]) (Ev.cm _) rfl rfl ?_
  show Wp _ _ _ _ _ _ _ 4 [(0, .ref 331), (1, .int p0), (2, .int 0), (3, .int 1)] [] (HS I L X)
  refine Wp.sub [0, 1, 2, 3] (ls2 := [(0, .ref 331), (1, .int p0), (2, .int 0), (3, .int 1)]) rfl ?_
  exact lo_M_lightest_4 g fu _ _ _ _ _ q
def LO_M_cheapest_44 (fu : Nat) : Nat → Int32 → Int32 → Int32 → (Nat → Nat → Int32) → (Nat → Nat → Int64) → Option (Int32 × (Nat → Nat → Int32) × (Nat → Nat → Int64))
  | 0, _, _, _, _, _ => none
  | n + 1, x1, x2, x3, I, L => if x3 ≤ 1 then (some (x2, I, L)) else ((FO_M_lightest fu x3 I L).bind (fun u1 => let r1 := u1.1; let I1 := u1.2.1; let L1 := u1.2.2; (FO_M_lightest fu (x3 - 1) I1 L1).bind (fun u2 => let r2 := u2.1; let I2 := u2.2.1; let L2 := u2.2.2; if 0 ≤ x3 - 2 ∧ x3 - 2 < 6 then (LO_M_cheapest_44 fu n x1 (x2 + (r1 + r2)) (x3 + (-1)) (sI I2 348 ((x3 - 2).toNatClampNeg) (r1 + r2)) L2) else none)))
set_option maxHeartbeats 20000000 in
set_option maxRecDepth 20000 in
theorem lo_M_cheapest_44 {d fu n0 s0 : Nat} {X : Nat × (Nat → Int32)} {Q : PQ} {res : Int32 × (Nat → Nat → Int32) × (Nat → Nat → Int64)}  (g : Q (some (.int res.1)) (HS res.2.1 res.2.2 X)) : ∀ (n : Nat) (x1 : Int32) (x2 : Int32) (x3 : Int32) (I : Nat → Nat → Int32) (L : Nat → Nat → Int64), LO_M_cheapest_44 fu n x1 x2 x3 I L = some res → Wp (Ev (d + 1)) cd_M_cheapest (0, 0) (some .int) n0 s0 Q 44 [(0, .ref 331), (1, .int x1), (2, .int x2), (3, .int x3)] [] (HS I L X) := by
  intro n
  induction n with
  | zero => intro _ _ _ _ _ q; cases q
  | succ n ih =>
    intro x1 x2 x3 I L q
    unfold LO_M_cheapest_44 at q
    refine w_iload_n (Ev.cm _) rfl rfl ?_
    refine w_iconst (Ev.cm _) rfl ?_
    refine w_icmp_le (Ev.cm _) rfl (fun c1 => ?_) (fun c1 => ?_)
    · have c1 : x3 ≤ 1 := c1
      rw [if_pos c1] at q
      refine w_iload_n (Ev.cm _) rfl rfl ?_
      refine w_ireturn (Ev.cm _) rfl trivial rf0 ?_
      cases q
      exact g
    · have c1 : ¬ (x3 ≤ 1) := c1
      rw [if_neg c1] at q
      refine w_aload_n (Ev.cm _) rfl rfl ?_
      refine w_iload_n (Ev.cm _) rfl rfl ?_
      obtain ⟨⟨r1, I1, L1⟩, e1, q⟩ := obs q
      dsimp only at q
      refine w_cvirt (o := 331) (as := [.int x3]) (st := []) (Ev.cm _) rfl rfl rfl (Nat.le_of_ble_eq_true rfl) (Nat.le_of_ble_eq_true rfl) rfl (Nat.le_of_ble_eq_true rfl) (eo_M_lightest (g := ?_) e1)
      show Wp _ _ _ _ _ _ _ 54 [(0, .ref 331), (1, .int x1), (2, .int x2), (3, .int x3)] [.int r1] (HS I1 L1 X)
      refine w_istore (ls2 := [(0, .ref 331), (1, .int x1), (2, .int x2), (3, .int x3), (4, .int r1)]) (Ev.cm _) rfl rfl ?_
      refine w_iload (Ev.cm _) rfl rfl ?_
      refine w_aload_n (Ev.cm _) rfl rfl ?_
      refine w_iload_n (Ev.cm _) rfl rfl ?_
      refine w_iconst (Ev.cm _) rfl ?_
      refine w_isub (Ev.cm _) rfl ?_
      obtain ⟨⟨r2, I2, L2⟩, e2, q⟩ := obs q
      dsimp only at q
      refine w_cvirt (o := 331) (as := [.int (x3 - 1)]) (st := [.int r1]) (Ev.cm _) rfl rfl rfl (Nat.le_of_ble_eq_true rfl) (Nat.le_of_ble_eq_true rfl) rfl (Nat.le_of_ble_eq_true rfl) (eo_M_lightest (g := ?_) e2)
      show Wp _ _ _ _ _ _ _ 65 [(0, .ref 331), (1, .int x1), (2, .int x2), (3, .int x3), (4, .int r1)] [.int r2, .int r1] (HS I2 L2 X)
      refine w_iadd (Ev.cm _) rfl ?_
      refine w_istore (ls2 := [(0, .ref 331), (1, .int x1), (2, .int x2), (3, .int x3), (4, .int (r1 + r2))]) (Ev.cm _) rfl rfl ?_
      refine w_iload_n (Ev.cm _) rfl rfl ?_
      refine w_iload (Ev.cm _) rfl rfl ?_
      refine w_iadd (Ev.cm _) rfl ?_
      refine w_istore_n (ls2 := [(0, .ref 331), (1, .int x1), (2, .int (x2 + (r1 + r2))), (3, .int x3), (4, .int (r1 + r2))]) (Ev.cm _) rfl rfl ?_
      refine w_aload_n (Ev.cm _) rfl rfl ?_
      refine w_getR (q := 348) (Ev.cm _) rfl (Nat.le_of_ble_eq_true rfl) rfl rfl ?_
      refine w_iload_n (Ev.cm _) rfl rfl ?_
      refine w_iconst (Ev.cm _) rfl ?_
      refine w_isub (Ev.cm _) rfl ?_
      refine w_iload (Ev.cm _) rfl rfl ?_
      obtain ⟨b3, q⟩ := ois q
      refine w_iast (Ev.cm _) rfl (Nat.le_of_ble_eq_true rfl) rfl (show vp_in (x3 - 2) 6 from vpI 6 (by decide) b3.1 b3.2) ?_
      refine w_iinc (ls2 := [(0, .ref 331), (1, .int x1), (2, .int (x2 + (r1 + r2))), (3, .int (x3 + (-1))), (4, .int (r1 + r2))]) (Ev.cm _) rfl rfl rfl ?_
      refine w_goto (Ev.cm _) rfl ?_
      show Wp _ _ _ _ _ _ _ 44 [(0, .ref 331), (1, .int x1), (2, .int (x2 + (r1 + r2))), (3, .int (x3 + (-1))), (4, .int (r1 + r2))] [] (HS (sI I2 348 ((x3 - 2).toNatClampNeg) (r1 + r2)) L2 X)
      refine Wp.sub [0, 1, 2, 3] (ls2 := [(0, .ref 331), (1, .int x1), (2, .int (x2 + (r1 + r2))), (3, .int (x3 + (-1)))]) rfl ?_
      exact ih _ _ _ _ _ q
def LO_M_cheapest_14 (fu : Nat) : Nat → Int32 → Int32 → (Nat → Nat → Int32) → (Nat → Nat → Int64) → Option (Int32 × (Nat → Nat → Int32) × (Nat → Nat → Int64))
  | 0, _, _, _, _ => none
  | n + 1, x1, x2, I, L => if x1 ≤ x2 then (LO_M_cheapest_44 fu fu x1 0 x1 I L) else (if 0 ≤ (71 : Int32) + x2 ∧ (71 : Int32) + x2 < 1541 then (if 0 ≤ x2 ∧ x2 < 6 then (LO_M_cheapest_14 fu n x1 (x2 + 1) (sI I 348 x2.toNatClampNeg (I 332 (((71 : Int32) + x2).toNatClampNeg))) L) else none) else none)
set_option maxHeartbeats 20000000 in
set_option maxRecDepth 20000 in
theorem lo_M_cheapest_14 {d fu n0 s0 : Nat} {X : Nat × (Nat → Int32)} {Q : PQ} {res : Int32 × (Nat → Nat → Int32) × (Nat → Nat → Int64)}  (g : Q (some (.int res.1)) (HS res.2.1 res.2.2 X)) : ∀ (n : Nat) (x1 : Int32) (x2 : Int32) (I : Nat → Nat → Int32) (L : Nat → Nat → Int64), LO_M_cheapest_14 fu n x1 x2 I L = some res → Wp (Ev (d + 1)) cd_M_cheapest (0, 0) (some .int) n0 s0 Q 14 [(0, .ref 331), (1, .int x1), (2, .int x2)] [] (HS I L X) := by
  intro n
  induction n with
  | zero => intro _ _ _ _ q; cases q
  | succ n ih =>
    intro x1 x2 I L q
    unfold LO_M_cheapest_14 at q
    refine w_iload_n (Ev.cm _) rfl rfl ?_
    refine w_iload_n (Ev.cm _) rfl rfl ?_
    refine w_icmp_ge (Ev.cm _) rfl (fun c1 => ?_) (fun c1 => ?_)
    · have c1 : x1 ≤ x2 := c1
      rw [if_pos c1] at q
      refine w_iconst (Ev.cm _) rfl ?_
      refine w_istore_n (ls2 := [(0, .ref 331), (1, .int x1), (2, .int 0)]) (Ev.cm _) rfl rfl ?_
      refine w_iload_n (Ev.cm _) rfl rfl ?_
      refine w_istore_n (ls2 := [(0, .ref 331), (1, .int x1), (2, .int 0), (3, .int x1)]) (Ev.cm _) rfl rfl ?_
      show Wp _ _ _ _ _ _ _ 44 [(0, .ref 331), (1, .int x1), (2, .int 0), (3, .int x1)] [] (HS I L X)
      refine Wp.sub [0, 1, 2, 3] (ls2 := [(0, .ref 331), (1, .int x1), (2, .int 0), (3, .int x1)]) rfl ?_
      exact lo_M_cheapest_44 g fu _ _ _ _ _ q
    · have c1 : ¬ (x1 ≤ x2) := c1
      rw [if_neg c1] at q
      refine w_aload_n (Ev.cm _) rfl rfl ?_
      refine w_getR (q := 348) (Ev.cm _) rfl (Nat.le_of_ble_eq_true rfl) rfl rfl ?_
      refine w_iload_n (Ev.cm _) rfl rfl ?_
      refine w_aload_n (Ev.cm _) rfl rfl ?_
      refine w_getR (q := 332) (Ev.cm _) rfl (Nat.le_of_ble_eq_true rfl) rfl rfl ?_
      refine w_bipush (Ev.cm _) rfl ?_
      refine w_iload_n (Ev.cm _) rfl rfl ?_
      refine w_iadd (Ev.cm _) rfl ?_
      obtain ⟨b1, q⟩ := ois q
      refine w_iald (Ev.cm _) rfl (Nat.le_of_ble_eq_true rfl) rfl (show vp_in ((71 : Int32) + x2) 1541 from vpI 1541 (by decide) b1.1 b1.2) ?_
      obtain ⟨b2, q⟩ := ois q
      refine w_iast (Ev.cm _) rfl (Nat.le_of_ble_eq_true rfl) rfl (show vp_in x2 6 from vpI 6 (by decide) b2.1 b2.2) ?_
      refine w_iinc (ls2 := [(0, .ref 331), (1, .int x1), (2, .int (x2 + 1))]) (Ev.cm _) rfl rfl rfl ?_
      refine w_goto (Ev.cm _) rfl ?_
      show Wp _ _ _ _ _ _ _ 14 [(0, .ref 331), (1, .int x1), (2, .int (x2 + 1))] [] (HS (sI I 348 x2.toNatClampNeg (I 332 (((71 : Int32) + x2).toNatClampNeg))) L X)
      refine Wp.sub [0, 1, 2] (ls2 := [(0, .ref 331), (1, .int x1), (2, .int (x2 + 1))]) rfl ?_
      exact ih _ _ _ _ q
def FO_M_cheapest (fu : Nat) (p0 : Int32) (I : Nat → Nat → Int32) (L : Nat → Nat → Int64) : Option (Int32 × (Nat → Nat → Int32) × (Nat → Nat → Int64)) := if (1 : Int32) ≤ p0 ∧ p0 ≤ (6 : Int32) then (LO_M_cheapest_14 fu fu p0 0 I L) else (some ((-1), I, L))
set_option maxHeartbeats 20000000 in
set_option maxRecDepth 20000 in
theorem eo_M_cheapest {d fu : Nat} {p0 : Int32} {I : Nat → Nat → Int32} {L : Nat → Nat → Int64} {X : Nat × (Nat → Int32)} {Q : PQ} {res : Int32 × (Nat → Nat → Int32) × (Nat → Nat → Int64)}  (g : Q (some (.int res.1)) (HS res.2.1 res.2.2 X)) (q : FO_M_cheapest fu p0 I L = some res) : Ev (d + 2) m_M_cheapest [.ref 331, .int p0] (HS I L X) Q := by
  unfold FO_M_cheapest at q
  refine ev_start (d := d + 1) rfl rfl rfl (Nat.le_of_ble_eq_true rfl) ?_
  show Wp (Ev (d + 1)) cd_M_cheapest (0, 0) (some .int) _ _ Q 0 [(0, .ref 331), (1, .int p0)] [] (HS I L X)
  refine w_iload_n (Ev.cm _) rfl rfl ?_
  refine w_iconst (Ev.cm _) rfl ?_
  refine w_bipush (Ev.cm _) rfl ?_
  refine w_cstat (as := [.int p0, .int 1, .int 6]) (st := []) (Ev.cm _) rfl rfl rfl (Nat.le_of_ble_eq_true rfl) (Nat.le_of_ble_eq_true rfl) (m_isIn ?_)
  show Wp _ _ _ _ _ _ _ 7 [(0, .ref 331), (1, .int p0)] [.int (bI ((1 : Int32) ≤ p0 ∧ p0 ≤ (6 : Int32)))] (HS I L X)
  refine w_if_ne (Ev.cm _) rfl (fun c1 => ?_) (fun c1 => ?_)
  · have c1 : (1 : Int32) ≤ p0 ∧ p0 ≤ (6 : Int32) := bI_1.mp c1
    rw [if_pos c1] at q
    refine w_iconst (Ev.cm _) rfl ?_
    refine w_istore_n (ls2 := [(0, .ref 331), (1, .int p0), (2, .int 0)]) (Ev.cm _) rfl rfl ?_
    show Wp _ _ _ _ _ _ _ 14 [(0, .ref 331), (1, .int p0), (2, .int 0)] [] (HS I L X)
    refine Wp.sub [0, 1, 2] (ls2 := [(0, .ref 331), (1, .int p0), (2, .int 0)]) rfl ?_
    exact lo_M_cheapest_14 g fu _ _ _ _ q
  · have c1 : ¬ ((1 : Int32) ≤ p0 ∧ p0 ≤ (6 : Int32)) := bI_0.mp c1
    rw [if_neg c1] at q
    refine w_iconst (Ev.cm _) rfl ?_
    refine w_ireturn (Ev.cm _) rfl trivial rf0 ?_
    cases q
    exact g
def FO_M_said (fu : Nat) (p0 : Int32) (p1 : Int32) (p2 : Int32) (I : Nat → Nat → Int32) (L : Nat → Nat → Int64) : Option (Int32 × (Nat → Nat → Int32) × (Nat → Nat → Int64)) := if p0 = (-1) then (some (0, sI I 332 6 0, L)) else (if F_M_isLodger I p0 = 0 then (some ((-2), I, L)) else (if 1 ≤ p1 ∧ p1 ≤ 12 then (if (0 : Int32) ≤ p2 ∧ p2 ≤ (99 : Int32) then (if I 332 6 = 8 then (some ((-2), I, L)) else (if 0 ≤ (77 : Int32) + ((3 : Int32) * (I 332 6)) ∧ (77 : Int32) + ((3 : Int32) * (I 332 6)) < 1541 then (if 0 ≤ ((77 : Int32) + ((3 : Int32) * (I 332 6))) + 1 ∧ ((77 : Int32) + ((3 : Int32) * (I 332 6))) + 1 < 1541 then (if 0 ≤ ((77 : Int32) + ((3 : Int32) * (I 332 6))) + 2 ∧ ((77 : Int32) + ((3 : Int32) * (I 332 6))) + 2 < 1541 then (some (((sI (sI (sI I 332 (((77 : Int32) + ((3 : Int32) * (I 332 6))).toNatClampNeg) p0) 332 ((((77 : Int32) + ((3 : Int32) * (I 332 6))) + 1).toNatClampNeg) p1) 332 ((((77 : Int32) + ((3 : Int32) * (I 332 6))) + 2).toNatClampNeg) p2) 332 6) + 1, sI (sI (sI (sI I 332 (((77 : Int32) + ((3 : Int32) * (I 332 6))).toNatClampNeg) p0) 332 ((((77 : Int32) + ((3 : Int32) * (I 332 6))) + 1).toNatClampNeg) p1) 332 ((((77 : Int32) + ((3 : Int32) * (I 332 6))) + 2).toNatClampNeg) p2) 332 6 (((sI (sI (sI I 332 (((77 : Int32) + ((3 : Int32) * (I 332 6))).toNatClampNeg) p0) 332 ((((77 : Int32) + ((3 : Int32) * (I 332 6))) + 1).toNatClampNeg) p1) 332 ((((77 : Int32) + ((3 : Int32) * (I 332 6))) + 2).toNatClampNeg) p2) 332 6) + 1), L)) else none) else none) else none)) else (some ((-2), I, L))) else (some ((-2), I, L))))
set_option maxHeartbeats 20000000 in
set_option maxRecDepth 20000 in
theorem eo_M_said {d fu : Nat} {p0 : Int32} {p1 : Int32} {p2 : Int32} {I : Nat → Nat → Int32} {L : Nat → Nat → Int64} {X : Nat × (Nat → Int32)} {Q : PQ} {res : Int32 × (Nat → Nat → Int32) × (Nat → Nat → Int64)}  (g : Q (some (.int res.1)) (HS res.2.1 res.2.2 X)) (q : FO_M_said fu p0 p1 p2 I L = some res) : Ev (d + 3) m_M_said [.ref 331, .int p0, .int p1, .int p2] (HS I L X) Q := by
  unfold FO_M_said at q
  refine ev_start (d := d + 2) rfl rfl rfl (Nat.le_of_ble_eq_true rfl) ?_
  show Wp (Ev (d + 2)) cd_M_said (0, 0) (some .int) _ _ Q 0 [(0, .ref 331), (1, .int p0), (2, .int p1), (3, .int p2)] [] (HS I L X)
  refine w_iload_n (Ev.cm _) rfl rfl ?_
  refine w_iconst (Ev.cm _) rfl ?_
  refine w_icmp_ne (Ev.cm _) rfl (fun c1 => ?_) (fun c1 => ?_)
  · have c1 : ¬ (p0 = (-1)) := c1
    rw [if_neg c1] at q
    refine w_aload_n (Ev.cm _) rfl rfl ?_
    refine w_iload_n (Ev.cm _) rfl rfl ?_
    refine w_cvirt (o := 331) (as := [.int p0]) (st := []) (Ev.cm _) rfl rfl rfl (Nat.le_of_ble_eq_true rfl) (Nat.le_of_ble_eq_true rfl) rfl (Nat.le_of_ble_eq_true rfl) (e_M_isLodger ?_)
    show Wp _ _ _ _ _ _ _ 20 [(0, .ref 331), (1, .int p0), (2, .int p1), (3, .int p2)] [.int (F_M_isLodger I p0)] (HS I L X)
    refine w_if_eq (Ev.cm _) rfl (fun c2 => ?_) (fun c2 => ?_)
    · have c2 : F_M_isLodger I p0 = 0 := c2
      rw [if_pos c2] at q
      refine w_bipush (Ev.cm _) rfl ?_
      refine w_ireturn (Ev.cm _) rfl trivial rf0 ?_
      cases q
      exact g
    · have c2 : ¬ (F_M_isLodger I p0 = 0) := c2
      rw [if_neg c2] at q
      refine w_iload_n (Ev.cm _) rfl rfl ?_
      refine w_cstat (as := [.int p1]) (st := []) (Ev.cm _) rfl rfl rfl (Nat.le_of_ble_eq_true rfl) (Nat.le_of_ble_eq_true rfl) (m_isStair ?_)
      show Wp _ _ _ _ _ _ _ 27 [(0, .ref 331), (1, .int p0), (2, .int p1), (3, .int p2)] [.int (bI (1 ≤ p1 ∧ p1 ≤ 12))] (HS I L X)
      refine w_if_eq (Ev.cm _) rfl (fun c3 => ?_) (fun c3 => ?_)
      · have c3 : ¬ (1 ≤ p1 ∧ p1 ≤ 12) := bI_0.mp c3
        rw [if_neg c3] at q
        refine w_bipush (Ev.cm _) rfl ?_
        refine w_ireturn (Ev.cm _) rfl trivial rf0 ?_
        cases q
        exact g
      · have c3 : 1 ≤ p1 ∧ p1 ≤ 12 := bI_1.mp c3
        rw [if_pos c3] at q
        refine w_iload_n (Ev.cm _) rfl rfl ?_
        refine w_iconst (Ev.cm _) rfl ?_
        refine w_bipush (Ev.cm _) rfl ?_
        refine w_cstat (as := [.int p2, .int 0, .int 99]) (st := []) (Ev.cm _) rfl rfl rfl (Nat.le_of_ble_eq_true rfl) (Nat.le_of_ble_eq_true rfl) (m_isIn ?_)
        show Wp _ _ _ _ _ _ _ 37 [(0, .ref 331), (1, .int p0), (2, .int p1), (3, .int p2)] [.int (bI ((0 : Int32) ≤ p2 ∧ p2 ≤ (99 : Int32)))] (HS I L X)
        refine w_if_eq (Ev.cm _) rfl (fun c4 => ?_) (fun c4 => ?_)
        · have c4 : ¬ ((0 : Int32) ≤ p2 ∧ p2 ≤ (99 : Int32)) := bI_0.mp c4
          rw [if_neg c4] at q
          refine w_bipush (Ev.cm _) rfl ?_
          refine w_ireturn (Ev.cm _) rfl trivial rf0 ?_
          cases q
          exact g
        · have c4 : (0 : Int32) ≤ p2 ∧ p2 ≤ (99 : Int32) := bI_1.mp c4
          rw [if_pos c4] at q
          refine w_aload_n (Ev.cm _) rfl rfl ?_
          refine w_getR (q := 332) (Ev.cm _) rfl (Nat.le_of_ble_eq_true rfl) rfl rfl ?_
          refine w_bipush (Ev.cm _) rfl ?_
          refine w_iald (Ev.cm _) rfl (Nat.le_of_ble_eq_true rfl) rfl (show vp_in 6 1541 from vpI 1541 (by decide) (by decide) (by decide)) ?_
          refine w_bipush (Ev.cm _) rfl ?_
          refine w_icmp_ne (Ev.cm _) rfl (fun c5 => ?_) (fun c5 => ?_)
          · have c5 : ¬ (I 332 6 = 8) := c5
            rw [if_neg c5] at q
            refine w_bipush (Ev.cm _) rfl ?_
            refine w_iconst (Ev.cm _) rfl ?_
            refine w_aload_n (Ev.cm _) rfl rfl ?_
            refine w_getR (q := 332) (Ev.cm _) rfl (Nat.le_of_ble_eq_true rfl) rfl rfl ?_
            refine w_bipush (Ev.cm _) rfl ?_
            refine w_iald (Ev.cm _) rfl (Nat.le_of_ble_eq_true rfl) rfl (show vp_in 6 1541 from vpI 1541 (by decide) (by decide) (by decide)) ?_
            refine w_imul (Ev.cm _) rfl ?_
            refine w_iadd (Ev.cm _) rfl ?_
            refine w_istore (ls2 := [(0, .ref 331), (1, .int p0), (2, .int p1), (3, .int p2), (4, .int ((77 : Int32) + ((3 : Int32) * (I 332 6))))]) (Ev.cm _) rfl rfl ?_
            refine w_aload_n (Ev.cm _) rfl rfl ?_
            refine w_getR (q := 332) (Ev.cm _) rfl (Nat.le_of_ble_eq_true rfl) rfl rfl ?_
            refine w_iload (Ev.cm _) rfl rfl ?_
            refine w_iload_n (Ev.cm _) rfl rfl ?_
            obtain ⟨b1, q⟩ := ois q
            refine w_iast (Ev.cm _) rfl (Nat.le_of_ble_eq_true rfl) rfl (show vp_in ((77 : Int32) + ((3 : Int32) * (I 332 6))) 1541 from vpI 1541 (by decide) b1.1 b1.2) ?_
            refine w_aload_n (Ev.cm _) rfl rfl ?_
            refine w_getR (q := 332) (Ev.cm _) rfl (Nat.le_of_ble_eq_true rfl) rfl rfl ?_
            refine w_iload (Ev.cm _) rfl rfl ?_
            refine w_iconst (Ev.cm _) rfl ?_
            refine w_iadd (Ev.cm _) rfl ?_
            refine w_iload_n (Ev.cm _) rfl rfl ?_
            obtain ⟨b2, q⟩ := ois q
            refine w_iast (Ev.cm _) rfl (Nat.le_of_ble_eq_true rfl) rfl (show vp_in (((77 : Int32) + ((3 : Int32) * (I 332 6))) + 1) 1541 from vpI 1541 (by decide) b2.1 b2.2) ?_
            refine w_aload_n (Ev.cm _) rfl rfl ?_
            refine w_getR (q := 332) (Ev.cm _) rfl (Nat.le_of_ble_eq_true rfl) rfl rfl ?_
            refine w_iload (Ev.cm _) rfl rfl ?_
            refine w_iconst (Ev.cm _) rfl ?_
            refine w_iadd (Ev.cm _) rfl ?_
            refine w_iload_n (Ev.cm _) rfl rfl ?_
            obtain ⟨b3, q⟩ := ois q
            refine w_iast (Ev.cm _) rfl (Nat.le_of_ble_eq_true rfl) rfl (show vp_in (((77 : Int32) + ((3 : Int32) * (I 332 6))) + 2) 1541 from vpI 1541 (by decide) b3.1 b3.2) ?_
            refine w_aload_n (Ev.cm _) rfl rfl ?_
            refine w_getR (q := 332) (Ev.cm _) rfl (Nat.le_of_ble_eq_true rfl) rfl rfl ?_
            refine w_bipush (Ev.cm _) rfl ?_
            refine w_dup2 (Ev.cm _) rfl rfl rfl ?_
            refine w_iald (Ev.cm _) rfl (Nat.le_of_ble_eq_true rfl) rfl (show vp_in 6 1541 from vpI 1541 (by decide) (by decide) (by decide)) ?_
            refine w_iconst (Ev.cm _) rfl ?_
            refine w_iadd (Ev.cm _) rfl ?_
            refine w_iast (Ev.cm _) rfl (Nat.le_of_ble_eq_true rfl) rfl (show vp_in 6 1541 from vpI 1541 (by decide) (by decide) (by decide)) ?_
            refine w_aload_n (Ev.cm _) rfl rfl ?_
            refine w_getR (q := 332) (Ev.cm _) rfl (Nat.le_of_ble_eq_true rfl) rfl rfl ?_
            refine w_bipush (Ev.cm _) rfl ?_
            refine w_iald (Ev.cm _) rfl (Nat.le_of_ble_eq_true rfl) rfl (show vp_in 6 1541 from vpI 1541 (by decide) (by decide) (by decide)) ?_
            refine w_ireturn (Ev.cm _) rfl trivial rf0 ?_
            cases q
            exact g
          · have c5 : I 332 6 = 8 := c5
            rw [if_pos c5] at q
            refine w_bipush (Ev.cm _) rfl ?_
            refine w_ireturn (Ev.cm _) rfl trivial rf0 ?_
            cases q
            exact g
  · have c1 : p0 = (-1) := c1
    rw [if_pos c1] at q
    refine w_aload_n (Ev.cm _) rfl rfl ?_
    refine w_getR (q := 332) (Ev.cm _) rfl (Nat.le_of_ble_eq_true rfl) rfl rfl ?_
    refine w_bipush (Ev.cm _) rfl ?_
    refine w_iconst (Ev.cm _) rfl ?_
    refine w_iast (Ev.cm _) rfl (Nat.le_of_ble_eq_true rfl) rfl (show vp_in 6 1541 from vpI 1541 (by decide) (by decide) (by decide)) ?_
    refine w_iconst (Ev.cm _) rfl ?_
    refine w_ireturn (Ev.cm _) rfl trivial rf0 ?_
    cases q
    exact g
def LO_M_whose_20 (fu : Nat) (k_4 : Int32 → Int32 → (Nat → Nat → Int32) → (Nat → Nat → Int64) → Option (Int32 × (Nat → Nat → Int32) × (Nat → Nat → Int64))) : Nat → Int32 → Int32 → Int32 → Int32 → (Nat → Nat → Int32) → (Nat → Nat → Int64) → Option (Int32 × (Nat → Nat → Int32) × (Nat → Nat → Int64))
  | 0, _, _, _, _, _, _ => none
  | n + 1, x1, x2, x3, x4, I, L => if (77 : Int32) + ((3 : Int32) * (I 332 6)) ≤ x4 then (if x3 = 0 then (k_4 (x1 ||| 0) (x2 + 1) I L) else (k_4 (x1 ||| ((1 : Int32) <<< (x2 &&& 31))) (x2 + 1) I L)) else (if x3 = 0 then (LO_M_whose_20 fu k_4 n x1 x2 0 (x4 + 3) I L) else (if 0 ≤ x4 ∧ x4 < 1541 then (if 0 ≤ x4 + 1 ∧ x4 + 1 < 1541 then ((FO_M_ticksOf fu x2 (I 332 x4.toNatClampNeg) (I 332 ((x4 + 1).toNatClampNeg)) 1 I L).bind (fun u3 => let r3 := u3.1; let I3 := u3.2.1; let L3 := u3.2.2; if 0 ≤ x4 + 2 ∧ x4 + 2 < 1541 then (if r3 = I3 332 ((x4 + 2).toNatClampNeg) then (LO_M_whose_20 fu k_4 n x1 x2 1 (x4 + 3) I3 L3) else (LO_M_whose_20 fu k_4 n x1 x2 0 (x4 + 3) I3 L3)) else none)) else none) else none))
set_option maxHeartbeats 20000000 in
set_option maxRecDepth 20000 in
theorem lo_M_whose_20 {d fu n0 s0 : Nat} {X : Nat × (Nat → Int32)} {Q : PQ} {k_4 : Int32 → Int32 → (Nat → Nat → Int32) → (Nat → Nat → Int64) → Option (Int32 × (Nat → Nat → Int32) × (Nat → Nat → Int64))} {res : Int32 × (Nat → Nat → Int32) × (Nat → Nat → Int64)}  (g : Q (some (.int res.1)) (HS res.2.1 res.2.2 X)) (hk_4 : ∀ (x1 : Int32) (x2 : Int32) (I : Nat → Nat → Int32) (L : Nat → Nat → Int64), k_4 x1 x2 I L = some res → Wp (Ev (d + 7)) cd_M_whose (0, 0) (some .int) n0 s0 Q 4 [(0, .ref 331), (1, .int x1), (2, .int x2)] [] (HS I L X)) : ∀ (n : Nat) (x1 : Int32) (x2 : Int32) (x3 : Int32) (x4 : Int32) (I : Nat → Nat → Int32) (L : Nat → Nat → Int64), LO_M_whose_20 fu k_4 n x1 x2 x3 x4 I L = some res → Wp (Ev (d + 7)) cd_M_whose (0, 0) (some .int) n0 s0 Q 20 [(0, .ref 331), (1, .int x1), (2, .int x2), (3, .int x3), (4, .int x4)] [] (HS I L X) := by
  intro n
  induction n with
  | zero => intro _ _ _ _ _ _ q; cases q
  | succ n ih =>
    intro x1 x2 x3 x4 I L q
    unfold LO_M_whose_20 at q
    refine w_iload (Ev.cm _) rfl rfl ?_
    refine w_bipush (Ev.cm _) rfl ?_
    refine w_iconst (Ev.cm _) rfl ?_
    refine w_aload_n (Ev.cm _) rfl rfl ?_
    refine w_getR (q := 332) (Ev.cm _) rfl (Nat.le_of_ble_eq_true rfl) rfl rfl ?_
    refine w_bipush (Ev.cm _) rfl ?_
    refine w_iald (Ev.cm _) rfl (Nat.le_of_ble_eq_true rfl) rfl (show vp_in 6 1541 from vpI 1541 (by decide) (by decide) (by decide)) ?_
    refine w_imul (Ev.cm _) rfl ?_
    refine w_iadd (Ev.cm _) rfl ?_
    refine w_icmp_ge (Ev.cm _) rfl (fun c1 => ?_) (fun c1 => ?_)
    · have c1 : (77 : Int32) + ((3 : Int32) * (I 332 6)) ≤ x4 := c1
      rw [if_pos c1] at q
      refine w_iload_n (Ev.cm _) rfl rfl ?_
      refine w_iload_n (Ev.cm _) rfl rfl ?_
      refine w_if_eq (Ev.cm _) rfl (fun c2 => ?_) (fun c2 => ?_)
      · have c2 : x3 = 0 := c2
        rw [if_pos c2] at q
        refine w_iconst (Ev.cm _) rfl ?_
        refine w_ior (Ev.cm _) rfl ?_
        refine w_istore_n (ls2 := [(0, .ref 331), (1, .int (x1 ||| 0)), (2, .int x2), (3, .int x3), (4, .int x4)]) (Ev.cm _) rfl rfl ?_
        refine w_iinc (ls2 := [(0, .ref 331), (1, .int (x1 ||| 0)), (2, .int (x2 + 1)), (3, .int x3), (4, .int x4)]) (Ev.cm _) rfl rfl rfl ?_
        refine w_goto (Ev.cm _) rfl ?_
        show Wp _ _ _ _ _ _ _ 4 [(0, .ref 331), (1, .int (x1 ||| 0)), (2, .int (x2 + 1)), (3, .int x3), (4, .int x4)] [] (HS I L X)
        refine Wp.sub [0, 1, 2] (ls2 := [(0, .ref 331), (1, .int (x1 ||| 0)), (2, .int (x2 + 1))]) rfl ?_
        exact hk_4 _ _ _ _ q
      · have c2 : ¬ (x3 = 0) := c2
        rw [if_neg c2] at q
        refine w_iconst (Ev.cm _) rfl ?_
        refine w_iload_n (Ev.cm _) rfl rfl ?_
        refine w_ishl (Ev.cm _) rfl ?_
        refine w_goto (Ev.cm _) rfl ?_
        refine w_ior (Ev.cm _) rfl ?_
        refine w_istore_n (ls2 := [(0, .ref 331), (1, .int (x1 ||| ((1 : Int32) <<< (x2 &&& 31)))), (2, .int x2), (3, .int x3), (4, .int x4)]) (Ev.cm _) rfl rfl ?_
        refine w_iinc (ls2 := [(0, .ref 331), (1, .int (x1 ||| ((1 : Int32) <<< (x2 &&& 31)))), (2, .int (x2 + 1)), (3, .int x3), (4, .int x4)]) (Ev.cm _) rfl rfl rfl ?_
        refine w_goto (Ev.cm _) rfl ?_
        show Wp _ _ _ _ _ _ _ 4 [(0, .ref 331), (1, .int (x1 ||| ((1 : Int32) <<< (x2 &&& 31)))), (2, .int (x2 + 1)), (3, .int x3), (4, .int x4)] [] (HS I L X)
        refine Wp.sub [0, 1, 2] (ls2 := [(0, .ref 331), (1, .int (x1 ||| ((1 : Int32) <<< (x2 &&& 31)))), (2, .int (x2 + 1))]) rfl ?_
        exact hk_4 _ _ _ _ q
    · have c1 : ¬ ((77 : Int32) + ((3 : Int32) * (I 332 6)) ≤ x4) := c1
      rw [if_neg c1] at q
      refine w_iload_n (Ev.cm _) rfl rfl ?_
      refine w_if_eq (Ev.cm _) rfl (fun c3 => ?_) (fun c3 => ?_)
      · have c3 : x3 = 0 := c3
        rw [if_pos c3] at q
        refine w_iconst (Ev.cm _) rfl ?_
        refine w_istore_n (ls2 := [(0, .ref 331), (1, .int x1), (2, .int x2), (3, .int 0), (4, .int x4)]) (Ev.cm _) rfl rfl ?_
        refine w_iinc (ls2 := [(0, .ref 331), (1, .int x1), (2, .int x2), (3, .int 0), (4, .int (x4 + 3))]) (Ev.cm _) rfl rfl rfl ?_
        refine w_goto (Ev.cm _) rfl ?_
        show Wp _ _ _ _ _ _ _ 20 [(0, .ref 331), (1, .int x1), (2, .int x2), (3, .int 0), (4, .int (x4 + 3))] [] (HS I L X)
        refine Wp.sub [0, 1, 2, 3, 4] (ls2 := [(0, .ref 331), (1, .int x1), (2, .int x2), (3, .int 0), (4, .int (x4 + 3))]) rfl ?_
        exact ih _ _ _ _ _ _ q
      · have c3 : ¬ (x3 = 0) := c3
        rw [if_neg c3] at q
        refine w_aload_n (Ev.cm _) rfl rfl ?_
        refine w_iload_n (Ev.cm _) rfl rfl ?_
        refine w_aload_n (Ev.cm _) rfl rfl ?_
        refine w_getR (q := 332) (Ev.cm _) rfl (Nat.le_of_ble_eq_true rfl) rfl rfl ?_
        refine w_iload (Ev.cm _) rfl rfl ?_
        obtain ⟨b1, q⟩ := ois q
        refine w_iald (Ev.cm _) rfl (Nat.le_of_ble_eq_true rfl) rfl (show vp_in x4 1541 from vpI 1541 (by decide) b1.1 b1.2) ?_
        refine w_aload_n (Ev.cm _) rfl rfl ?_
        refine w_getR (q := 332) (Ev.cm _) rfl (Nat.le_of_ble_eq_true rfl) rfl rfl ?_
        refine w_iload (Ev.cm _) rfl rfl ?_
        refine w_iconst (Ev.cm _) rfl ?_
        refine w_iadd (Ev.cm _) rfl ?_
        obtain ⟨b2, q⟩ := ois q
        refine w_iald (Ev.cm _) rfl (Nat.le_of_ble_eq_true rfl) rfl (show vp_in (x4 + 1) 1541 from vpI 1541 (by decide) b2.1 b2.2) ?_
        refine w_iconst (Ev.cm _) rfl ?_
        obtain ⟨⟨r3, I3, L3⟩, e3, q⟩ := obs q
        dsimp only at q
        refine w_cvirt (o := 331) (as := [.int x2, .int (I 332 x4.toNatClampNeg), .int (I 332 ((x4 + 1).toNatClampNeg)), .int 1]) (st := []) (Ev.cm _) rfl rfl rfl (Nat.le_of_ble_eq_true rfl) (Nat.le_of_ble_eq_true rfl) rfl (Nat.le_of_ble_eq_true rfl) (eo_M_ticksOf (g := ?_) e3)
        show Wp _ _ _ _ _ _ _ 63 [(0, .ref 331), (1, .int x1), (2, .int x2), (3, .int x3), (4, .int x4)] [.int r3] (HS I3 L3 X)
        refine w_aload_n (Ev.cm _) rfl rfl ?_
        refine w_getR (q := 332) (Ev.cm _) rfl (Nat.le_of_ble_eq_true rfl) rfl rfl ?_
        refine w_iload (Ev.cm _) rfl rfl ?_
        refine w_iconst (Ev.cm _) rfl ?_
        refine w_iadd (Ev.cm _) rfl ?_
        obtain ⟨b4, q⟩ := ois q
        refine w_iald (Ev.cm _) rfl (Nat.le_of_ble_eq_true rfl) rfl (show vp_in (x4 + 2) 1541 from vpI 1541 (by decide) b4.1 b4.2) ?_
        refine w_icmp_ne (Ev.cm _) rfl (fun c4 => ?_) (fun c4 => ?_)
        · have c4 : ¬ (r3 = I3 332 ((x4 + 2).toNatClampNeg)) := c4
          rw [if_neg c4] at q
          refine w_iconst (Ev.cm _) rfl ?_
          refine w_istore_n (ls2 := [(0, .ref 331), (1, .int x1), (2, .int x2), (3, .int 0), (4, .int x4)]) (Ev.cm _) rfl rfl ?_
          refine w_iinc (ls2 := [(0, .ref 331), (1, .int x1), (2, .int x2), (3, .int 0), (4, .int (x4 + 3))]) (Ev.cm _) rfl rfl rfl ?_
          refine w_goto (Ev.cm _) rfl ?_
          show Wp _ _ _ _ _ _ _ 20 [(0, .ref 331), (1, .int x1), (2, .int x2), (3, .int 0), (4, .int (x4 + 3))] [] (HS I3 L3 X)
          refine Wp.sub [0, 1, 2, 3, 4] (ls2 := [(0, .ref 331), (1, .int x1), (2, .int x2), (3, .int 0), (4, .int (x4 + 3))]) rfl ?_
          exact ih _ _ _ _ _ _ q
        · have c4 : r3 = I3 332 ((x4 + 2).toNatClampNeg) := c4
          rw [if_pos c4] at q
          refine w_iconst (Ev.cm _) rfl ?_
          refine w_goto (Ev.cm _) rfl ?_
          refine w_istore_n (ls2 := [(0, .ref 331), (1, .int x1), (2, .int x2), (3, .int 1), (4, .int x4)]) (Ev.cm _) rfl rfl ?_
          refine w_iinc (ls2 := [(0, .ref 331), (1, .int x1), (2, .int x2), (3, .int 1), (4, .int (x4 + 3))]) (Ev.cm _) rfl rfl rfl ?_
          refine w_goto (Ev.cm _) rfl ?_
          show Wp _ _ _ _ _ _ _ 20 [(0, .ref 331), (1, .int x1), (2, .int x2), (3, .int 1), (4, .int (x4 + 3))] [] (HS I3 L3 X)
          refine Wp.sub [0, 1, 2, 3, 4] (ls2 := [(0, .ref 331), (1, .int x1), (2, .int x2), (3, .int 1), (4, .int (x4 + 3))]) rfl ?_
          exact ih _ _ _ _ _ _ q
def LO_M_whose_4 (fu : Nat) : Nat → Int32 → Int32 → (Nat → Nat → Int32) → (Nat → Nat → Int64) → Option (Int32 × (Nat → Nat → Int32) × (Nat → Nat → Int64))
  | 0, _, _, _, _ => none
  | n + 1, x1, x2, I, L => if I 332 1 ≤ x2 then (some (x1, I, L)) else (LO_M_whose_20 fu (fun x1 x2 I L => LO_M_whose_4 fu n x1 x2 I L) fu x1 x2 1 77 I L)
set_option maxHeartbeats 20000000 in
set_option maxRecDepth 20000 in
theorem lo_M_whose_4 {d fu n0 s0 : Nat} {X : Nat × (Nat → Int32)} {Q : PQ} {res : Int32 × (Nat → Nat → Int32) × (Nat → Nat → Int64)}  (g : Q (some (.int res.1)) (HS res.2.1 res.2.2 X)) : ∀ (n : Nat) (x1 : Int32) (x2 : Int32) (I : Nat → Nat → Int32) (L : Nat → Nat → Int64), LO_M_whose_4 fu n x1 x2 I L = some res → Wp (Ev (d + 7)) cd_M_whose (0, 0) (some .int) n0 s0 Q 4 [(0, .ref 331), (1, .int x1), (2, .int x2)] [] (HS I L X) := by
  intro n
  induction n with
  | zero => intro _ _ _ _ q; cases q
  | succ n ih =>
    intro x1 x2 I L q
    unfold LO_M_whose_4 at q
    refine w_iload_n (Ev.cm _) rfl rfl ?_
    refine w_aload_n (Ev.cm _) rfl rfl ?_
    refine w_getR (q := 332) (Ev.cm _) rfl (Nat.le_of_ble_eq_true rfl) rfl rfl ?_
    refine w_iconst (Ev.cm _) rfl ?_
    refine w_iald (Ev.cm _) rfl (Nat.le_of_ble_eq_true rfl) rfl (show vp_in 1 1541 from vpI 1541 (by decide) (by decide) (by decide)) ?_
    refine w_icmp_ge (Ev.cm _) rfl (fun c1 => ?_) (fun c1 => ?_)
    · have c1 : I 332 1 ≤ x2 := c1
      rw [if_pos c1] at q
      refine w_iload_n (Ev.cm _) rfl rfl ?_
      refine w_ireturn (Ev.cm _) rfl trivial rf0 ?_
      cases q
      exact g
    · have c1 : ¬ (I 332 1 ≤ x2) := c1
      rw [if_neg c1] at q
      refine w_iconst (Ev.cm _) rfl ?_
      refine w_istore_n (ls2 := [(0, .ref 331), (1, .int x1), (2, .int x2), (3, .int 1)]) (Ev.cm _) rfl rfl ?_
      refine w_bipush (Ev.cm _) rfl ?_
      refine w_istore (ls2 := [(0, .ref 331), (1, .int x1), (2, .int x2), (3, .int 1), (4, .int 77)]) (Ev.cm _) rfl rfl ?_
      show Wp _ _ _ _ _ _ _ 20 [(0, .ref 331), (1, .int x1), (2, .int x2), (3, .int 1), (4, .int 77)] [] (HS I L X)
      refine Wp.sub [0, 1, 2, 3, 4] (ls2 := [(0, .ref 331), (1, .int x1), (2, .int x2), (3, .int 1), (4, .int 77)]) rfl ?_
      exact lo_M_whose_20 g (fun x1 x2 I L q => ih x1 x2 I L q) fu _ _ _ _ _ _ q
def FO_M_whose (fu : Nat) (I : Nat → Nat → Int32) (L : Nat → Nat → Int64) : Option (Int32 × (Nat → Nat → Int32) × (Nat → Nat → Int64)) := LO_M_whose_4 fu fu 0 0 I L
set_option maxHeartbeats 20000000 in
set_option maxRecDepth 20000 in
theorem eo_M_whose {d fu : Nat} {I : Nat → Nat → Int32} {L : Nat → Nat → Int64} {X : Nat × (Nat → Int32)} {Q : PQ} {res : Int32 × (Nat → Nat → Int32) × (Nat → Nat → Int64)}  (g : Q (some (.int res.1)) (HS res.2.1 res.2.2 X)) (q : FO_M_whose fu  I L = some res) : Ev (d + 8) m_M_whose [.ref 331] (HS I L X) Q := by
  unfold FO_M_whose at q
  refine ev_start (d := d + 7) rfl rfl rfl (Nat.le_of_ble_eq_true rfl) ?_
  show Wp (Ev (d + 7)) cd_M_whose (0, 0) (some .int) _ _ Q 0 [(0, .ref 331)] [] (HS I L X)
  refine w_iconst (Ev.cm _) rfl ?_
  refine w_istore_n (ls2 := [(0, .ref 331), (1, .int 0)]) (Ev.cm _) rfl rfl ?_
  refine w_iconst (Ev.cm _) rfl ?_
  refine w_istore_n (ls2 := [(0, .ref 331), (1, .int 0), (2, .int 0)]) (Ev.cm _) rfl rfl ?_
  show Wp _ _ _ _ _ _ _ 4 [(0, .ref 331), (1, .int 0), (2, .int 0)] [] (HS I L X)
  refine Wp.sub [0, 1, 2] (ls2 := [(0, .ref 331), (1, .int 0), (2, .int 0)]) rfl ?_
  exact lo_M_whose_4 g fu _ _ _ _ q
def FO_M_image (fu : Nat) (I : Nat → Nat → Int32) (L : Nat → Nat → Int64) : Option (Int32 × (Nat → Nat → Int32) × (Nat → Nat → Int64)) := (FO_M_copy_332 fu  I L).bind (fun u1 => let r1 := u1.1; let I1 := u1.2.1; let L1 := u1.2.2; some (I1 332 7, I1, L1))
set_option maxHeartbeats 20000000 in
set_option maxRecDepth 20000 in
theorem eo_M_image {d fu : Nat} {I : Nat → Nat → Int32} {L : Nat → Nat → Int64} {X : Nat × (Nat → Int32)} {Q : PQ} {res : Int32 × (Nat → Nat → Int32) × (Nat → Nat → Int64)}  (g : Q (some (.int res.1)) (HS res.2.1 res.2.2 X)) (q : FO_M_image fu  I L = some res) : Ev (d + 2) m_M_image [.ref 331] (HS I L X) Q := by
  unfold FO_M_image at q
  refine ev_start (d := d + 1) rfl rfl rfl (Nat.le_of_ble_eq_true rfl) ?_
  show Wp (Ev (d + 1)) cd_M_image (0, 0) (some .int) _ _ Q 0 [(0, .ref 331)] [] (HS I L X)
  refine w_aload_n (Ev.cm _) rfl rfl ?_
  refine w_getR (q := 332) (Ev.cm _) rfl (Nat.le_of_ble_eq_true rfl) rfl rfl ?_
  refine w_aload_n (Ev.cm _) rfl rfl ?_
  refine w_getR (q := 333) (Ev.cm _) rfl (Nat.le_of_ble_eq_true rfl) rfl rfl ?_
  obtain ⟨⟨r1, I1, L1⟩, e1, q⟩ := obs q
  dsimp only at q
  refine w_cstat (as := [.ref 332, .ref 333]) (st := []) (Ev.cm _) rfl rfl rfl (Nat.le_of_ble_eq_true rfl) (Nat.le_of_ble_eq_true rfl) (eo_M_copy_332 (g := ?_) e1)
  show Wp _ _ _ _ _ _ _ 11 [(0, .ref 331)] [] (HS I1 L1 X)
  refine w_aload_n (Ev.cm _) rfl rfl ?_
  refine w_getR (q := 332) (Ev.cm _) rfl (Nat.le_of_ble_eq_true rfl) rfl rfl ?_
  refine w_bipush (Ev.cm _) rfl ?_
  refine w_iald (Ev.cm _) rfl (Nat.le_of_ble_eq_true rfl) rfl (show vp_in 7 1541 from vpI 1541 (by decide) (by decide) (by decide)) ?_
  refine w_ireturn (Ev.cm _) rfl trivial rf0 ?_
  cases q
  exact g
def FO_M_back (fu : Nat) (I : Nat → Nat → Int32) (L : Nat → Nat → Int64) : Option (Int32 × (Nat → Nat → Int32) × (Nat → Nat → Int64)) := (FO_M_copy_333 fu  I L).bind (fun u1 => let r1 := u1.1; let I1 := u1.2.1; let L1 := u1.2.2; some (I1 332 7, I1, L1))
set_option maxHeartbeats 20000000 in
set_option maxRecDepth 20000 in
theorem eo_M_back {d fu : Nat} {I : Nat → Nat → Int32} {L : Nat → Nat → Int64} {X : Nat × (Nat → Int32)} {Q : PQ} {res : Int32 × (Nat → Nat → Int32) × (Nat → Nat → Int64)}  (g : Q (some (.int res.1)) (HS res.2.1 res.2.2 X)) (q : FO_M_back fu  I L = some res) : Ev (d + 2) m_M_back [.ref 331] (HS I L X) Q := by
  unfold FO_M_back at q
  refine ev_start (d := d + 1) rfl rfl rfl (Nat.le_of_ble_eq_true rfl) ?_
  show Wp (Ev (d + 1)) cd_M_back (0, 0) (some .int) _ _ Q 0 [(0, .ref 331)] [] (HS I L X)
  refine w_aload_n (Ev.cm _) rfl rfl ?_
  refine w_getR (q := 333) (Ev.cm _) rfl (Nat.le_of_ble_eq_true rfl) rfl rfl ?_
  refine w_aload_n (Ev.cm _) rfl rfl ?_
  refine w_getR (q := 332) (Ev.cm _) rfl (Nat.le_of_ble_eq_true rfl) rfl rfl ?_
  obtain ⟨⟨r1, I1, L1⟩, e1, q⟩ := obs q
  dsimp only at q
  refine w_cstat (as := [.ref 333, .ref 332]) (st := []) (Ev.cm _) rfl rfl rfl (Nat.le_of_ble_eq_true rfl) (Nat.le_of_ble_eq_true rfl) (eo_M_copy_333 (g := ?_) e1)
  show Wp _ _ _ _ _ _ _ 11 [(0, .ref 331)] [] (HS I1 L1 X)
  refine w_aload_n (Ev.cm _) rfl rfl ?_
  refine w_getR (q := 332) (Ev.cm _) rfl (Nat.le_of_ble_eq_true rfl) rfl rfl ?_
  refine w_bipush (Ev.cm _) rfl ?_
  refine w_iald (Ev.cm _) rfl (Nat.le_of_ble_eq_true rfl) rfl (show vp_in 7 1541 from vpI 1541 (by decide) (by decide) (by decide)) ?_
  refine w_ireturn (Ev.cm _) rfl trivial rf0 ?_
  cases q
  exact g
def FO_M_about (fu : Nat) (p0 : Int32) (I : Nat → Nat → Int32) (L : Nat → Nat → Int64) : Option (Int32 × (Nat → Nat → Int32) × (Nat → Nat → Int64)) := if (0 : Int32) ≤ p0 ∧ p0 ≤ (6 : Int32) then (if 0 ≤ p0 ∧ p0 < 1541 then (some (I 332 p0.toNatClampNeg, I, L)) else none) else (if p0 = 7 then (some (I 331 4, I, L)) else (some ((-2), I, L)))
set_option maxHeartbeats 20000000 in
set_option maxRecDepth 20000 in
theorem eo_M_about {d fu : Nat} {p0 : Int32} {I : Nat → Nat → Int32} {L : Nat → Nat → Int64} {X : Nat × (Nat → Int32)} {Q : PQ} {res : Int32 × (Nat → Nat → Int32) × (Nat → Nat → Int64)}  (g : Q (some (.int res.1)) (HS res.2.1 res.2.2 X)) (q : FO_M_about fu p0 I L = some res) : Ev (d + 2) m_M_about [.ref 331, .int p0] (HS I L X) Q := by
  unfold FO_M_about at q
  refine ev_start (d := d + 1) rfl rfl rfl (Nat.le_of_ble_eq_true rfl) ?_
  show Wp (Ev (d + 1)) cd_M_about (0, 0) (some .int) _ _ Q 0 [(0, .ref 331), (1, .int p0)] [] (HS I L X)
  refine w_iload_n (Ev.cm _) rfl rfl ?_
  refine w_iconst (Ev.cm _) rfl ?_
  refine w_bipush (Ev.cm _) rfl ?_
  refine w_cstat (as := [.int p0, .int 0, .int 6]) (st := []) (Ev.cm _) rfl rfl rfl (Nat.le_of_ble_eq_true rfl) (Nat.le_of_ble_eq_true rfl) (m_isIn ?_)
  show Wp _ _ _ _ _ _ _ 7 [(0, .ref 331), (1, .int p0)] [.int (bI ((0 : Int32) ≤ p0 ∧ p0 ≤ (6 : Int32)))] (HS I L X)
  refine w_if_eq (Ev.cm _) rfl (fun c1 => ?_) (fun c1 => ?_)
  · have c1 : ¬ ((0 : Int32) ≤ p0 ∧ p0 ≤ (6 : Int32)) := bI_0.mp c1
    rw [if_neg c1] at q
    refine w_iload_n (Ev.cm _) rfl rfl ?_
    refine w_bipush (Ev.cm _) rfl ?_
    refine w_icmp_ne (Ev.cm _) rfl (fun c2 => ?_) (fun c2 => ?_)
    · have c2 : ¬ (p0 = 7) := c2
      rw [if_neg c2] at q
      refine w_bipush (Ev.cm _) rfl ?_
      refine w_ireturn (Ev.cm _) rfl trivial rf0 ?_
      cases q
      exact g
    · have c2 : p0 = 7 := c2
      rw [if_pos c2] at q
      refine w_aload_n (Ev.cm _) rfl rfl ?_
      refine w_getI (Ev.cm _) rfl (Nat.le_of_ble_eq_true rfl) rfl ?_
      refine w_goto (Ev.cm _) rfl ?_
      refine w_ireturn (Ev.cm _) rfl trivial rf0 ?_
      cases q
      exact g
  · have c1 : (0 : Int32) ≤ p0 ∧ p0 ≤ (6 : Int32) := bI_1.mp c1
    rw [if_pos c1] at q
    refine w_aload_n (Ev.cm _) rfl rfl ?_
    refine w_getR (q := 332) (Ev.cm _) rfl (Nat.le_of_ble_eq_true rfl) rfl rfl ?_
    refine w_iload_n (Ev.cm _) rfl rfl ?_
    obtain ⟨b1, q⟩ := ois q
    refine w_iald (Ev.cm _) rfl (Nat.le_of_ble_eq_true rfl) rfl (show vp_in p0 1541 from vpI 1541 (by decide) b1.1 b1.2) ?_
    refine w_goto (Ev.cm _) rfl ?_
    refine w_ireturn (Ev.cm _) rfl trivial rf0 ?_
    cases q
    exact g
def LO_C_messageOf_9 (fu : Nat) : Nat → Int32 → Int32 → Int32 → (Nat → Nat → Int32) → (Nat → Nat → Int64) → Option (Int32 × (Nat → Nat → Int32) × (Nat → Nat → Int64))
  | 0, _, _, _, _, _ => none
  | n + 1, x0, x1, x2, I, L => if x2 < 0 then (some (x1, I, L)) else (LO_C_messageOf_9 fu n x0 (((x1 * 10) + 1) + ((x0 >>> (x2 &&& 31)) &&& 1)) (x2 + (-1)) I L)
set_option maxHeartbeats 20000000 in
set_option maxRecDepth 20000 in
theorem lo_C_messageOf_9 {d fu n0 s0 : Nat} {X : Nat × (Nat → Int32)} {Q : PQ} {res : Int32 × (Nat → Nat → Int32) × (Nat → Nat → Int64)}  (g : Q (some (.int res.1)) (HS res.2.1 res.2.2 X)) : ∀ (n : Nat) (x0 : Int32) (x1 : Int32) (x2 : Int32) (I : Nat → Nat → Int32) (L : Nat → Nat → Int64), LO_C_messageOf_9 fu n x0 x1 x2 I L = some res → Wp (Ev (d + 1)) cd_C_messageOf (0, 0) (some .int) n0 s0 Q 9 [(0, .int x0), (1, .int x1), (2, .int x2)] [] (HS I L X) := by
  intro n
  induction n with
  | zero => intro _ _ _ _ _ q; cases q
  | succ n ih =>
    intro x0 x1 x2 I L q
    unfold LO_C_messageOf_9 at q
    refine w_iload_n (Ev.cm _) rfl rfl ?_
    refine w_if_lt (Ev.cm _) rfl (fun c1 => ?_) (fun c1 => ?_)
    · have c1 : x2 < 0 := c1
      rw [if_pos c1] at q
      refine w_iload_n (Ev.cm _) rfl rfl ?_
      refine w_ireturn (Ev.cm _) rfl trivial rf0 ?_
      cases q
      exact g
    · have c1 : ¬ (x2 < 0) := c1
      rw [if_neg c1] at q
      refine w_iload_n (Ev.cm _) rfl rfl ?_
      refine w_bipush (Ev.cm _) rfl ?_
      refine w_imul (Ev.cm _) rfl ?_
      refine w_iconst (Ev.cm _) rfl ?_
      refine w_iadd (Ev.cm _) rfl ?_
      refine w_iload_n (Ev.cm _) rfl rfl ?_
      refine w_iload_n (Ev.cm _) rfl rfl ?_
      refine w_ishr (Ev.cm _) rfl ?_
      refine w_iconst (Ev.cm _) rfl ?_
      refine w_iand (Ev.cm _) rfl ?_
      refine w_iadd (Ev.cm _) rfl ?_
      refine w_istore_n (ls2 := [(0, .int x0), (1, .int (((x1 * 10) + 1) + ((x0 >>> (x2 &&& 31)) &&& 1))), (2, .int x2)]) (Ev.cm _) rfl rfl ?_
      refine w_iinc (ls2 := [(0, .int x0), (1, .int (((x1 * 10) + 1) + ((x0 >>> (x2 &&& 31)) &&& 1))), (2, .int (x2 + (-1)))]) (Ev.cm _) rfl rfl rfl ?_
      refine w_goto (Ev.cm _) rfl ?_
      show Wp _ _ _ _ _ _ _ 9 [(0, .int x0), (1, .int (((x1 * 10) + 1) + ((x0 >>> (x2 &&& 31)) &&& 1))), (2, .int (x2 + (-1)))] [] (HS I L X)
      refine Wp.sub [0, 1, 2] (ls2 := [(0, .int x0), (1, .int (((x1 * 10) + 1) + ((x0 >>> (x2 &&& 31)) &&& 1))), (2, .int (x2 + (-1)))]) rfl ?_
      exact ih _ _ _ _ _ q
def FO_C_messageOf (fu : Nat) (p0 : Int32) (I : Nat → Nat → Int32) (L : Nat → Nat → Int64) : Option (Int32 × (Nat → Nat → Int32) × (Nat → Nat → Int64)) := (FO_C_lengthOf fu p0 I L).bind (fun u1 => let r1 := u1.1; let I1 := u1.2.1; let L1 := u1.2.2; LO_C_messageOf_9 fu fu p0 0 (r1 - 1) I1 L1)
set_option maxHeartbeats 20000000 in
set_option maxRecDepth 20000 in
theorem eo_C_messageOf {d fu : Nat} {p0 : Int32} {I : Nat → Nat → Int32} {L : Nat → Nat → Int64} {X : Nat × (Nat → Int32)} {Q : PQ} {res : Int32 × (Nat → Nat → Int32) × (Nat → Nat → Int64)}  (g : Q (some (.int res.1)) (HS res.2.1 res.2.2 X)) (q : FO_C_messageOf fu p0 I L = some res) : Ev (d + 2) m_C_messageOf [.int p0] (HS I L X) Q := by
  unfold FO_C_messageOf at q
  refine ev_start (d := d + 1) rfl rfl rfl (Nat.le_of_ble_eq_true rfl) ?_
  show Wp (Ev (d + 1)) cd_C_messageOf (0, 0) (some .int) _ _ Q 0 [(0, .int p0)] [] (HS I L X)
  refine w_iconst (Ev.cm _) rfl ?_
  refine w_istore_n (ls2 := [(0, .int p0), (1, .int 0)]) (Ev.cm _) rfl rfl ?_
  refine w_iload_n (Ev.cm _) rfl rfl ?_
  obtain ⟨⟨r1, I1, L1⟩, e1, q⟩ := obs q
  dsimp only at q
  refine w_cstat (as := [.int p0]) (st := []) (Ev.cm _) rfl rfl rfl (Nat.le_of_ble_eq_true rfl) (Nat.le_of_ble_eq_true rfl) (eo_C_lengthOf (g := ?_) e1)
  show Wp _ _ _ _ _ _ _ 6 [(0, .int p0), (1, .int 0)] [.int r1] (HS I1 L1 X)
  refine w_iconst (Ev.cm _) rfl ?_
  refine w_isub (Ev.cm _) rfl ?_
  refine w_istore_n (ls2 := [(0, .int p0), (1, .int 0), (2, .int (r1 - 1))]) (Ev.cm _) rfl rfl ?_
  show Wp _ _ _ _ _ _ _ 9 [(0, .int p0), (1, .int 0), (2, .int (r1 - 1))] [] (HS I1 L1 X)
  refine Wp.sub [0, 1, 2] (ls2 := [(0, .int p0), (1, .int 0), (2, .int (r1 - 1))]) rfl ?_
  exact lo_C_messageOf_9 g fu _ _ _ _ _ q
def LO_C_goOn_5 (fu : Nat) : Nat → Int32 → Int32 → Int32 → (Nat → Nat → Int32) → (Nat → Nat → Int64) → Option (Int32 × (Nat → Nat → Int32) × (Nat → Nat → Int64))
  | 0, _, _, _, _, _ => none
  | n + 1, x2, x3, x4, I, L => if I 1 13 ≤ x4 then (if x3 = 0 ∨ x3 = 1 then (some (x3, I, L)) else none) else (if 5 ≤ x4 then (if x3 = 0 ∨ x3 = 1 then (some (x3, I, L)) else none) else (if 0 ≤ x4 ∧ x4 < 5 then ((FO_C_lengthOf fu (I 134 x4.toNatClampNeg) I L).bind (fun u4 => let r4 := u4.1; let I4 := u4.2.1; let L4 := u4.2.2; (FO_C_lengthOf fu x2 I4 L4).bind (fun u5 => let r5 := u5.1; let I5 := u5.2.1; let L5 := u5.2.2; (FO_C_behind fu x2 (I 134 x4.toNatClampNeg) I5 L5).bind (fun u6 => let r6 := u6.1; let I6 := u6.2.1; let L6 := u6.2.2; if 0 ≤ x2 ∧ x2 < 64 then ((FO_C_lower fu r6 (I6 326 x2.toNatClampNeg) I6 L6).bind (fun u8 => let r8 := u8.1; let I8 := u8.2.1; let L8 := u8.2.2; (FO_C_behind fu (I 134 x4.toNatClampNeg) x2 I8 L8).bind (fun u9 => let r9 := u9.1; let I9 := u9.2.1; let L9 := u9.2.2; if 0 ≤ x2 ∧ x2 < 64 then ((FO_C_lower fu r9 ((I9 326 x2.toNatClampNeg) + (F_J_max I5 (r4 - r5) 0)) I9 L9).bind (fun u11 => let r11 := u11.1; let I11 := u11.2.1; let L11 := u11.2.2; if x3 = 0 then (if r8 = 0 then (if r11 = 0 then (LO_C_goOn_5 fu n x2 0 (x4 + 1) I11 L11) else (LO_C_goOn_5 fu n x2 1 (x4 + 1) I11 L11)) else (LO_C_goOn_5 fu n x2 1 (x4 + 1) I11 L11)) else (LO_C_goOn_5 fu n x2 1 (x4 + 1) I11 L11))) else none))) else none)))) else none))
set_option maxHeartbeats 20000000 in
set_option maxRecDepth 20000 in
theorem lo_C_goOn_5 {d fu n0 s0 : Nat} {X : Nat × (Nat → Int32)} {Q : PQ} {res : Int32 × (Nat → Nat → Int32) × (Nat → Nat → Int64)}  (g : Q (some (.int res.1)) (HS res.2.1 res.2.2 X)) : ∀ (n : Nat) (x2 : Int32) (x3 : Int32) (x4 : Int32) (I : Nat → Nat → Int32) (L : Nat → Nat → Int64), LO_C_goOn_5 fu n x2 x3 x4 I L = some res → Wp (Ev (d + 2)) cd_C_goOn (0, 0) (some .boolean) n0 s0 Q 5 [(0, .ref 325), (1, .ref 1), (2, .int x2), (3, .int x3), (4, .int x4)] [] (HS I L X) := by
  intro n
  induction n with
  | zero => intro _ _ _ _ _ q; cases q
  | succ n ih =>
    intro x2 x3 x4 I L q
    unfold LO_C_goOn_5 at q
    refine w_iload (Ev.cm _) rfl rfl ?_
    refine w_aload_n (Ev.cm _) rfl rfl ?_
    refine w_getI (Ev.cm _) rfl (Nat.le_of_ble_eq_true rfl) rfl ?_
    refine w_icmp_ge (Ev.cm _) rfl (fun c1 => ?_) (fun c1 => ?_)
    · have c1 : I 1 13 ≤ x4 := c1
      rw [if_pos c1] at q
      refine w_iload_n (Ev.cm _) rfl rfl ?_
      obtain ⟨b1, q⟩ := ois q
      refine w_ireturn (Ev.cm _) rfl (show rok (some .boolean) _ from b1) rf0 ?_
      cases q
      exact g
    · have c1 : ¬ (I 1 13 ≤ x4) := c1
      rw [if_neg c1] at q
      refine w_iload (Ev.cm _) rfl rfl ?_
      refine w_iconst (Ev.cm _) rfl ?_
      refine w_icmp_ge (Ev.cm _) rfl (fun c2 => ?_) (fun c2 => ?_)
      · have c2 : 5 ≤ x4 := c2
        rw [if_pos c2] at q
        refine w_iload_n (Ev.cm _) rfl rfl ?_
        obtain ⟨b2, q⟩ := ois q
        refine w_ireturn (Ev.cm _) rfl (show rok (some .boolean) _ from b2) rf0 ?_
        cases q
        exact g
      · have c2 : ¬ (5 ≤ x4) := c2
        rw [if_neg c2] at q
        refine w_aload_n (Ev.cm _) rfl rfl ?_
        refine w_getR (q := 134) (Ev.cm _) rfl (Nat.le_of_ble_eq_true rfl) rfl rfl ?_
        refine w_iload (Ev.cm _) rfl rfl ?_
        obtain ⟨b3, q⟩ := ois q
        refine w_iald (Ev.cm _) rfl (Nat.le_of_ble_eq_true rfl) rfl (show vp_in x4 5 from vpI 5 (by decide) b3.1 b3.2) ?_
        refine w_istore (ls2 := [(0, .ref 325), (1, .ref 1), (2, .int x2), (3, .int x3), (4, .int x4), (5, .int (I 134 x4.toNatClampNeg))]) (Ev.cm _) rfl rfl ?_
        refine w_iload (Ev.cm _) rfl rfl ?_
        obtain ⟨⟨r4, I4, L4⟩, e4, q⟩ := obs q
        dsimp only at q
        refine w_cstat (as := [.int (I 134 x4.toNatClampNeg)]) (st := []) (Ev.cm _) rfl rfl rfl (Nat.le_of_ble_eq_true rfl) (Nat.le_of_ble_eq_true rfl) (eo_C_lengthOf (g := ?_) e4)
        show Wp _ _ _ _ _ _ _ 34 [(0, .ref 325), (1, .ref 1), (2, .int x2), (3, .int x3), (4, .int x4), (5, .int (I 134 x4.toNatClampNeg))] [.int r4] (HS I4 L4 X)
        refine w_iload_n (Ev.cm _) rfl rfl ?_
        obtain ⟨⟨r5, I5, L5⟩, e5, q⟩ := obs q
        dsimp only at q
        refine w_cstat (as := [.int x2]) (st := [.int r4]) (Ev.cm _) rfl rfl rfl (Nat.le_of_ble_eq_true rfl) (Nat.le_of_ble_eq_true rfl) (eo_C_lengthOf (g := ?_) e5)
        show Wp _ _ _ _ _ _ _ 38 [(0, .ref 325), (1, .ref 1), (2, .int x2), (3, .int x3), (4, .int x4), (5, .int (I 134 x4.toNatClampNeg))] [.int r5, .int r4] (HS I5 L5 X)
        refine w_isub (Ev.cm _) rfl ?_
        refine w_iconst (Ev.cm _) rfl ?_
        refine w_cstat (as := [.int (r4 - r5), .int 0]) (st := []) (Ev.cm _) rfl rfl rfl (Nat.le_of_ble_eq_true rfl) (Nat.le_of_ble_eq_true rfl) (e_J_max ?_)
        show Wp _ _ _ _ _ _ _ 43 [(0, .ref 325), (1, .ref 1), (2, .int x2), (3, .int x3), (4, .int x4), (5, .int (I 134 x4.toNatClampNeg))] [.int (F_J_max I5 (r4 - r5) 0)] (HS I5 L5 X)
        refine w_istore (ls2 := [(0, .ref 325), (1, .ref 1), (2, .int x2), (3, .int x3), (4, .int x4), (5, .int (I 134 x4.toNatClampNeg)), (6, .int (F_J_max I5 (r4 - r5) 0))]) (Ev.cm _) rfl rfl ?_
        refine w_aload_n (Ev.cm _) rfl rfl ?_
        refine w_iload_n (Ev.cm _) rfl rfl ?_
        refine w_iload (Ev.cm _) rfl rfl ?_
        obtain ⟨⟨r6, I6, L6⟩, e6, q⟩ := obs q
        dsimp only at q
        refine w_cstat (as := [.int x2, .int (I 134 x4.toNatClampNeg)]) (st := [.ref 325]) (Ev.cm _) rfl rfl rfl (Nat.le_of_ble_eq_true rfl) (Nat.le_of_ble_eq_true rfl) (eo_C_behind (g := ?_) e6)
        show Wp _ _ _ _ _ _ _ 52 [(0, .ref 325), (1, .ref 1), (2, .int x2), (3, .int x3), (4, .int x4), (5, .int (I 134 x4.toNatClampNeg)), (6, .int (F_J_max I5 (r4 - r5) 0))] [.int r6, .ref 325] (HS I6 L6 X)
        refine w_aload_n (Ev.cm _) rfl rfl ?_
        refine w_getR (q := 326) (Ev.cm _) rfl (Nat.le_of_ble_eq_true rfl) rfl rfl ?_
        refine w_iload_n (Ev.cm _) rfl rfl ?_
        obtain ⟨b7, q⟩ := ois q
        refine w_iald (Ev.cm _) rfl (Nat.le_of_ble_eq_true rfl) rfl (show vp_in x2 64 from vpI 64 (by decide) b7.1 b7.2) ?_
        obtain ⟨⟨r8, I8, L8⟩, e8, q⟩ := obs q
        dsimp only at q
        refine w_cvirt (o := 325) (as := [.int r6, .int (I6 326 x2.toNatClampNeg)]) (st := []) (Ev.cm _) rfl rfl rfl (Nat.le_of_ble_eq_true rfl) (Nat.le_of_ble_eq_true rfl) rfl (Nat.le_of_ble_eq_true rfl) (eo_C_lower (g := ?_) e8)
        show Wp _ _ _ _ _ _ _ 61 [(0, .ref 325), (1, .ref 1), (2, .int x2), (3, .int x3), (4, .int x4), (5, .int (I 134 x4.toNatClampNeg)), (6, .int (F_J_max I5 (r4 - r5) 0))] [.int r8] (HS I8 L8 X)
        refine w_istore (ls2 := [(0, .ref 325), (1, .ref 1), (2, .int x2), (3, .int x3), (4, .int x4), (5, .int (I 134 x4.toNatClampNeg)), (6, .int (F_J_max I5 (r4 - r5) 0)), (7, .int r8)]) (Ev.cm _) rfl rfl ?_
        refine w_aload_n (Ev.cm _) rfl rfl ?_
        refine w_iload (Ev.cm _) rfl rfl ?_
        refine w_iload_n (Ev.cm _) rfl rfl ?_
        obtain ⟨⟨r9, I9, L9⟩, e9, q⟩ := obs q
        dsimp only at q
        refine w_cstat (as := [.int (I 134 x4.toNatClampNeg), .int x2]) (st := [.ref 325]) (Ev.cm _) rfl rfl rfl (Nat.le_of_ble_eq_true rfl) (Nat.le_of_ble_eq_true rfl) (eo_C_behind (g := ?_) e9)
        show Wp _ _ _ _ _ _ _ 70 [(0, .ref 325), (1, .ref 1), (2, .int x2), (3, .int x3), (4, .int x4), (5, .int (I 134 x4.toNatClampNeg)), (6, .int (F_J_max I5 (r4 - r5) 0)), (7, .int r8)] [.int r9, .ref 325] (HS I9 L9 X)
        refine w_aload_n (Ev.cm _) rfl rfl ?_
        refine w_getR (q := 326) (Ev.cm _) rfl (Nat.le_of_ble_eq_true rfl) rfl rfl ?_
        refine w_iload_n (Ev.cm _) rfl rfl ?_
        obtain ⟨b10, q⟩ := ois q
        refine w_iald (Ev.cm _) rfl (Nat.le_of_ble_eq_true rfl) rfl (show vp_in x2 64 from vpI 64 (by decide) b10.1 b10.2) ?_
        refine w_iload (Ev.cm _) rfl rfl ?_
        refine w_iadd (Ev.cm _) rfl ?_
        obtain ⟨⟨r11, I11, L11⟩, e11, q⟩ := obs q
        dsimp only at q
        refine w_cvirt (o := 325) (as := [.int r9, .int ((I9 326 x2.toNatClampNeg) + (F_J_max I5 (r4 - r5) 0))]) (st := []) (Ev.cm _) rfl rfl rfl (Nat.le_of_ble_eq_true rfl) (Nat.le_of_ble_eq_true rfl) rfl (Nat.le_of_ble_eq_true rfl) (eo_C_lower (g := ?_) e11)
        show Wp _ _ _ _ _ _ _ 82 [(0, .ref 325), (1, .ref 1), (2, .int x2), (3, .int x3), (4, .int x4), (5, .int (I 134 x4.toNatClampNeg)), (6, .int (F_J_max I5 (r4 - r5) 0)), (7, .int r8)] [.int r11] (HS I11 L11 X)
        refine w_istore (ls2 := [(0, .ref 325), (1, .ref 1), (2, .int x2), (3, .int x3), (4, .int x4), (5, .int (I 134 x4.toNatClampNeg)), (6, .int (F_J_max I5 (r4 - r5) 0)), (7, .int r8), (8, .int r11)]) (Ev.cm _) rfl rfl ?_
        refine w_iload_n (Ev.cm _) rfl rfl ?_
        refine w_if_ne (Ev.cm _) rfl (fun c3 => ?_) (fun c3 => ?_)
        · have c3 : ¬ (x3 = 0) := c3
          rw [if_neg c3] at q
          refine w_iconst (Ev.cm _) rfl ?_
          refine w_goto (Ev.cm _) rfl ?_
          refine w_istore_n (ls2 := [(0, .ref 325), (1, .ref 1), (2, .int x2), (3, .int 1), (4, .int x4), (5, .int (I 134 x4.toNatClampNeg)), (6, .int (F_J_max I5 (r4 - r5) 0)), (7, .int r8), (8, .int r11)]) (Ev.cm _) rfl rfl ?_
          refine w_iinc (ls2 := [(0, .ref 325), (1, .ref 1), (2, .int x2), (3, .int 1), (4, .int (x4 + 1)), (5, .int (I 134 x4.toNatClampNeg)), (6, .int (F_J_max I5 (r4 - r5) 0)), (7, .int r8), (8, .int r11)]) (Ev.cm _) rfl rfl rfl ?_
          refine w_goto (Ev.cm _) rfl ?_
          show Wp _ _ _ _ _ _ _ 5 [(0, .ref 325), (1, .ref 1), (2, .int x2), (3, .int 1), (4, .int (x4 + 1)), (5, .int (I 134 x4.toNatClampNeg)), (6, .int (F_J_max I5 (r4 - r5) 0)), (7, .int r8), (8, .int r11)] [] (HS I11 L11 X)
          refine Wp.sub [0, 1, 2, 3, 4] (ls2 := [(0, .ref 325), (1, .ref 1), (2, .int x2), (3, .int 1), (4, .int (x4 + 1))]) rfl ?_
          exact ih _ _ _ _ _ q
        · have c3 : x3 = 0 := c3
          rw [if_pos c3] at q
          refine w_iload (Ev.cm _) rfl rfl ?_
          refine w_if_ne (Ev.cm _) rfl (fun c4 => ?_) (fun c4 => ?_)
          · have c4 : ¬ (r8 = 0) := c4
            rw [if_neg c4] at q
            refine w_iconst (Ev.cm _) rfl ?_
            refine w_goto (Ev.cm _) rfl ?_
            refine w_istore_n (ls2 := [(0, .ref 325), (1, .ref 1), (2, .int x2), (3, .int 1), (4, .int x4), (5, .int (I 134 x4.toNatClampNeg)), (6, .int (F_J_max I5 (r4 - r5) 0)), (7, .int r8), (8, .int r11)]) (Ev.cm _) rfl rfl ?_
            refine w_iinc (ls2 := [(0, .ref 325), (1, .ref 1), (2, .int x2), (3, .int 1), (4, .int (x4 + 1)), (5, .int (I 134 x4.toNatClampNeg)), (6, .int (F_J_max I5 (r4 - r5) 0)), (7, .int r8), (8, .int r11)]) (Ev.cm _) rfl rfl rfl ?_
            refine w_goto (Ev.cm _) rfl ?_
            show Wp _ _ _ _ _ _ _ 5 [(0, .ref 325), (1, .ref 1), (2, .int x2), (3, .int 1), (4, .int (x4 + 1)), (5, .int (I 134 x4.toNatClampNeg)), (6, .int (F_J_max I5 (r4 - r5) 0)), (7, .int r8), (8, .int r11)] [] (HS I11 L11 X)
            refine Wp.sub [0, 1, 2, 3, 4] (ls2 := [(0, .ref 325), (1, .ref 1), (2, .int x2), (3, .int 1), (4, .int (x4 + 1))]) rfl ?_
            exact ih _ _ _ _ _ q
          · have c4 : r8 = 0 := c4
            rw [if_pos c4] at q
            refine w_iload (Ev.cm _) rfl rfl ?_
            refine w_if_eq (Ev.cm _) rfl (fun c5 => ?_) (fun c5 => ?_)
            · have c5 : r11 = 0 := c5
              rw [if_pos c5] at q
              refine w_iconst (Ev.cm _) rfl ?_
              refine w_istore_n (ls2 := [(0, .ref 325), (1, .ref 1), (2, .int x2), (3, .int 0), (4, .int x4), (5, .int (I 134 x4.toNatClampNeg)), (6, .int (F_J_max I5 (r4 - r5) 0)), (7, .int r8), (8, .int r11)]) (Ev.cm _) rfl rfl ?_
              refine w_iinc (ls2 := [(0, .ref 325), (1, .ref 1), (2, .int x2), (3, .int 0), (4, .int (x4 + 1)), (5, .int (I 134 x4.toNatClampNeg)), (6, .int (F_J_max I5 (r4 - r5) 0)), (7, .int r8), (8, .int r11)]) (Ev.cm _) rfl rfl rfl ?_
              refine w_goto (Ev.cm _) rfl ?_
              show Wp _ _ _ _ _ _ _ 5 [(0, .ref 325), (1, .ref 1), (2, .int x2), (3, .int 0), (4, .int (x4 + 1)), (5, .int (I 134 x4.toNatClampNeg)), (6, .int (F_J_max I5 (r4 - r5) 0)), (7, .int r8), (8, .int r11)] [] (HS I11 L11 X)
              refine Wp.sub [0, 1, 2, 3, 4] (ls2 := [(0, .ref 325), (1, .ref 1), (2, .int x2), (3, .int 0), (4, .int (x4 + 1))]) rfl ?_
              exact ih _ _ _ _ _ q
            · have c5 : ¬ (r11 = 0) := c5
              rw [if_neg c5] at q
              refine w_iconst (Ev.cm _) rfl ?_
              refine w_goto (Ev.cm _) rfl ?_
              refine w_istore_n (ls2 := [(0, .ref 325), (1, .ref 1), (2, .int x2), (3, .int 1), (4, .int x4), (5, .int (I 134 x4.toNatClampNeg)), (6, .int (F_J_max I5 (r4 - r5) 0)), (7, .int r8), (8, .int r11)]) (Ev.cm _) rfl rfl ?_
              refine w_iinc (ls2 := [(0, .ref 325), (1, .ref 1), (2, .int x2), (3, .int 1), (4, .int (x4 + 1)), (5, .int (I 134 x4.toNatClampNeg)), (6, .int (F_J_max I5 (r4 - r5) 0)), (7, .int r8), (8, .int r11)]) (Ev.cm _) rfl rfl rfl ?_
              refine w_goto (Ev.cm _) rfl ?_
              show Wp _ _ _ _ _ _ _ 5 [(0, .ref 325), (1, .ref 1), (2, .int x2), (3, .int 1), (4, .int (x4 + 1)), (5, .int (I 134 x4.toNatClampNeg)), (6, .int (F_J_max I5 (r4 - r5) 0)), (7, .int r8), (8, .int r11)] [] (HS I11 L11 X)
              refine Wp.sub [0, 1, 2, 3, 4] (ls2 := [(0, .ref 325), (1, .ref 1), (2, .int x2), (3, .int 1), (4, .int (x4 + 1))]) rfl ?_
              exact ih _ _ _ _ _ q
def FO_C_goOn (fu : Nat) (p1 : Int32) (I : Nat → Nat → Int32) (L : Nat → Nat → Int64) : Option (Int32 × (Nat → Nat → Int32) × (Nat → Nat → Int64)) := LO_C_goOn_5 fu fu p1 0 0 I L
set_option maxHeartbeats 20000000 in
set_option maxRecDepth 20000 in
theorem eo_C_goOn {d fu : Nat} {p1 : Int32} {I : Nat → Nat → Int32} {L : Nat → Nat → Int64} {X : Nat × (Nat → Int32)} {Q : PQ} {res : Int32 × (Nat → Nat → Int32) × (Nat → Nat → Int64)}  (g : Q (some (.int res.1)) (HS res.2.1 res.2.2 X)) (q : FO_C_goOn fu p1 I L = some res) : Ev (d + 3) m_C_goOn [.ref 325, .ref 1, .int p1] (HS I L X) Q := by
  unfold FO_C_goOn at q
  refine ev_start (d := d + 2) rfl rfl rfl (Nat.le_of_ble_eq_true rfl) ?_
  show Wp (Ev (d + 2)) cd_C_goOn (0, 0) (some .boolean) _ _ Q 0 [(0, .ref 325), (1, .ref 1), (2, .int p1)] [] (HS I L X)
  refine w_iconst (Ev.cm _) rfl ?_
  refine w_istore_n (ls2 := [(0, .ref 325), (1, .ref 1), (2, .int p1), (3, .int 0)]) (Ev.cm _) rfl rfl ?_
  refine w_iconst (Ev.cm _) rfl ?_
  refine w_istore (ls2 := [(0, .ref 325), (1, .ref 1), (2, .int p1), (3, .int 0), (4, .int 0)]) (Ev.cm _) rfl rfl ?_
  show Wp _ _ _ _ _ _ _ 5 [(0, .ref 325), (1, .ref 1), (2, .int p1), (3, .int 0), (4, .int 0)] [] (HS I L X)
  refine Wp.sub [0, 1, 2, 3, 4] (ls2 := [(0, .ref 325), (1, .ref 1), (2, .int p1), (3, .int 0), (4, .int 0)]) rfl ?_
  exact lo_C_goOn_5 g fu _ _ _ _ _ q
def LO_W_says_40 (fu : Nat) (o : Nat) : Nat → Int32 → Int32 → Int32 → Int32 → Int32 → Int32 → (Nat → Nat → Int32) → (Nat → Nat → Int64) → Option (Int32 × (Nat → Nat → Int32) × (Nat → Nat → Int64))
  | 0, _, _, _, _, _, _, _, _ => none
  | n + 1, x2, x3, x4, x5, x6, x7, I, L => if 300 ≤ x7 then (if x6 ≤ 0 then (some (0, I, L)) else (some (F_J_max I 0 (F_J_min I (I 320 0) 99), I, L))) else (if x4 < 0 then (if x6 ≤ 0 then (some (0, I, L)) else (some (F_J_max I 0 (F_J_min I (I 320 0) 99), I, L))) else (if x5 ≤ x4 then (if x6 ≤ 0 then (some (0, I, L)) else (some (F_J_max I 0 (F_J_min I (I 320 0) 99), I, L))) else (if 0 ≤ x4 ∧ x4 < 300 then (if 0 ≤ x4 ∧ x4 < 300 then ((FO_W_takenBy fu (I (o + 4) x4.toNatClampNeg) I L).bind (fun u3 => let r3 := u3.1; let I3 := u3.2.1; let L3 := u3.2.2; if x6 < r3 then (some (0, I3, L3)) else (if x6 < 80 then (if r3 = 2 then (if 0 ≤ (x6 + (-1)) - 1 ∧ (x6 + (-1)) - 1 < 80 then (if 0 ≤ x6 + (-1) ∧ x6 + (-1) < 80 then ((FO_W_join fu (I (o + 4) x4.toNatClampNeg) (I3 320 (((x6 + (-1)) - 1).toNatClampNeg)) (I3 320 ((x6 + (-1)).toNatClampNeg)) I3 L3).bind (fun u14 => let r14 := u14.1; let I14 := u14.2.1; let L14 := u14.2.2; if 0 ≤ (x6 + (-1)) - 1 ∧ (x6 + (-1)) - 1 < 80 then (LO_W_says_40 fu o n x2 x3 (x4 + 1) x5 (x6 + (-1)) (x7 + 1) (sI I14 320 (((x6 + (-1)) - 1).toNatClampNeg) r14) L14) else none)) else none) else none) else (if I (o + 4) x4.toNatClampNeg = 63 then (if 0 ≤ x6 + (-1) ∧ x6 + (-1) < 80 then (if I3 320 ((x6 + (-1)).toNatClampNeg) = 0 then (LO_W_says_40 fu o n x2 x3 (I (o + 5) x4.toNatClampNeg) x5 (x6 + (-1)) (x7 + 1) I3 L3) else (LO_W_says_40 fu o n x2 x3 (x4 + 1) x5 (x6 + (-1)) (x7 + 1) I3 L3)) else none) else (if I (o + 4) x4.toNatClampNeg = 62 then (LO_W_says_40 fu o n x2 x3 (I (o + 5) x4.toNatClampNeg) x5 x6 (x7 + 1) I3 L3) else (if r3 = 1 then (if 0 ≤ x6 - 1 ∧ x6 - 1 < 80 then ((FO_W_turn fu (I (o + 4) x4.toNatClampNeg) (I3 320 ((x6 - 1).toNatClampNeg)) I3 L3).bind (fun u9 => let r9 := u9.1; let I9 := u9.2.1; let L9 := u9.2.2; if 0 ≤ x6 - 1 ∧ x6 - 1 < 80 then (LO_W_says_40 fu o n x2 x3 (x4 + 1) x5 x6 (x7 + 1) (sI I9 320 ((x6 - 1).toNatClampNeg) r9) L9) else none)) else none) else (if I (o + 4) x4.toNatClampNeg = 60 then (if (0 : Int32) ≤ (I (o + 5) x4.toNatClampNeg) ∧ (I (o + 5) x4.toNatClampNeg) ≤ (7 : Int32) then (if 0 ≤ I (o + 5) x4.toNatClampNeg ∧ I (o + 5) x4.toNatClampNeg < 8 then (if 0 ≤ x6 ∧ x6 < 80 then (LO_W_says_40 fu o n x2 x3 (x4 + 1) x5 (x6 + 1) (x7 + 1) (sI I3 320 x6.toNatClampNeg (I3 321 ((I (o + 5) x4.toNatClampNeg).toNatClampNeg))) L3) else none) else none) else (if 0 ≤ x6 ∧ x6 < 80 then (LO_W_says_40 fu o n x2 x3 (x4 + 1) x5 (x6 + 1) (x7 + 1) (sI I3 320 x6.toNatClampNeg (I (o + 5) x4.toNatClampNeg)) L3) else none)) else (if 0 ≤ x6 ∧ x6 < 80 then (LO_W_says_40 fu o n x2 x3 (x4 + 1) x5 (x6 + 1) (x7 + 1) (sI I3 320 x6.toNatClampNeg (I (o + 5) x4.toNatClampNeg)) L3) else none)))))) else (some (0, I3, L3))))) else none) else none)))
set_option maxHeartbeats 20000000 in
set_option maxRecDepth 20000 in
theorem lo_W_says_40 {d fu n0 s0 : Nat} {o : Nat} {X : Nat × (Nat → Int32)} {Q : PQ} {res : Int32 × (Nat → Nat → Int32) × (Nat → Nat → Int64)}  (ho : isT o) (g : Q (some (.int res.1)) (HS res.2.1 res.2.2 X)) : ∀ (n : Nat) (x2 : Int32) (x3 : Int32) (x4 : Int32) (x5 : Int32) (x6 : Int32) (x7 : Int32) (I : Nat → Nat → Int32) (L : Nat → Nat → Int64), LO_W_says_40 fu o n x2 x3 x4 x5 x6 x7 I L = some res → Wp (Ev (d + 2)) cd_W_says (0, 0) (some .int) n0 s0 Q 40 [(0, .ref 319), (1, .ref o), (2, .int x2), (3, .int x3), (4, .int x4), (5, .int x5), (6, .int x6), (7, .int x7)] [] (HS I L X) := by
  intro n
  induction n with
  | zero => intro _ _ _ _ _ _ _ _ q; cases q
  | succ n ih =>
    intro x2 x3 x4 x5 x6 x7 I L q
    unfold LO_W_says_40 at q
    refine w_iload (Ev.cm _) rfl rfl ?_
    refine w_sipush (Ev.cm _) rfl ?_
    refine w_icmp_ge (Ev.cm _) rfl (fun c1 => ?_) (fun c1 => ?_)
    · have c1 : 300 ≤ x7 := c1
      rw [if_pos c1] at q
      refine w_iload (Ev.cm _) rfl rfl ?_
      refine w_if_le (Ev.cm _) rfl (fun c2 => ?_) (fun c2 => ?_)
      · have c2 : x6 ≤ 0 := c2
        rw [if_pos c2] at q
        refine w_iconst (Ev.cm _) rfl ?_
        refine w_ireturn (Ev.cm _) rfl trivial rf0 ?_
        cases q
        exact g
      · have c2 : ¬ (x6 ≤ 0) := c2
        rw [if_neg c2] at q
        refine w_iconst (Ev.cm _) rfl ?_
        refine w_aload_n (Ev.cm _) rfl rfl ?_
        refine w_getR (q := 320) (Ev.cm _) rfl (Nat.le_of_ble_eq_true rfl) rfl rfl ?_
        refine w_iconst (Ev.cm _) rfl ?_
        refine w_iald (Ev.cm _) rfl (Nat.le_of_ble_eq_true rfl) rfl (show vp_in 0 80 from vpI 80 (by decide) (by decide) (by decide)) ?_
        refine w_bipush (Ev.cm _) rfl ?_
        refine w_cstat (as := [.int (I 320 0), .int 99]) (st := [.int 0]) (Ev.cm _) rfl rfl rfl (Nat.le_of_ble_eq_true rfl) (Nat.le_of_ble_eq_true rfl) (e_J_min ?_)
        show Wp _ _ _ _ _ _ _ 288 [(0, .ref 319), (1, .ref o), (2, .int x2), (3, .int x3), (4, .int x4), (5, .int x5), (6, .int x6), (7, .int x7)] [.int (F_J_min I (I 320 0) 99), .int 0] (HS I L X)
        refine w_cstat (as := [.int 0, .int (F_J_min I (I 320 0) 99)]) (st := []) (Ev.cm _) rfl rfl rfl (Nat.le_of_ble_eq_true rfl) (Nat.le_of_ble_eq_true rfl) (e_J_max ?_)
        show Wp _ _ _ _ _ _ _ 291 [(0, .ref 319), (1, .ref o), (2, .int x2), (3, .int x3), (4, .int x4), (5, .int x5), (6, .int x6), (7, .int x7)] [.int (F_J_max I 0 (F_J_min I (I 320 0) 99))] (HS I L X)
        refine w_goto (Ev.cm _) rfl ?_
        refine w_ireturn (Ev.cm _) rfl trivial rf0 ?_
        cases q
        exact g
    · have c1 : ¬ (300 ≤ x7) := c1
      rw [if_neg c1] at q
      refine w_iload (Ev.cm _) rfl rfl ?_
      refine w_if_lt (Ev.cm _) rfl (fun c3 => ?_) (fun c3 => ?_)
      · have c3 : x4 < 0 := c3
        rw [if_pos c3] at q
        refine w_iload (Ev.cm _) rfl rfl ?_
        refine w_if_le (Ev.cm _) rfl (fun c4 => ?_) (fun c4 => ?_)
        · have c4 : x6 ≤ 0 := c4
          rw [if_pos c4] at q
          refine w_iconst (Ev.cm _) rfl ?_
          refine w_ireturn (Ev.cm _) rfl trivial rf0 ?_
          cases q
          exact g
        · have c4 : ¬ (x6 ≤ 0) := c4
          rw [if_neg c4] at q
          refine w_iconst (Ev.cm _) rfl ?_
          refine w_aload_n (Ev.cm _) rfl rfl ?_
          refine w_getR (q := 320) (Ev.cm _) rfl (Nat.le_of_ble_eq_true rfl) rfl rfl ?_
          refine w_iconst (Ev.cm _) rfl ?_
          refine w_iald (Ev.cm _) rfl (Nat.le_of_ble_eq_true rfl) rfl (show vp_in 0 80 from vpI 80 (by decide) (by decide) (by decide)) ?_
          refine w_bipush (Ev.cm _) rfl ?_
          refine w_cstat (as := [.int (I 320 0), .int 99]) (st := [.int 0]) (Ev.cm _) rfl rfl rfl (Nat.le_of_ble_eq_true rfl) (Nat.le_of_ble_eq_true rfl) (e_J_min ?_)
          show Wp _ _ _ _ _ _ _ 288 [(0, .ref 319), (1, .ref o), (2, .int x2), (3, .int x3), (4, .int x4), (5, .int x5), (6, .int x6), (7, .int x7)] [.int (F_J_min I (I 320 0) 99), .int 0] (HS I L X)
          refine w_cstat (as := [.int 0, .int (F_J_min I (I 320 0) 99)]) (st := []) (Ev.cm _) rfl rfl rfl (Nat.le_of_ble_eq_true rfl) (Nat.le_of_ble_eq_true rfl) (e_J_max ?_)
          show Wp _ _ _ _ _ _ _ 291 [(0, .ref 319), (1, .ref o), (2, .int x2), (3, .int x3), (4, .int x4), (5, .int x5), (6, .int x6), (7, .int x7)] [.int (F_J_max I 0 (F_J_min I (I 320 0) 99))] (HS I L X)
          refine w_goto (Ev.cm _) rfl ?_
          refine w_ireturn (Ev.cm _) rfl trivial rf0 ?_
          cases q
          exact g
      · have c3 : ¬ (x4 < 0) := c3
        rw [if_neg c3] at q
        refine w_iload (Ev.cm _) rfl rfl ?_
        refine w_iload (Ev.cm _) rfl rfl ?_
        refine w_icmp_ge (Ev.cm _) rfl (fun c5 => ?_) (fun c5 => ?_)
        · have c5 : x5 ≤ x4 := c5
          rw [if_pos c5] at q
          refine w_iload (Ev.cm _) rfl rfl ?_
          refine w_if_le (Ev.cm _) rfl (fun c6 => ?_) (fun c6 => ?_)
          · have c6 : x6 ≤ 0 := c6
            rw [if_pos c6] at q
            refine w_iconst (Ev.cm _) rfl ?_
            refine w_ireturn (Ev.cm _) rfl trivial rf0 ?_
            cases q
            exact g
          · have c6 : ¬ (x6 ≤ 0) := c6
            rw [if_neg c6] at q
            refine w_iconst (Ev.cm _) rfl ?_
            refine w_aload_n (Ev.cm _) rfl rfl ?_
            refine w_getR (q := 320) (Ev.cm _) rfl (Nat.le_of_ble_eq_true rfl) rfl rfl ?_
            refine w_iconst (Ev.cm _) rfl ?_
            refine w_iald (Ev.cm _) rfl (Nat.le_of_ble_eq_true rfl) rfl (show vp_in 0 80 from vpI 80 (by decide) (by decide) (by decide)) ?_
            refine w_bipush (Ev.cm _) rfl ?_
            refine w_cstat (as := [.int (I 320 0), .int 99]) (st := [.int 0]) (Ev.cm _) rfl rfl rfl (Nat.le_of_ble_eq_true rfl) (Nat.le_of_ble_eq_true rfl) (e_J_min ?_)
            show Wp _ _ _ _ _ _ _ 288 [(0, .ref 319), (1, .ref o), (2, .int x2), (3, .int x3), (4, .int x4), (5, .int x5), (6, .int x6), (7, .int x7)] [.int (F_J_min I (I 320 0) 99), .int 0] (HS I L X)
            refine w_cstat (as := [.int 0, .int (F_J_min I (I 320 0) 99)]) (st := []) (Ev.cm _) rfl rfl rfl (Nat.le_of_ble_eq_true rfl) (Nat.le_of_ble_eq_true rfl) (e_J_max ?_)
            show Wp _ _ _ _ _ _ _ 291 [(0, .ref 319), (1, .ref o), (2, .int x2), (3, .int x3), (4, .int x4), (5, .int x5), (6, .int x6), (7, .int x7)] [.int (F_J_max I 0 (F_J_min I (I 320 0) 99))] (HS I L X)
            refine w_goto (Ev.cm _) rfl ?_
            refine w_ireturn (Ev.cm _) rfl trivial rf0 ?_
            cases q
            exact g
        · have c5 : ¬ (x5 ≤ x4) := c5
          rw [if_neg c5] at q
          refine w_aload_n (Ev.cm _) rfl rfl ?_
          refine w_getR (q := o + 4) (Ev.cm _) rfl (isT_lt0 ho) (congrArg Prod.fst (isT_k0 ho)) (isT_r5 ho) ?_
          refine w_iload (Ev.cm _) rfl rfl ?_
          obtain ⟨b1, q⟩ := ois q
          refine w_iald (Ev.cm _) rfl (isT_lt ho 4 (by decide)) (congrArg Prod.fst (isT_k4 ho)) (vpK (isT_k4 ho) 300 (by decide) b1.1 b1.2) ?_
          refine w_istore (ls2 := [(0, .ref 319), (1, .ref o), (2, .int x2), (3, .int x3), (4, .int x4), (5, .int x5), (6, .int x6), (7, .int x7), (8, .int (I (o + 4) x4.toNatClampNeg))]) (Ev.cm _) rfl rfl ?_
          refine w_aload_n (Ev.cm _) rfl rfl ?_
          refine w_getR (q := o + 5) (Ev.cm _) rfl (isT_lt0 ho) (congrArg Prod.fst (isT_k0 ho)) (isT_r6 ho) ?_
          refine w_iload (Ev.cm _) rfl rfl ?_
          obtain ⟨b2, q⟩ := ois q
          refine w_iald (Ev.cm _) rfl (isT_lt ho 5 (by decide)) (congrArg Prod.fst (isT_k5 ho)) (vpK (isT_k5 ho) 300 (by decide) b2.1 b2.2) ?_
          refine w_istore (ls2 := [(0, .ref 319), (1, .ref o), (2, .int x2), (3, .int x3), (4, .int x4), (5, .int x5), (6, .int x6), (7, .int x7), (8, .int (I (o + 4) x4.toNatClampNeg)), (9, .int (I (o + 5) x4.toNatClampNeg))]) (Ev.cm _) rfl rfl ?_
          refine w_iinc (ls2 := [(0, .ref 319), (1, .ref o), (2, .int x2), (3, .int x3), (4, .int (x4 + 1)), (5, .int x5), (6, .int x6), (7, .int x7), (8, .int (I (o + 4) x4.toNatClampNeg)), (9, .int (I (o + 5) x4.toNatClampNeg))]) (Ev.cm _) rfl rfl rfl ?_
          refine w_iload (Ev.cm _) rfl rfl ?_
          obtain ⟨⟨r3, I3, L3⟩, e3, q⟩ := obs q
          dsimp only at q
          refine w_cstat (as := [.int (I (o + 4) x4.toNatClampNeg)]) (st := []) (Ev.cm _) rfl rfl rfl (Nat.le_of_ble_eq_true rfl) (Nat.le_of_ble_eq_true rfl) (eo_W_takenBy (g := ?_) e3)
          show Wp _ _ _ _ _ _ _ 86 [(0, .ref 319), (1, .ref o), (2, .int x2), (3, .int x3), (4, .int (x4 + 1)), (5, .int x5), (6, .int x6), (7, .int x7), (8, .int (I (o + 4) x4.toNatClampNeg)), (9, .int (I (o + 5) x4.toNatClampNeg))] [.int r3] (HS I3 L3 X)
          refine w_istore (ls2 := [(0, .ref 319), (1, .ref o), (2, .int x2), (3, .int x3), (4, .int (x4 + 1)), (5, .int x5), (6, .int x6), (7, .int x7), (8, .int (I (o + 4) x4.toNatClampNeg)), (9, .int (I (o + 5) x4.toNatClampNeg)), (10, .int r3)]) (Ev.cm _) rfl rfl ?_
          refine w_iload (Ev.cm _) rfl rfl ?_
          refine w_iload (Ev.cm _) rfl rfl ?_
          refine w_icmp_lt (Ev.cm _) rfl (fun c7 => ?_) (fun c7 => ?_)
          · have c7 : x6 < r3 := c7
            rw [if_pos c7] at q
            refine w_iconst (Ev.cm _) rfl ?_
            refine w_ireturn (Ev.cm _) rfl trivial rf0 ?_
            cases q
            exact g
          · have c7 : ¬ (x6 < r3) := c7
            rw [if_neg c7] at q
            refine w_iload (Ev.cm _) rfl rfl ?_
            refine w_bipush (Ev.cm _) rfl ?_
            refine w_icmp_lt (Ev.cm _) rfl (fun c8 => ?_) (fun c8 => ?_)
            · have c8 : x6 < 80 := c8
              rw [if_pos c8] at q
              refine w_iload (Ev.cm _) rfl rfl ?_
              refine w_iconst (Ev.cm _) rfl ?_
              refine w_icmp_ne (Ev.cm _) rfl (fun c9 => ?_) (fun c9 => ?_)
              · have c9 : ¬ (r3 = 2) := c9
                rw [if_neg c9] at q
                refine w_iload (Ev.cm _) rfl rfl ?_
                refine w_bipush (Ev.cm _) rfl ?_
                refine w_icmp_ne (Ev.cm _) rfl (fun c10 => ?_) (fun c10 => ?_)
                · have c10 : ¬ (I (o + 4) x4.toNatClampNeg = 63) := c10
                  rw [if_neg c10] at q
                  refine w_iload (Ev.cm _) rfl rfl ?_
                  refine w_bipush (Ev.cm _) rfl ?_
                  refine w_icmp_ne (Ev.cm _) rfl (fun c11 => ?_) (fun c11 => ?_)
                  · have c11 : ¬ (I (o + 4) x4.toNatClampNeg = 62) := c11
                    rw [if_neg c11] at q
                    refine w_iload (Ev.cm _) rfl rfl ?_
                    refine w_iconst (Ev.cm _) rfl ?_
                    refine w_icmp_ne (Ev.cm _) rfl (fun c12 => ?_) (fun c12 => ?_)
                    · have c12 : ¬ (r3 = 1) := c12
                      rw [if_neg c12] at q
                      refine w_aload_n (Ev.cm _) rfl rfl ?_
                      refine w_getR (q := 320) (Ev.cm _) rfl (Nat.le_of_ble_eq_true rfl) rfl rfl ?_
                      refine w_iload (Ev.cm _) rfl rfl ?_
                      refine w_iload (Ev.cm _) rfl rfl ?_
                      refine w_bipush (Ev.cm _) rfl ?_
                      refine w_icmp_ne (Ev.cm _) rfl (fun c13 => ?_) (fun c13 => ?_)
                      · have c13 : ¬ (I (o + 4) x4.toNatClampNeg = 60) := c13
                        rw [if_neg c13] at q
                        refine w_iload (Ev.cm _) rfl rfl ?_
                        obtain ⟨b4, q⟩ := ois q
                        refine w_iast (Ev.cm _) rfl (Nat.le_of_ble_eq_true rfl) rfl (show vp_in x6 80 from vpI 80 (by decide) b4.1 b4.2) ?_
                        refine w_iinc (ls2 := [(0, .ref 319), (1, .ref o), (2, .int x2), (3, .int x3), (4, .int (x4 + 1)), (5, .int x5), (6, .int (x6 + 1)), (7, .int x7), (8, .int (I (o + 4) x4.toNatClampNeg)), (9, .int (I (o + 5) x4.toNatClampNeg)), (10, .int r3)]) (Ev.cm _) rfl rfl rfl ?_
                        refine w_iinc (ls2 := [(0, .ref 319), (1, .ref o), (2, .int x2), (3, .int x3), (4, .int (x4 + 1)), (5, .int x5), (6, .int (x6 + 1)), (7, .int (x7 + 1)), (8, .int (I (o + 4) x4.toNatClampNeg)), (9, .int (I (o + 5) x4.toNatClampNeg)), (10, .int r3)]) (Ev.cm _) rfl rfl rfl ?_
                        refine w_goto (Ev.cm _) rfl ?_
                        show Wp _ _ _ _ _ _ _ 40 [(0, .ref 319), (1, .ref o), (2, .int x2), (3, .int x3), (4, .int (x4 + 1)), (5, .int x5), (6, .int (x6 + 1)), (7, .int (x7 + 1)), (8, .int (I (o + 4) x4.toNatClampNeg)), (9, .int (I (o + 5) x4.toNatClampNeg)), (10, .int r3)] [] (HS (sI I3 320 x6.toNatClampNeg (I (o + 5) x4.toNatClampNeg)) L3 X)
                        refine Wp.sub [0, 1, 2, 3, 4, 5, 6, 7] (ls2 := [(0, .ref 319), (1, .ref o), (2, .int x2), (3, .int x3), (4, .int (x4 + 1)), (5, .int x5), (6, .int (x6 + 1)), (7, .int (x7 + 1))]) rfl ?_
                        exact ih _ _ _ _ _ _ _ _ q
                      · have c13 : I (o + 4) x4.toNatClampNeg = 60 := c13
                        rw [if_pos c13] at q
                        refine w_iload (Ev.cm _) rfl rfl ?_
                        refine w_iconst (Ev.cm _) rfl ?_
                        refine w_bipush (Ev.cm _) rfl ?_
                        refine w_cnest (as := [.int (I (o + 5) x4.toNatClampNeg), .int 0, .int 7]) (st := [.int x6, .ref 320]) (Ev.cm _) rfl rfl rfl (Nat.le_of_ble_eq_true rfl) (Nat.le_of_ble_eq_true rfl) (x_within ?_)
                        show Wp _ _ _ _ _ _ _ 246 [(0, .ref 319), (1, .ref o), (2, .int x2), (3, .int x3), (4, .int (x4 + 1)), (5, .int x5), (6, .int x6), (7, .int x7), (8, .int (I (o + 4) x4.toNatClampNeg)), (9, .int (I (o + 5) x4.toNatClampNeg)), (10, .int r3)] [.int (bI ((0 : Int32) ≤ (I (o + 5) x4.toNatClampNeg) ∧ (I (o + 5) x4.toNatClampNeg) ≤ (7 : Int32))), .int x6, .ref 320] (HS I3 L3 X)
                        refine w_if_eq (Ev.cm _) rfl (fun c14 => ?_) (fun c14 => ?_)
                        · have c14 : ¬ ((0 : Int32) ≤ (I (o + 5) x4.toNatClampNeg) ∧ (I (o + 5) x4.toNatClampNeg) ≤ (7 : Int32)) := bI_0.mp c14
                          rw [if_neg c14] at q
                          refine w_iload (Ev.cm _) rfl rfl ?_
                          obtain ⟨b5, q⟩ := ois q
                          refine w_iast (Ev.cm _) rfl (Nat.le_of_ble_eq_true rfl) rfl (show vp_in x6 80 from vpI 80 (by decide) b5.1 b5.2) ?_
                          refine w_iinc (ls2 := [(0, .ref 319), (1, .ref o), (2, .int x2), (3, .int x3), (4, .int (x4 + 1)), (5, .int x5), (6, .int (x6 + 1)), (7, .int x7), (8, .int (I (o + 4) x4.toNatClampNeg)), (9, .int (I (o + 5) x4.toNatClampNeg)), (10, .int r3)]) (Ev.cm _) rfl rfl rfl ?_
                          refine w_iinc (ls2 := [(0, .ref 319), (1, .ref o), (2, .int x2), (3, .int x3), (4, .int (x4 + 1)), (5, .int x5), (6, .int (x6 + 1)), (7, .int (x7 + 1)), (8, .int (I (o + 4) x4.toNatClampNeg)), (9, .int (I (o + 5) x4.toNatClampNeg)), (10, .int r3)]) (Ev.cm _) rfl rfl rfl ?_
                          refine w_goto (Ev.cm _) rfl ?_
                          show Wp _ _ _ _ _ _ _ 40 [(0, .ref 319), (1, .ref o), (2, .int x2), (3, .int x3), (4, .int (x4 + 1)), (5, .int x5), (6, .int (x6 + 1)), (7, .int (x7 + 1)), (8, .int (I (o + 4) x4.toNatClampNeg)), (9, .int (I (o + 5) x4.toNatClampNeg)), (10, .int r3)] [] (HS (sI I3 320 x6.toNatClampNeg (I (o + 5) x4.toNatClampNeg)) L3 X)
                          refine Wp.sub [0, 1, 2, 3, 4, 5, 6, 7] (ls2 := [(0, .ref 319), (1, .ref o), (2, .int x2), (3, .int x3), (4, .int (x4 + 1)), (5, .int x5), (6, .int (x6 + 1)), (7, .int (x7 + 1))]) rfl ?_
                          exact ih _ _ _ _ _ _ _ _ q
                        · have c14 : (0 : Int32) ≤ (I (o + 5) x4.toNatClampNeg) ∧ (I (o + 5) x4.toNatClampNeg) ≤ (7 : Int32) := bI_1.mp c14
                          rw [if_pos c14] at q
                          refine w_aload_n (Ev.cm _) rfl rfl ?_
                          refine w_getR (q := 321) (Ev.cm _) rfl (Nat.le_of_ble_eq_true rfl) rfl rfl ?_
                          refine w_iload (Ev.cm _) rfl rfl ?_
                          obtain ⟨b6, q⟩ := ois q
                          refine w_iald (Ev.cm _) rfl (Nat.le_of_ble_eq_true rfl) rfl (show vp_in (I (o + 5) x4.toNatClampNeg) 8 from vpI 8 (by decide) b6.1 b6.2) ?_
                          refine w_goto (Ev.cm _) rfl ?_
                          obtain ⟨b7, q⟩ := ois q
                          refine w_iast (Ev.cm _) rfl (Nat.le_of_ble_eq_true rfl) rfl (show vp_in x6 80 from vpI 80 (by decide) b7.1 b7.2) ?_
                          refine w_iinc (ls2 := [(0, .ref 319), (1, .ref o), (2, .int x2), (3, .int x3), (4, .int (x4 + 1)), (5, .int x5), (6, .int (x6 + 1)), (7, .int x7), (8, .int (I (o + 4) x4.toNatClampNeg)), (9, .int (I (o + 5) x4.toNatClampNeg)), (10, .int r3)]) (Ev.cm _) rfl rfl rfl ?_
                          refine w_iinc (ls2 := [(0, .ref 319), (1, .ref o), (2, .int x2), (3, .int x3), (4, .int (x4 + 1)), (5, .int x5), (6, .int (x6 + 1)), (7, .int (x7 + 1)), (8, .int (I (o + 4) x4.toNatClampNeg)), (9, .int (I (o + 5) x4.toNatClampNeg)), (10, .int r3)]) (Ev.cm _) rfl rfl rfl ?_
                          refine w_goto (Ev.cm _) rfl ?_
                          show Wp _ _ _ _ _ _ _ 40 [(0, .ref 319), (1, .ref o), (2, .int x2), (3, .int x3), (4, .int (x4 + 1)), (5, .int x5), (6, .int (x6 + 1)), (7, .int (x7 + 1)), (8, .int (I (o + 4) x4.toNatClampNeg)), (9, .int (I (o + 5) x4.toNatClampNeg)), (10, .int r3)] [] (HS (sI I3 320 x6.toNatClampNeg (I3 321 ((I (o + 5) x4.toNatClampNeg).toNatClampNeg))) L3 X)
                          refine Wp.sub [0, 1, 2, 3, 4, 5, 6, 7] (ls2 := [(0, .ref 319), (1, .ref o), (2, .int x2), (3, .int x3), (4, .int (x4 + 1)), (5, .int x5), (6, .int (x6 + 1)), (7, .int (x7 + 1))]) rfl ?_
                          exact ih _ _ _ _ _ _ _ _ q
                    · have c12 : r3 = 1 := c12
                      rw [if_pos c12] at q
                      refine w_aload_n (Ev.cm _) rfl rfl ?_
                      refine w_getR (q := 320) (Ev.cm _) rfl (Nat.le_of_ble_eq_true rfl) rfl rfl ?_
                      refine w_iload (Ev.cm _) rfl rfl ?_
                      refine w_iconst (Ev.cm _) rfl ?_
                      refine w_isub (Ev.cm _) rfl ?_
                      refine w_aload_n (Ev.cm _) rfl rfl ?_
                      refine w_iload (Ev.cm _) rfl rfl ?_
                      refine w_aload_n (Ev.cm _) rfl rfl ?_
                      refine w_getR (q := 320) (Ev.cm _) rfl (Nat.le_of_ble_eq_true rfl) rfl rfl ?_
                      refine w_iload (Ev.cm _) rfl rfl ?_
                      refine w_iconst (Ev.cm _) rfl ?_
                      refine w_isub (Ev.cm _) rfl ?_
                      obtain ⟨b8, q⟩ := ois q
                      refine w_iald (Ev.cm _) rfl (Nat.le_of_ble_eq_true rfl) rfl (show vp_in (x6 - 1) 80 from vpI 80 (by decide) b8.1 b8.2) ?_
                      obtain ⟨⟨r9, I9, L9⟩, e9, q⟩ := obs q
                      dsimp only at q
                      refine w_cvirt (o := 319) (as := [.int (I (o + 4) x4.toNatClampNeg), .int (I3 320 ((x6 - 1).toNatClampNeg))]) (st := [.int (x6 - 1), .ref 320]) (Ev.cm _) rfl rfl rfl (Nat.le_of_ble_eq_true rfl) (Nat.le_of_ble_eq_true rfl) rfl (Nat.le_of_ble_eq_true rfl) (eo_W_turn (g := ?_) e9)
                      show Wp _ _ _ _ _ _ _ 221 [(0, .ref 319), (1, .ref o), (2, .int x2), (3, .int x3), (4, .int (x4 + 1)), (5, .int x5), (6, .int x6), (7, .int x7), (8, .int (I (o + 4) x4.toNatClampNeg)), (9, .int (I (o + 5) x4.toNatClampNeg)), (10, .int r3)] [.int r9, .int (x6 - 1), .ref 320] (HS I9 L9 X)
                      obtain ⟨b10, q⟩ := ois q
                      refine w_iast (Ev.cm _) rfl (Nat.le_of_ble_eq_true rfl) rfl (show vp_in (x6 - 1) 80 from vpI 80 (by decide) b10.1 b10.2) ?_
                      refine w_goto (Ev.cm _) rfl ?_
                      refine w_iinc (ls2 := [(0, .ref 319), (1, .ref o), (2, .int x2), (3, .int x3), (4, .int (x4 + 1)), (5, .int x5), (6, .int x6), (7, .int (x7 + 1)), (8, .int (I (o + 4) x4.toNatClampNeg)), (9, .int (I (o + 5) x4.toNatClampNeg)), (10, .int r3)]) (Ev.cm _) rfl rfl rfl ?_
                      refine w_goto (Ev.cm _) rfl ?_
                      show Wp _ _ _ _ _ _ _ 40 [(0, .ref 319), (1, .ref o), (2, .int x2), (3, .int x3), (4, .int (x4 + 1)), (5, .int x5), (6, .int x6), (7, .int (x7 + 1)), (8, .int (I (o + 4) x4.toNatClampNeg)), (9, .int (I (o + 5) x4.toNatClampNeg)), (10, .int r3)] [] (HS (sI I9 320 ((x6 - 1).toNatClampNeg) r9) L9 X)
                      refine Wp.sub [0, 1, 2, 3, 4, 5, 6, 7] (ls2 := [(0, .ref 319), (1, .ref o), (2, .int x2), (3, .int x3), (4, .int (x4 + 1)), (5, .int x5), (6, .int x6), (7, .int (x7 + 1))]) rfl ?_
                      exact ih _ _ _ _ _ _ _ _ q
                  · have c11 : I (o + 4) x4.toNatClampNeg = 62 := c11
                    rw [if_pos c11] at q
                    refine w_iload (Ev.cm _) rfl rfl ?_
                    refine w_istore (ls2 := [(0, .ref 319), (1, .ref o), (2, .int x2), (3, .int x3), (4, .int (I (o + 5) x4.toNatClampNeg)), (5, .int x5), (6, .int x6), (7, .int x7), (8, .int (I (o + 4) x4.toNatClampNeg)), (9, .int (I (o + 5) x4.toNatClampNeg)), (10, .int r3)]) (Ev.cm _) rfl rfl ?_
                    refine w_goto (Ev.cm _) rfl ?_
                    refine w_iinc (ls2 := [(0, .ref 319), (1, .ref o), (2, .int x2), (3, .int x3), (4, .int (I (o + 5) x4.toNatClampNeg)), (5, .int x5), (6, .int x6), (7, .int (x7 + 1)), (8, .int (I (o + 4) x4.toNatClampNeg)), (9, .int (I (o + 5) x4.toNatClampNeg)), (10, .int r3)]) (Ev.cm _) rfl rfl rfl ?_
                    refine w_goto (Ev.cm _) rfl ?_
                    show Wp _ _ _ _ _ _ _ 40 [(0, .ref 319), (1, .ref o), (2, .int x2), (3, .int x3), (4, .int (I (o + 5) x4.toNatClampNeg)), (5, .int x5), (6, .int x6), (7, .int (x7 + 1)), (8, .int (I (o + 4) x4.toNatClampNeg)), (9, .int (I (o + 5) x4.toNatClampNeg)), (10, .int r3)] [] (HS I3 L3 X)
                    refine Wp.sub [0, 1, 2, 3, 4, 5, 6, 7] (ls2 := [(0, .ref 319), (1, .ref o), (2, .int x2), (3, .int x3), (4, .int (I (o + 5) x4.toNatClampNeg)), (5, .int x5), (6, .int x6), (7, .int (x7 + 1))]) rfl ?_
                    exact ih _ _ _ _ _ _ _ _ q
                · have c10 : I (o + 4) x4.toNatClampNeg = 63 := c10
                  rw [if_pos c10] at q
                  refine w_iinc (ls2 := [(0, .ref 319), (1, .ref o), (2, .int x2), (3, .int x3), (4, .int (x4 + 1)), (5, .int x5), (6, .int (x6 + (-1))), (7, .int x7), (8, .int (I (o + 4) x4.toNatClampNeg)), (9, .int (I (o + 5) x4.toNatClampNeg)), (10, .int r3)]) (Ev.cm _) rfl rfl rfl ?_
                  refine w_aload_n (Ev.cm _) rfl rfl ?_
                  refine w_getR (q := 320) (Ev.cm _) rfl (Nat.le_of_ble_eq_true rfl) rfl rfl ?_
                  refine w_iload (Ev.cm _) rfl rfl ?_
                  obtain ⟨b11, q⟩ := ois q
                  refine w_iald (Ev.cm _) rfl (Nat.le_of_ble_eq_true rfl) rfl (show vp_in (x6 + (-1)) 80 from vpI 80 (by decide) b11.1 b11.2) ?_
                  refine w_if_ne (Ev.cm _) rfl (fun c15 => ?_) (fun c15 => ?_)
                  · have c15 : ¬ (I3 320 ((x6 + (-1)).toNatClampNeg) = 0) := c15
                    rw [if_neg c15] at q
                    refine w_iload (Ev.cm _) rfl rfl ?_
                    refine w_istore (ls2 := [(0, .ref 319), (1, .ref o), (2, .int x2), (3, .int x3), (4, .int (x4 + 1)), (5, .int x5), (6, .int (x6 + (-1))), (7, .int x7), (8, .int (I (o + 4) x4.toNatClampNeg)), (9, .int (I (o + 5) x4.toNatClampNeg)), (10, .int r3)]) (Ev.cm _) rfl rfl ?_
                    refine w_goto (Ev.cm _) rfl ?_
                    refine w_iinc (ls2 := [(0, .ref 319), (1, .ref o), (2, .int x2), (3, .int x3), (4, .int (x4 + 1)), (5, .int x5), (6, .int (x6 + (-1))), (7, .int (x7 + 1)), (8, .int (I (o + 4) x4.toNatClampNeg)), (9, .int (I (o + 5) x4.toNatClampNeg)), (10, .int r3)]) (Ev.cm _) rfl rfl rfl ?_
                    refine w_goto (Ev.cm _) rfl ?_
                    show Wp _ _ _ _ _ _ _ 40 [(0, .ref 319), (1, .ref o), (2, .int x2), (3, .int x3), (4, .int (x4 + 1)), (5, .int x5), (6, .int (x6 + (-1))), (7, .int (x7 + 1)), (8, .int (I (o + 4) x4.toNatClampNeg)), (9, .int (I (o + 5) x4.toNatClampNeg)), (10, .int r3)] [] (HS I3 L3 X)
                    refine Wp.sub [0, 1, 2, 3, 4, 5, 6, 7] (ls2 := [(0, .ref 319), (1, .ref o), (2, .int x2), (3, .int x3), (4, .int (x4 + 1)), (5, .int x5), (6, .int (x6 + (-1))), (7, .int (x7 + 1))]) rfl ?_
                    exact ih _ _ _ _ _ _ _ _ q
                  · have c15 : I3 320 ((x6 + (-1)).toNatClampNeg) = 0 := c15
                    rw [if_pos c15] at q
                    refine w_iload (Ev.cm _) rfl rfl ?_
                    refine w_goto (Ev.cm _) rfl ?_
                    refine w_istore (ls2 := [(0, .ref 319), (1, .ref o), (2, .int x2), (3, .int x3), (4, .int (I (o + 5) x4.toNatClampNeg)), (5, .int x5), (6, .int (x6 + (-1))), (7, .int x7), (8, .int (I (o + 4) x4.toNatClampNeg)), (9, .int (I (o + 5) x4.toNatClampNeg)), (10, .int r3)]) (Ev.cm _) rfl rfl ?_
                    refine w_goto (Ev.cm _) rfl ?_
                    refine w_iinc (ls2 := [(0, .ref 319), (1, .ref o), (2, .int x2), (3, .int x3), (4, .int (I (o + 5) x4.toNatClampNeg)), (5, .int x5), (6, .int (x6 + (-1))), (7, .int (x7 + 1)), (8, .int (I (o + 4) x4.toNatClampNeg)), (9, .int (I (o + 5) x4.toNatClampNeg)), (10, .int r3)]) (Ev.cm _) rfl rfl rfl ?_
                    refine w_goto (Ev.cm _) rfl ?_
                    show Wp _ _ _ _ _ _ _ 40 [(0, .ref 319), (1, .ref o), (2, .int x2), (3, .int x3), (4, .int (I (o + 5) x4.toNatClampNeg)), (5, .int x5), (6, .int (x6 + (-1))), (7, .int (x7 + 1)), (8, .int (I (o + 4) x4.toNatClampNeg)), (9, .int (I (o + 5) x4.toNatClampNeg)), (10, .int r3)] [] (HS I3 L3 X)
                    refine Wp.sub [0, 1, 2, 3, 4, 5, 6, 7] (ls2 := [(0, .ref 319), (1, .ref o), (2, .int x2), (3, .int x3), (4, .int (I (o + 5) x4.toNatClampNeg)), (5, .int x5), (6, .int (x6 + (-1))), (7, .int (x7 + 1))]) rfl ?_
                    exact ih _ _ _ _ _ _ _ _ q
              · have c9 : r3 = 2 := c9
                rw [if_pos c9] at q
                refine w_iinc (ls2 := [(0, .ref 319), (1, .ref o), (2, .int x2), (3, .int x3), (4, .int (x4 + 1)), (5, .int x5), (6, .int (x6 + (-1))), (7, .int x7), (8, .int (I (o + 4) x4.toNatClampNeg)), (9, .int (I (o + 5) x4.toNatClampNeg)), (10, .int r3)]) (Ev.cm _) rfl rfl rfl ?_
                refine w_aload_n (Ev.cm _) rfl rfl ?_
                refine w_getR (q := 320) (Ev.cm _) rfl (Nat.le_of_ble_eq_true rfl) rfl rfl ?_
                refine w_iload (Ev.cm _) rfl rfl ?_
                refine w_iconst (Ev.cm _) rfl ?_
                refine w_isub (Ev.cm _) rfl ?_
                refine w_iload (Ev.cm _) rfl rfl ?_
                refine w_aload_n (Ev.cm _) rfl rfl ?_
                refine w_getR (q := 320) (Ev.cm _) rfl (Nat.le_of_ble_eq_true rfl) rfl rfl ?_
                refine w_iload (Ev.cm _) rfl rfl ?_
                refine w_iconst (Ev.cm _) rfl ?_
                refine w_isub (Ev.cm _) rfl ?_
                obtain ⟨b12, q⟩ := ois q
                refine w_iald (Ev.cm _) rfl (Nat.le_of_ble_eq_true rfl) rfl (show vp_in ((x6 + (-1)) - 1) 80 from vpI 80 (by decide) b12.1 b12.2) ?_
                refine w_aload_n (Ev.cm _) rfl rfl ?_
                refine w_getR (q := 320) (Ev.cm _) rfl (Nat.le_of_ble_eq_true rfl) rfl rfl ?_
                refine w_iload (Ev.cm _) rfl rfl ?_
                obtain ⟨b13, q⟩ := ois q
                refine w_iald (Ev.cm _) rfl (Nat.le_of_ble_eq_true rfl) rfl (show vp_in (x6 + (-1)) 80 from vpI 80 (by decide) b13.1 b13.2) ?_
                obtain ⟨⟨r14, I14, L14⟩, e14, q⟩ := obs q
                dsimp only at q
                refine w_cstat (as := [.int (I (o + 4) x4.toNatClampNeg), .int (I3 320 (((x6 + (-1)) - 1).toNatClampNeg)), .int (I3 320 ((x6 + (-1)).toNatClampNeg))]) (st := [.int ((x6 + (-1)) - 1), .ref 320]) (Ev.cm _) rfl rfl rfl (Nat.le_of_ble_eq_true rfl) (Nat.le_of_ble_eq_true rfl) (eo_W_join (g := ?_) e14)
                show Wp _ _ _ _ _ _ _ 142 [(0, .ref 319), (1, .ref o), (2, .int x2), (3, .int x3), (4, .int (x4 + 1)), (5, .int x5), (6, .int (x6 + (-1))), (7, .int x7), (8, .int (I (o + 4) x4.toNatClampNeg)), (9, .int (I (o + 5) x4.toNatClampNeg)), (10, .int r3)] [.int r14, .int ((x6 + (-1)) - 1), .ref 320] (HS I14 L14 X)
                obtain ⟨b15, q⟩ := ois q
                refine w_iast (Ev.cm _) rfl (Nat.le_of_ble_eq_true rfl) rfl (show vp_in ((x6 + (-1)) - 1) 80 from vpI 80 (by decide) b15.1 b15.2) ?_
                refine w_goto (Ev.cm _) rfl ?_
                refine w_iinc (ls2 := [(0, .ref 319), (1, .ref o), (2, .int x2), (3, .int x3), (4, .int (x4 + 1)), (5, .int x5), (6, .int (x6 + (-1))), (7, .int (x7 + 1)), (8, .int (I (o + 4) x4.toNatClampNeg)), (9, .int (I (o + 5) x4.toNatClampNeg)), (10, .int r3)]) (Ev.cm _) rfl rfl rfl ?_
                refine w_goto (Ev.cm _) rfl ?_
                show Wp _ _ _ _ _ _ _ 40 [(0, .ref 319), (1, .ref o), (2, .int x2), (3, .int x3), (4, .int (x4 + 1)), (5, .int x5), (6, .int (x6 + (-1))), (7, .int (x7 + 1)), (8, .int (I (o + 4) x4.toNatClampNeg)), (9, .int (I (o + 5) x4.toNatClampNeg)), (10, .int r3)] [] (HS (sI I14 320 (((x6 + (-1)) - 1).toNatClampNeg) r14) L14 X)
                refine Wp.sub [0, 1, 2, 3, 4, 5, 6, 7] (ls2 := [(0, .ref 319), (1, .ref o), (2, .int x2), (3, .int x3), (4, .int (x4 + 1)), (5, .int x5), (6, .int (x6 + (-1))), (7, .int (x7 + 1))]) rfl ?_
                exact ih _ _ _ _ _ _ _ _ q
            · have c8 : ¬ (x6 < 80) := c8
              rw [if_neg c8] at q
              refine w_iconst (Ev.cm _) rfl ?_
              refine w_ireturn (Ev.cm _) rfl trivial rf0 ?_
              cases q
              exact g
def FO_W_says (fu : Nat) (o : Nat) (p1 : Int32) (I : Nat → Nat → Int32) (L : Nat → Nat → Int64) : Option (Int32 × (Nat → Nat → Int32) × (Nat → Nat → Int64)) := if p1 = 38 then (LO_W_says_40 fu o fu p1 0 (I (o + 6) 0) (F_J_min I (I (o + 7) 0) 300) 0 0 I L) else (LO_W_says_40 fu o fu p1 1 (I (o + 6) 1) (F_J_min I (I (o + 7) 1) 300) 0 0 I L)
set_option maxHeartbeats 20000000 in
set_option maxRecDepth 20000 in
theorem eo_W_says {d fu : Nat} {o : Nat} {p1 : Int32} {I : Nat → Nat → Int32} {L : Nat → Nat → Int64} {X : Nat × (Nat → Int32)} {Q : PQ} {res : Int32 × (Nat → Nat → Int32) × (Nat → Nat → Int64)}  (ho : isT o) (g : Q (some (.int res.1)) (HS res.2.1 res.2.2 X)) (q : FO_W_says fu o p1 I L = some res) : Ev (d + 3) m_W_says [.ref 319, .ref o, .int p1] (HS I L X) Q := by
  unfold FO_W_says at q
  refine ev_start (d := d + 2) rfl rfl rfl (Nat.le_of_ble_eq_true rfl) ?_
  show Wp (Ev (d + 2)) cd_W_says (0, 0) (some .int) _ _ Q 0 [(0, .ref 319), (1, .ref o), (2, .int p1)] [] (HS I L X)
  refine w_iload_n (Ev.cm _) rfl rfl ?_
  refine w_bipush (Ev.cm _) rfl ?_
  refine w_icmp_ne (Ev.cm _) rfl (fun c1 => ?_) (fun c1 => ?_)
  · have c1 : ¬ (p1 = 38) := c1
    rw [if_neg c1] at q
    refine w_iconst (Ev.cm _) rfl ?_
    refine w_istore_n (ls2 := [(0, .ref 319), (1, .ref o), (2, .int p1), (3, .int 1)]) (Ev.cm _) rfl rfl ?_
    refine w_aload_n (Ev.cm _) rfl rfl ?_
    refine w_getR (q := o + 6) (Ev.cm _) rfl (isT_lt0 ho) (congrArg Prod.fst (isT_k0 ho)) (isT_r7 ho) ?_
    refine w_iload_n (Ev.cm _) rfl rfl ?_
    refine w_iald (Ev.cm _) rfl (isT_lt ho 6 (by decide)) (congrArg Prod.fst (isT_k6 ho)) (vpK (isT_k6 ho) 2 (by decide) (by decide) (by decide)) ?_
    refine w_istore (ls2 := [(0, .ref 319), (1, .ref o), (2, .int p1), (3, .int 1), (4, .int (I (o + 6) 1))]) (Ev.cm _) rfl rfl ?_
    refine w_aload_n (Ev.cm _) rfl rfl ?_
    refine w_getR (q := o + 7) (Ev.cm _) rfl (isT_lt0 ho) (congrArg Prod.fst (isT_k0 ho)) (isT_r8 ho) ?_
    refine w_iload_n (Ev.cm _) rfl rfl ?_
    refine w_iald (Ev.cm _) rfl (isT_lt ho 7 (by decide)) (congrArg Prod.fst (isT_k7 ho)) (vpK (isT_k7 ho) 2 (by decide) (by decide) (by decide)) ?_
    refine w_sipush (Ev.cm _) rfl ?_
    refine w_cstat (as := [.int (I (o + 7) 1), .int 300]) (st := []) (Ev.cm _) rfl rfl rfl (Nat.le_of_ble_eq_true rfl) (Nat.le_of_ble_eq_true rfl) (e_J_min ?_)
    show Wp _ _ _ _ _ _ _ 32 [(0, .ref 319), (1, .ref o), (2, .int p1), (3, .int 1), (4, .int (I (o + 6) 1))] [.int (F_J_min I (I (o + 7) 1) 300)] (HS I L X)
    refine w_istore (ls2 := [(0, .ref 319), (1, .ref o), (2, .int p1), (3, .int 1), (4, .int (I (o + 6) 1)), (5, .int (F_J_min I (I (o + 7) 1) 300))]) (Ev.cm _) rfl rfl ?_
    refine w_iconst (Ev.cm _) rfl ?_
    refine w_istore (ls2 := [(0, .ref 319), (1, .ref o), (2, .int p1), (3, .int 1), (4, .int (I (o + 6) 1)), (5, .int (F_J_min I (I (o + 7) 1) 300)), (6, .int 0)]) (Ev.cm _) rfl rfl ?_
    refine w_iconst (Ev.cm _) rfl ?_
    refine w_istore (ls2 := [(0, .ref 319), (1, .ref o), (2, .int p1), (3, .int 1), (4, .int (I (o + 6) 1)), (5, .int (F_J_min I (I (o + 7) 1) 300)), (6, .int 0), (7, .int 0)]) (Ev.cm _) rfl rfl ?_
    show Wp _ _ _ _ _ _ _ 40 [(0, .ref 319), (1, .ref o), (2, .int p1), (3, .int 1), (4, .int (I (o + 6) 1)), (5, .int (F_J_min I (I (o + 7) 1) 300)), (6, .int 0), (7, .int 0)] [] (HS I L X)
    refine Wp.sub [0, 1, 2, 3, 4, 5, 6, 7] (ls2 := [(0, .ref 319), (1, .ref o), (2, .int p1), (3, .int 1), (4, .int (I (o + 6) 1)), (5, .int (F_J_min I (I (o + 7) 1) 300)), (6, .int 0), (7, .int 0)]) rfl ?_
    exact lo_W_says_40 ho g fu _ _ _ _ _ _ _ _ q
  · have c1 : p1 = 38 := c1
    rw [if_pos c1] at q
    refine w_iconst (Ev.cm _) rfl ?_
    refine w_goto (Ev.cm _) rfl ?_
    refine w_istore_n (ls2 := [(0, .ref 319), (1, .ref o), (2, .int p1), (3, .int 0)]) (Ev.cm _) rfl rfl ?_
    refine w_aload_n (Ev.cm _) rfl rfl ?_
    refine w_getR (q := o + 6) (Ev.cm _) rfl (isT_lt0 ho) (congrArg Prod.fst (isT_k0 ho)) (isT_r7 ho) ?_
    refine w_iload_n (Ev.cm _) rfl rfl ?_
    refine w_iald (Ev.cm _) rfl (isT_lt ho 6 (by decide)) (congrArg Prod.fst (isT_k6 ho)) (vpK (isT_k6 ho) 2 (by decide) (by decide) (by decide)) ?_
    refine w_istore (ls2 := [(0, .ref 319), (1, .ref o), (2, .int p1), (3, .int 0), (4, .int (I (o + 6) 0))]) (Ev.cm _) rfl rfl ?_
    refine w_aload_n (Ev.cm _) rfl rfl ?_
    refine w_getR (q := o + 7) (Ev.cm _) rfl (isT_lt0 ho) (congrArg Prod.fst (isT_k0 ho)) (isT_r8 ho) ?_
    refine w_iload_n (Ev.cm _) rfl rfl ?_
    refine w_iald (Ev.cm _) rfl (isT_lt ho 7 (by decide)) (congrArg Prod.fst (isT_k7 ho)) (vpK (isT_k7 ho) 2 (by decide) (by decide) (by decide)) ?_
    refine w_sipush (Ev.cm _) rfl ?_
    refine w_cstat (as := [.int (I (o + 7) 0), .int 300]) (st := []) (Ev.cm _) rfl rfl rfl (Nat.le_of_ble_eq_true rfl) (Nat.le_of_ble_eq_true rfl) (e_J_min ?_)
    show Wp _ _ _ _ _ _ _ 32 [(0, .ref 319), (1, .ref o), (2, .int p1), (3, .int 0), (4, .int (I (o + 6) 0))] [.int (F_J_min I (I (o + 7) 0) 300)] (HS I L X)
    refine w_istore (ls2 := [(0, .ref 319), (1, .ref o), (2, .int p1), (3, .int 0), (4, .int (I (o + 6) 0)), (5, .int (F_J_min I (I (o + 7) 0) 300))]) (Ev.cm _) rfl rfl ?_
    refine w_iconst (Ev.cm _) rfl ?_
    refine w_istore (ls2 := [(0, .ref 319), (1, .ref o), (2, .int p1), (3, .int 0), (4, .int (I (o + 6) 0)), (5, .int (F_J_min I (I (o + 7) 0) 300)), (6, .int 0)]) (Ev.cm _) rfl rfl ?_
    refine w_iconst (Ev.cm _) rfl ?_
    refine w_istore (ls2 := [(0, .ref 319), (1, .ref o), (2, .int p1), (3, .int 0), (4, .int (I (o + 6) 0)), (5, .int (F_J_min I (I (o + 7) 0) 300)), (6, .int 0), (7, .int 0)]) (Ev.cm _) rfl rfl ?_
    show Wp _ _ _ _ _ _ _ 40 [(0, .ref 319), (1, .ref o), (2, .int p1), (3, .int 0), (4, .int (I (o + 6) 0)), (5, .int (F_J_min I (I (o + 7) 0) 300)), (6, .int 0), (7, .int 0)] [] (HS I L X)
    refine Wp.sub [0, 1, 2, 3, 4, 5, 6, 7] (ls2 := [(0, .ref 319), (1, .ref o), (2, .int p1), (3, .int 0), (4, .int (I (o + 6) 0)), (5, .int (F_J_min I (I (o + 7) 0) 300)), (6, .int 0), (7, .int 0)]) rfl ?_
    exact lo_W_says_40 ho g fu _ _ _ _ _ _ _ _ q
def LO_O_weighFromFront_18 (fu : Nat) (k_2 : Int32 → (Nat → Nat → Int32) → (Nat → Nat → Int64) → Option (Unit × (Nat → Nat → Int32) × (Nat → Nat → Int64))) : Nat → Int32 → Int32 → (Nat → Nat → Int32) → (Nat → Nat → Int64) → Option (Unit × (Nat → Nat → Int32) × (Nat → Nat → Int64))
  | 0, _, _, _, _ => none
  | n + 1, x2, x3, I, L => if 3 ≤ x3 then (k_2 (x2 + 1) I L) else (if x2 = 0 then ((FO_O_soundWeight fu x2 x3 I L).bind (fun u4 => let r4 := u4.1; let I4 := u4.2.1; let L4 := u4.2.2; if 0 ≤ (x2 * 3) + x3 ∧ (x2 * 3) + x3 < 18 then (LO_O_weighFromFront_18 fu k_2 n x2 (x3 + 1) I4 (sL L4 323 (((x2 * 3) + x3).toNatClampNeg) ((1 : Int64) * ((r4 : Int32).toInt64)))) else none)) else ((FO_O_comesTo fu (x2 - 1) x3 I L).bind (fun u1 => let r1 := u1.1; let I1 := u1.2.1; let L1 := u1.2.2; (FO_O_soundWeight fu x2 x3 I1 L1).bind (fun u2 => let r2 := u2.1; let I2 := u2.2.1; let L2 := u2.2.2; if 0 ≤ (x2 * 3) + x3 ∧ (x2 * 3) + x3 < 18 then (LO_O_weighFromFront_18 fu k_2 n x2 (x3 + 1) I2 (sL L2 323 (((x2 * 3) + x3).toNatClampNeg) (r1 * ((r2 : Int32).toInt64)))) else none))))
set_option maxHeartbeats 20000000 in
set_option maxRecDepth 20000 in
theorem lo_O_weighFromFront_18 {d fu n0 s0 : Nat} {X : Nat × (Nat → Int32)} {Q : PQ} {k_2 : Int32 → (Nat → Nat → Int32) → (Nat → Nat → Int64) → Option (Unit × (Nat → Nat → Int32) × (Nat → Nat → Int64))} {res : Unit × (Nat → Nat → Int32) × (Nat → Nat → Int64)}  (g : Q none (HS res.2.1 res.2.2 X)) (hk_2 : ∀ (x2 : Int32) (I : Nat → Nat → Int32) (L : Nat → Nat → Int64), k_2 x2 I L = some res → Wp (Ev (d + 3)) cd_O_weighFromFront (0, 0) none n0 s0 Q 2 [(0, .ref 322), (1, .ref 1), (2, .int x2)] [] (HS I L X)) : ∀ (n : Nat) (x2 : Int32) (x3 : Int32) (I : Nat → Nat → Int32) (L : Nat → Nat → Int64), LO_O_weighFromFront_18 fu k_2 n x2 x3 I L = some res → Wp (Ev (d + 3)) cd_O_weighFromFront (0, 0) none n0 s0 Q 18 [(0, .ref 322), (1, .ref 1), (2, .int x2), (3, .int x3)] [] (HS I L X) := by
  intro n
  induction n with
  | zero => intro _ _ _ _ q; cases q
  | succ n ih =>
    intro x2 x3 I L q
    unfold LO_O_weighFromFront_18 at q
    refine w_iload_n (Ev.cm _) rfl rfl ?_
    refine w_iconst (Ev.cm _) rfl ?_
    refine w_icmp_ge (Ev.cm _) rfl (fun c1 => ?_) (fun c1 => ?_)
    · have c1 : 3 ≤ x3 := c1
      rw [if_pos c1] at q
      refine w_iinc (ls2 := [(0, .ref 322), (1, .ref 1), (2, .int (x2 + 1)), (3, .int x3)]) (Ev.cm _) rfl rfl rfl ?_
      refine w_goto (Ev.cm _) rfl ?_
      show Wp _ _ _ _ _ _ _ 2 [(0, .ref 322), (1, .ref 1), (2, .int (x2 + 1)), (3, .int x3)] [] (HS I L X)
      refine Wp.sub [0, 1, 2] (ls2 := [(0, .ref 322), (1, .ref 1), (2, .int (x2 + 1))]) rfl ?_
      exact hk_2 _ _ _ q
    · have c1 : ¬ (3 ≤ x3) := c1
      rw [if_neg c1] at q
      refine w_iload_n (Ev.cm _) rfl rfl ?_
      refine w_if_ne (Ev.cm _) rfl (fun c2 => ?_) (fun c2 => ?_)
      · have c2 : ¬ (x2 = 0) := c2
        rw [if_neg c2] at q
        refine w_aload_n (Ev.cm _) rfl rfl ?_
        refine w_aload_n (Ev.cm _) rfl rfl ?_
        refine w_iload_n (Ev.cm _) rfl rfl ?_
        refine w_iconst (Ev.cm _) rfl ?_
        refine w_isub (Ev.cm _) rfl ?_
        refine w_iload_n (Ev.cm _) rfl rfl ?_
        obtain ⟨⟨r1, I1, L1⟩, e1, q⟩ := obs q
        dsimp only at q
        refine w_cvirt (o := 322) (as := [.ref 1, .int (x2 - 1), .int x3]) (st := []) (Ev.cm _) rfl rfl rfl (Nat.le_of_ble_eq_true rfl) (Nat.le_of_ble_eq_true rfl) rfl (Nat.le_of_ble_eq_true rfl) (eo_O_comesTo (g := ?_) e1)
        show Wp _ _ _ _ _ _ _ 40 [(0, .ref 322), (1, .ref 1), (2, .int x2), (3, .int x3)] [.long r1] (HS I1 L1 X)
        refine w_lstore (ls2 := [(0, .ref 322), (1, .ref 1), (2, .int x2), (3, .int x3), (4, .long r1)]) (Ev.cm _) rfl rfl ?_
        refine w_aload_n (Ev.cm _) rfl rfl ?_
        refine w_getR (q := 323) (Ev.cm _) rfl (Nat.le_of_ble_eq_true rfl) rfl rfl ?_
        refine w_iload_n (Ev.cm _) rfl rfl ?_
        refine w_iconst (Ev.cm _) rfl ?_
        refine w_imul (Ev.cm _) rfl ?_
        refine w_iload_n (Ev.cm _) rfl rfl ?_
        refine w_iadd (Ev.cm _) rfl ?_
        refine w_lload (Ev.cm _) rfl rfl ?_
        refine w_aload_n (Ev.cm _) rfl rfl ?_
        refine w_iload_n (Ev.cm _) rfl rfl ?_
        refine w_iload_n (Ev.cm _) rfl rfl ?_
        obtain ⟨⟨r2, I2, L2⟩, e2, q⟩ := obs q
        dsimp only at q
        refine w_cstat (as := [.ref 1, .int x2, .int x3]) (st := [.long r1, .int ((x2 * 3) + x3), .ref 323]) (Ev.cm _) rfl rfl rfl (Nat.le_of_ble_eq_true rfl) (Nat.le_of_ble_eq_true rfl) (eo_O_soundWeight (g := ?_) e2)
        show Wp _ _ _ _ _ _ _ 59 [(0, .ref 322), (1, .ref 1), (2, .int x2), (3, .int x3), (4, .long r1)] [.int r2, .long r1, .int ((x2 * 3) + x3), .ref 323] (HS I2 L2 X)
        refine w_i2l (Ev.cm _) rfl ?_
        refine w_lmul (Ev.cm _) rfl ?_
        obtain ⟨b3, q⟩ := ois q
        refine w_last (Ev.cm _) rfl (Nat.le_of_ble_eq_true rfl) rfl (show vp_in ((x2 * 3) + x3) 18 from vpI 18 (by decide) b3.1 b3.2) ?_
        refine w_iinc (ls2 := [(0, .ref 322), (1, .ref 1), (2, .int x2), (3, .int (x3 + 1)), (4, .long r1)]) (Ev.cm _) rfl rfl rfl ?_
        refine w_goto (Ev.cm _) rfl ?_
        show Wp _ _ _ _ _ _ _ 18 [(0, .ref 322), (1, .ref 1), (2, .int x2), (3, .int (x3 + 1)), (4, .long r1)] [] (HS I2 (sL L2 323 (((x2 * 3) + x3).toNatClampNeg) (r1 * ((r2 : Int32).toInt64))) X)
        refine Wp.sub [0, 1, 2, 3] (ls2 := [(0, .ref 322), (1, .ref 1), (2, .int x2), (3, .int (x3 + 1))]) rfl ?_
        exact ih _ _ _ _ q
      · have c2 : x2 = 0 := c2
        rw [if_pos c2] at q
        refine w_lconst (Ev.cm _) rfl ?_
        refine w_goto (Ev.cm _) rfl ?_
        refine w_lstore (ls2 := [(0, .ref 322), (1, .ref 1), (2, .int x2), (3, .int x3), (4, .long 1)]) (Ev.cm _) rfl rfl ?_
        refine w_aload_n (Ev.cm _) rfl rfl ?_
        refine w_getR (q := 323) (Ev.cm _) rfl (Nat.le_of_ble_eq_true rfl) rfl rfl ?_
        refine w_iload_n (Ev.cm _) rfl rfl ?_
        refine w_iconst (Ev.cm _) rfl ?_
        refine w_imul (Ev.cm _) rfl ?_
        refine w_iload_n (Ev.cm _) rfl rfl ?_
        refine w_iadd (Ev.cm _) rfl ?_
        refine w_lload (Ev.cm _) rfl rfl ?_
        refine w_aload_n (Ev.cm _) rfl rfl ?_
        refine w_iload_n (Ev.cm _) rfl rfl ?_
        refine w_iload_n (Ev.cm _) rfl rfl ?_
        obtain ⟨⟨r4, I4, L4⟩, e4, q⟩ := obs q
        dsimp only at q
        refine w_cstat (as := [.ref 1, .int x2, .int x3]) (st := [.long 1, .int ((x2 * 3) + x3), .ref 323]) (Ev.cm _) rfl rfl rfl (Nat.le_of_ble_eq_true rfl) (Nat.le_of_ble_eq_true rfl) (eo_O_soundWeight (g := ?_) e4)
        show Wp _ _ _ _ _ _ _ 59 [(0, .ref 322), (1, .ref 1), (2, .int x2), (3, .int x3), (4, .long 1)] [.int r4, .long 1, .int ((x2 * 3) + x3), .ref 323] (HS I4 L4 X)
        refine w_i2l (Ev.cm _) rfl ?_
        refine w_lmul (Ev.cm _) rfl ?_
        obtain ⟨b5, q⟩ := ois q
        refine w_last (Ev.cm _) rfl (Nat.le_of_ble_eq_true rfl) rfl (show vp_in ((x2 * 3) + x3) 18 from vpI 18 (by decide) b5.1 b5.2) ?_
        refine w_iinc (ls2 := [(0, .ref 322), (1, .ref 1), (2, .int x2), (3, .int (x3 + 1)), (4, .long 1)]) (Ev.cm _) rfl rfl rfl ?_
        refine w_goto (Ev.cm _) rfl ?_
        show Wp _ _ _ _ _ _ _ 18 [(0, .ref 322), (1, .ref 1), (2, .int x2), (3, .int (x3 + 1)), (4, .long 1)] [] (HS I4 (sL L4 323 (((x2 * 3) + x3).toNatClampNeg) ((1 : Int64) * ((r4 : Int32).toInt64))) X)
        refine Wp.sub [0, 1, 2, 3] (ls2 := [(0, .ref 322), (1, .ref 1), (2, .int x2), (3, .int (x3 + 1))]) rfl ?_
        exact ih _ _ _ _ q
def LO_O_weighFromFront_2 (fu : Nat) : Nat → Int32 → (Nat → Nat → Int32) → (Nat → Nat → Int64) → Option (Unit × (Nat → Nat → Int32) × (Nat → Nat → Int64))
  | 0, _, _, _ => none
  | n + 1, x2, I, L => if I 1 11 ≤ x2 then (some ((), I, L)) else (if 6 ≤ x2 then (some ((), I, L)) else (LO_O_weighFromFront_18 fu (fun x2 I L => LO_O_weighFromFront_2 fu n x2 I L) fu x2 0 I L))
set_option maxHeartbeats 20000000 in
set_option maxRecDepth 20000 in
theorem lo_O_weighFromFront_2 {d fu n0 s0 : Nat} {X : Nat × (Nat → Int32)} {Q : PQ} {res : Unit × (Nat → Nat → Int32) × (Nat → Nat → Int64)}  (g : Q none (HS res.2.1 res.2.2 X)) : ∀ (n : Nat) (x2 : Int32) (I : Nat → Nat → Int32) (L : Nat → Nat → Int64), LO_O_weighFromFront_2 fu n x2 I L = some res → Wp (Ev (d + 3)) cd_O_weighFromFront (0, 0) none n0 s0 Q 2 [(0, .ref 322), (1, .ref 1), (2, .int x2)] [] (HS I L X) := by
  intro n
  induction n with
  | zero => intro _ _ _ q; cases q
  | succ n ih =>
    intro x2 I L q
    unfold LO_O_weighFromFront_2 at q
    refine w_iload_n (Ev.cm _) rfl rfl ?_
    refine w_aload_n (Ev.cm _) rfl rfl ?_
    refine w_getI (Ev.cm _) rfl (Nat.le_of_ble_eq_true rfl) rfl ?_
    refine w_icmp_ge (Ev.cm _) rfl (fun c1 => ?_) (fun c1 => ?_)
    · have c1 : I 1 11 ≤ x2 := c1
      rw [if_pos c1] at q
      refine w_return (Ev.cm _) rfl rfl rf0 ?_
      cases q
      exact g
    · have c1 : ¬ (I 1 11 ≤ x2) := c1
      rw [if_neg c1] at q
      refine w_iload_n (Ev.cm _) rfl rfl ?_
      refine w_bipush (Ev.cm _) rfl ?_
      refine w_icmp_ge (Ev.cm _) rfl (fun c2 => ?_) (fun c2 => ?_)
      · have c2 : 6 ≤ x2 := c2
        rw [if_pos c2] at q
        refine w_return (Ev.cm _) rfl rfl rf0 ?_
        cases q
        exact g
      · have c2 : ¬ (6 ≤ x2) := c2
        rw [if_neg c2] at q
        refine w_iconst (Ev.cm _) rfl ?_
        refine w_istore_n (ls2 := [(0, .ref 322), (1, .ref 1), (2, .int x2), (3, .int 0)]) (Ev.cm _) rfl rfl ?_
        show Wp _ _ _ _ _ _ _ 18 [(0, .ref 322), (1, .ref 1), (2, .int x2), (3, .int 0)] [] (HS I L X)
        refine Wp.sub [0, 1, 2, 3] (ls2 := [(0, .ref 322), (1, .ref 1), (2, .int x2), (3, .int 0)]) rfl ?_
        exact lo_O_weighFromFront_18 g (fun x2 I L q => ih x2 I L q) fu _ _ _ _ q
def FO_O_weighFromFront (fu : Nat) (I : Nat → Nat → Int32) (L : Nat → Nat → Int64) : Option (Unit × (Nat → Nat → Int32) × (Nat → Nat → Int64)) := LO_O_weighFromFront_2 fu fu 0 I L
set_option maxHeartbeats 20000000 in
set_option maxRecDepth 20000 in
theorem eo_O_weighFromFront {d fu : Nat} {I : Nat → Nat → Int32} {L : Nat → Nat → Int64} {X : Nat × (Nat → Int32)} {Q : PQ} {res : Unit × (Nat → Nat → Int32) × (Nat → Nat → Int64)}  (g : Q none (HS res.2.1 res.2.2 X)) (q : FO_O_weighFromFront fu  I L = some res) : Ev (d + 4) m_O_weighFromFront [.ref 322, .ref 1] (HS I L X) Q := by
  unfold FO_O_weighFromFront at q
  refine ev_start (d := d + 3) rfl rfl rfl (Nat.le_of_ble_eq_true rfl) ?_
  show Wp (Ev (d + 3)) cd_O_weighFromFront (0, 0) none _ _ Q 0 [(0, .ref 322), (1, .ref 1)] [] (HS I L X)
  refine w_iconst (Ev.cm _) rfl ?_
  refine w_istore_n (ls2 := [(0, .ref 322), (1, .ref 1), (2, .int 0)]) (Ev.cm _) rfl rfl ?_
  show Wp _ _ _ _ _ _ _ 2 [(0, .ref 322), (1, .ref 1), (2, .int 0)] [] (HS I L X)
  refine Wp.sub [0, 1, 2] (ls2 := [(0, .ref 322), (1, .ref 1), (2, .int 0)]) rfl ?_
  exact lo_O_weighFromFront_2 g fu _ _ _ q
def LO_O_heaviestBehind_9 (fu : Nat) : Nat → Int32 → Int32 → Int64 → Int32 → Int32 → (Nat → Nat → Int32) → (Nat → Nat → Int64) → Option (Int32 × (Nat → Nat → Int32) × (Nat → Nat → Int64))
  | 0, _, _, _, _, _, _, _ => none
  | n + 1, x2, x3, x4, x6, x7, I, L => if 3 ≤ x7 then (some (x6, I, L)) else (if x2 < 0 then (some (x6, I, L)) else (if 6 ≤ x2 then (some (x6, I, L)) else (if 0 ≤ (x2 * 3) + x7 ∧ (x2 * 3) + x7 < 18 then ((FO_O_soundWeight fu x2 x7 I L).bind (fun u2 => let r2 := u2.1; let I2 := u2.2.1; let L2 := u2.2.2; if x2 ≤ 0 then (if lg_cmp ((L 324 (((x2 * 3) + x7).toNatClampNeg)) * ((r2 : Int32).toInt64)) x4 ≤ 0 then (LO_O_heaviestBehind_9 fu n x2 x3 x4 x6 (x7 + 1) I2 L2) else (LO_O_heaviestBehind_9 fu n x2 x3 ((L 324 (((x2 * 3) + x7).toNatClampNeg)) * ((r2 : Int32).toInt64)) x7 (x7 + 1) I2 L2)) else (if 0 ≤ x3 ∧ x3 ≤ 2 then (if 0 ≤ (x3 * 3) + x7 ∧ (x3 * 3) + x7 < 9 then (if lg_cmp (((L 324 (((x2 * 3) + x7).toNatClampNeg)) * ((r2 : Int32).toInt64)) * (((I2 131 (((x3 * 3) + x7).toNatClampNeg)) : Int32).toInt64)) x4 ≤ 0 then (LO_O_heaviestBehind_9 fu n x2 x3 x4 x6 (x7 + 1) I2 L2) else (LO_O_heaviestBehind_9 fu n x2 x3 (((L 324 (((x2 * 3) + x7).toNatClampNeg)) * ((r2 : Int32).toInt64)) * (((I2 131 (((x3 * 3) + x7).toNatClampNeg)) : Int32).toInt64)) x7 (x7 + 1) I2 L2)) else none) else (if lg_cmp (((L 324 (((x2 * 3) + x7).toNatClampNeg)) * ((r2 : Int32).toInt64)) * 0) x4 ≤ 0 then (LO_O_heaviestBehind_9 fu n x2 x3 x4 x6 (x7 + 1) I2 L2) else (LO_O_heaviestBehind_9 fu n x2 x3 (((L 324 (((x2 * 3) + x7).toNatClampNeg)) * ((r2 : Int32).toInt64)) * 0) x7 (x7 + 1) I2 L2))))) else none)))
set_option maxHeartbeats 20000000 in
set_option maxRecDepth 20000 in
theorem lo_O_heaviestBehind_9 {d fu n0 s0 : Nat} {X : Nat × (Nat → Int32)} {Q : PQ} {res : Int32 × (Nat → Nat → Int32) × (Nat → Nat → Int64)}  (g : Q (some (.int res.1)) (HS res.2.1 res.2.2 X)) : ∀ (n : Nat) (x2 : Int32) (x3 : Int32) (x4 : Int64) (x6 : Int32) (x7 : Int32) (I : Nat → Nat → Int32) (L : Nat → Nat → Int64), LO_O_heaviestBehind_9 fu n x2 x3 x4 x6 x7 I L = some res → Wp (Ev (d + 3)) cd_O_heaviestBehind (0, 0) (some .int) n0 s0 Q 9 [(0, .ref 322), (1, .ref 1), (2, .int x2), (3, .int x3), (4, .long x4), (6, .int x6), (7, .int x7)] [] (HS I L X) := by
  intro n
  induction n with
  | zero => intro _ _ _ _ _ _ _ q; cases q
  | succ n ih =>
    intro x2 x3 x4 x6 x7 I L q
    unfold LO_O_heaviestBehind_9 at q
    refine w_iload (Ev.cm _) rfl rfl ?_
    refine w_iconst (Ev.cm _) rfl ?_
    refine w_icmp_ge (Ev.cm _) rfl (fun c1 => ?_) (fun c1 => ?_)
    · have c1 : 3 ≤ x7 := c1
      rw [if_pos c1] at q
      refine w_iload (Ev.cm _) rfl rfl ?_
      refine w_ireturn (Ev.cm _) rfl trivial rf0 ?_
      cases q
      exact g
    · have c1 : ¬ (3 ≤ x7) := c1
      rw [if_neg c1] at q
      refine w_iload_n (Ev.cm _) rfl rfl ?_
      refine w_if_lt (Ev.cm _) rfl (fun c2 => ?_) (fun c2 => ?_)
      · have c2 : x2 < 0 := c2
        rw [if_pos c2] at q
        refine w_iload (Ev.cm _) rfl rfl ?_
        refine w_ireturn (Ev.cm _) rfl trivial rf0 ?_
        cases q
        exact g
      · have c2 : ¬ (x2 < 0) := c2
        rw [if_neg c2] at q
        refine w_iload_n (Ev.cm _) rfl rfl ?_
        refine w_bipush (Ev.cm _) rfl ?_
        refine w_icmp_ge (Ev.cm _) rfl (fun c3 => ?_) (fun c3 => ?_)
        · have c3 : 6 ≤ x2 := c3
          rw [if_pos c3] at q
          refine w_iload (Ev.cm _) rfl rfl ?_
          refine w_ireturn (Ev.cm _) rfl trivial rf0 ?_
          cases q
          exact g
        · have c3 : ¬ (6 ≤ x2) := c3
          rw [if_neg c3] at q
          refine w_aload_n (Ev.cm _) rfl rfl ?_
          refine w_getR (q := 324) (Ev.cm _) rfl (Nat.le_of_ble_eq_true rfl) rfl rfl ?_
          refine w_iload_n (Ev.cm _) rfl rfl ?_
          refine w_iconst (Ev.cm _) rfl ?_
          refine w_imul (Ev.cm _) rfl ?_
          refine w_iload (Ev.cm _) rfl rfl ?_
          refine w_iadd (Ev.cm _) rfl ?_
          obtain ⟨b1, q⟩ := ois q
          refine w_lald (Ev.cm _) rfl (Nat.le_of_ble_eq_true rfl) rfl (show vp_in ((x2 * 3) + x7) 18 from vpI 18 (by decide) b1.1 b1.2) ?_
          refine w_aload_n (Ev.cm _) rfl rfl ?_
          refine w_iload_n (Ev.cm _) rfl rfl ?_
          refine w_iload (Ev.cm _) rfl rfl ?_
          obtain ⟨⟨r2, I2, L2⟩, e2, q⟩ := obs q
          dsimp only at q
          refine w_cstat (as := [.ref 1, .int x2, .int x7]) (st := [.long (L 324 (((x2 * 3) + x7).toNatClampNeg))]) (Ev.cm _) rfl rfl rfl (Nat.le_of_ble_eq_true rfl) (Nat.le_of_ble_eq_true rfl) (eo_O_soundWeight (g := ?_) e2)
          show Wp _ _ _ _ _ _ _ 43 [(0, .ref 322), (1, .ref 1), (2, .int x2), (3, .int x3), (4, .long x4), (6, .int x6), (7, .int x7)] [.int r2, .long (L 324 (((x2 * 3) + x7).toNatClampNeg))] (HS I2 L2 X)
          refine w_i2l (Ev.cm _) rfl ?_
          refine w_lmul (Ev.cm _) rfl ?_
          refine w_lstore (ls2 := [(0, .ref 322), (1, .ref 1), (2, .int x2), (3, .int x3), (4, .long x4), (6, .int x6), (7, .int x7), (8, .long ((L 324 (((x2 * 3) + x7).toNatClampNeg)) * ((r2 : Int32).toInt64)))]) (Ev.cm _) rfl rfl ?_
          refine w_iload_n (Ev.cm _) rfl rfl ?_
          refine w_if_le (Ev.cm _) rfl (fun c4 => ?_) (fun c4 => ?_)
          · have c4 : x2 ≤ 0 := c4
            rw [if_pos c4] at q
            refine w_lload (Ev.cm _) rfl rfl ?_
            refine w_lload (Ev.cm _) rfl rfl ?_
            refine w_lcmp (Ev.cm _) rfl ?_
            refine w_if_le (Ev.cm _) rfl (fun c5 => ?_) (fun c5 => ?_)
            · have c5 : lg_cmp ((L 324 (((x2 * 3) + x7).toNatClampNeg)) * ((r2 : Int32).toInt64)) x4 ≤ 0 := c5
              rw [if_pos c5] at q
              refine w_iinc (ls2 := [(0, .ref 322), (1, .ref 1), (2, .int x2), (3, .int x3), (4, .long x4), (6, .int x6), (7, .int (x7 + 1)), (8, .long ((L 324 (((x2 * 3) + x7).toNatClampNeg)) * ((r2 : Int32).toInt64)))]) (Ev.cm _) rfl rfl rfl ?_
              refine w_goto (Ev.cm _) rfl ?_
              show Wp _ _ _ _ _ _ _ 9 [(0, .ref 322), (1, .ref 1), (2, .int x2), (3, .int x3), (4, .long x4), (6, .int x6), (7, .int (x7 + 1)), (8, .long ((L 324 (((x2 * 3) + x7).toNatClampNeg)) * ((r2 : Int32).toInt64)))] [] (HS I2 L2 X)
              refine Wp.sub [0, 1, 2, 3, 4, 5, 6] (ls2 := [(0, .ref 322), (1, .ref 1), (2, .int x2), (3, .int x3), (4, .long x4), (6, .int x6), (7, .int (x7 + 1))]) rfl ?_
              exact ih _ _ _ _ _ _ _ q
            · have c5 : ¬ (lg_cmp ((L 324 (((x2 * 3) + x7).toNatClampNeg)) * ((r2 : Int32).toInt64)) x4 ≤ 0) := c5
              rw [if_neg c5] at q
              refine w_lload (Ev.cm _) rfl rfl ?_
              refine w_lstore (ls2 := [(0, .ref 322), (1, .ref 1), (2, .int x2), (3, .int x3), (4, .long ((L 324 (((x2 * 3) + x7).toNatClampNeg)) * ((r2 : Int32).toInt64))), (6, .int x6), (7, .int x7), (8, .long ((L 324 (((x2 * 3) + x7).toNatClampNeg)) * ((r2 : Int32).toInt64)))]) (Ev.cm _) rfl rfl ?_
              refine w_iload (Ev.cm _) rfl rfl ?_
              refine w_istore (ls2 := [(0, .ref 322), (1, .ref 1), (2, .int x2), (3, .int x3), (4, .long ((L 324 (((x2 * 3) + x7).toNatClampNeg)) * ((r2 : Int32).toInt64))), (6, .int x7), (7, .int x7), (8, .long ((L 324 (((x2 * 3) + x7).toNatClampNeg)) * ((r2 : Int32).toInt64)))]) (Ev.cm _) rfl rfl ?_
              refine w_iinc (ls2 := [(0, .ref 322), (1, .ref 1), (2, .int x2), (3, .int x3), (4, .long ((L 324 (((x2 * 3) + x7).toNatClampNeg)) * ((r2 : Int32).toInt64))), (6, .int x7), (7, .int (x7 + 1)), (8, .long ((L 324 (((x2 * 3) + x7).toNatClampNeg)) * ((r2 : Int32).toInt64)))]) (Ev.cm _) rfl rfl rfl ?_
              refine w_goto (Ev.cm _) rfl ?_
              show Wp _ _ _ _ _ _ _ 9 [(0, .ref 322), (1, .ref 1), (2, .int x2), (3, .int x3), (4, .long ((L 324 (((x2 * 3) + x7).toNatClampNeg)) * ((r2 : Int32).toInt64))), (6, .int x7), (7, .int (x7 + 1)), (8, .long ((L 324 (((x2 * 3) + x7).toNatClampNeg)) * ((r2 : Int32).toInt64)))] [] (HS I2 L2 X)
              refine Wp.sub [0, 1, 2, 3, 4, 5, 6] (ls2 := [(0, .ref 322), (1, .ref 1), (2, .int x2), (3, .int x3), (4, .long ((L 324 (((x2 * 3) + x7).toNatClampNeg)) * ((r2 : Int32).toInt64))), (6, .int x7), (7, .int (x7 + 1))]) rfl ?_
              exact ih _ _ _ _ _ _ _ q
          · have c4 : ¬ (x2 ≤ 0) := c4
            rw [if_neg c4] at q
            refine w_lload (Ev.cm _) rfl rfl ?_
            refine w_iload_n (Ev.cm _) rfl rfl ?_
            refine w_cnest (as := [.int x3]) (st := [.long ((L 324 (((x2 * 3) + x7).toNatClampNeg)) * ((r2 : Int32).toInt64))]) (Ev.cm _) rfl rfl rfl (Nat.le_of_ble_eq_true rfl) (Nat.le_of_ble_eq_true rfl) (x_isMood ?_)
            show Wp _ _ _ _ _ _ _ 57 [(0, .ref 322), (1, .ref 1), (2, .int x2), (3, .int x3), (4, .long x4), (6, .int x6), (7, .int x7), (8, .long ((L 324 (((x2 * 3) + x7).toNatClampNeg)) * ((r2 : Int32).toInt64)))] [.int (bI (0 ≤ x3 ∧ x3 ≤ 2)), .long ((L 324 (((x2 * 3) + x7).toNatClampNeg)) * ((r2 : Int32).toInt64))] (HS I2 L2 X)
            refine w_if_eq (Ev.cm _) rfl (fun c6 => ?_) (fun c6 => ?_)
            · have c6 : ¬ (0 ≤ x3 ∧ x3 ≤ 2) := bI_0.mp c6
              rw [if_neg c6] at q
              refine w_lconst (Ev.cm _) rfl ?_
              refine w_lmul (Ev.cm _) rfl ?_
              refine w_lstore (ls2 := [(0, .ref 322), (1, .ref 1), (2, .int x2), (3, .int x3), (4, .long x4), (6, .int x6), (7, .int x7), (8, .long (((L 324 (((x2 * 3) + x7).toNatClampNeg)) * ((r2 : Int32).toInt64)) * 0))]) (Ev.cm _) rfl rfl ?_
              refine w_lload (Ev.cm _) rfl rfl ?_
              refine w_lload (Ev.cm _) rfl rfl ?_
              refine w_lcmp (Ev.cm _) rfl ?_
              refine w_if_le (Ev.cm _) rfl (fun c7 => ?_) (fun c7 => ?_)
              · have c7 : lg_cmp (((L 324 (((x2 * 3) + x7).toNatClampNeg)) * ((r2 : Int32).toInt64)) * 0) x4 ≤ 0 := c7
                rw [if_pos c7] at q
                refine w_iinc (ls2 := [(0, .ref 322), (1, .ref 1), (2, .int x2), (3, .int x3), (4, .long x4), (6, .int x6), (7, .int (x7 + 1)), (8, .long (((L 324 (((x2 * 3) + x7).toNatClampNeg)) * ((r2 : Int32).toInt64)) * 0))]) (Ev.cm _) rfl rfl rfl ?_
                refine w_goto (Ev.cm _) rfl ?_
                show Wp _ _ _ _ _ _ _ 9 [(0, .ref 322), (1, .ref 1), (2, .int x2), (3, .int x3), (4, .long x4), (6, .int x6), (7, .int (x7 + 1)), (8, .long (((L 324 (((x2 * 3) + x7).toNatClampNeg)) * ((r2 : Int32).toInt64)) * 0))] [] (HS I2 L2 X)
                refine Wp.sub [0, 1, 2, 3, 4, 5, 6] (ls2 := [(0, .ref 322), (1, .ref 1), (2, .int x2), (3, .int x3), (4, .long x4), (6, .int x6), (7, .int (x7 + 1))]) rfl ?_
                exact ih _ _ _ _ _ _ _ q
              · have c7 : ¬ (lg_cmp (((L 324 (((x2 * 3) + x7).toNatClampNeg)) * ((r2 : Int32).toInt64)) * 0) x4 ≤ 0) := c7
                rw [if_neg c7] at q
                refine w_lload (Ev.cm _) rfl rfl ?_
                refine w_lstore (ls2 := [(0, .ref 322), (1, .ref 1), (2, .int x2), (3, .int x3), (4, .long (((L 324 (((x2 * 3) + x7).toNatClampNeg)) * ((r2 : Int32).toInt64)) * 0)), (6, .int x6), (7, .int x7), (8, .long (((L 324 (((x2 * 3) + x7).toNatClampNeg)) * ((r2 : Int32).toInt64)) * 0))]) (Ev.cm _) rfl rfl ?_
                refine w_iload (Ev.cm _) rfl rfl ?_
                refine w_istore (ls2 := [(0, .ref 322), (1, .ref 1), (2, .int x2), (3, .int x3), (4, .long (((L 324 (((x2 * 3) + x7).toNatClampNeg)) * ((r2 : Int32).toInt64)) * 0)), (6, .int x7), (7, .int x7), (8, .long (((L 324 (((x2 * 3) + x7).toNatClampNeg)) * ((r2 : Int32).toInt64)) * 0))]) (Ev.cm _) rfl rfl ?_
                refine w_iinc (ls2 := [(0, .ref 322), (1, .ref 1), (2, .int x2), (3, .int x3), (4, .long (((L 324 (((x2 * 3) + x7).toNatClampNeg)) * ((r2 : Int32).toInt64)) * 0)), (6, .int x7), (7, .int (x7 + 1)), (8, .long (((L 324 (((x2 * 3) + x7).toNatClampNeg)) * ((r2 : Int32).toInt64)) * 0))]) (Ev.cm _) rfl rfl rfl ?_
                refine w_goto (Ev.cm _) rfl ?_
                show Wp _ _ _ _ _ _ _ 9 [(0, .ref 322), (1, .ref 1), (2, .int x2), (3, .int x3), (4, .long (((L 324 (((x2 * 3) + x7).toNatClampNeg)) * ((r2 : Int32).toInt64)) * 0)), (6, .int x7), (7, .int (x7 + 1)), (8, .long (((L 324 (((x2 * 3) + x7).toNatClampNeg)) * ((r2 : Int32).toInt64)) * 0))] [] (HS I2 L2 X)
                refine Wp.sub [0, 1, 2, 3, 4, 5, 6] (ls2 := [(0, .ref 322), (1, .ref 1), (2, .int x2), (3, .int x3), (4, .long (((L 324 (((x2 * 3) + x7).toNatClampNeg)) * ((r2 : Int32).toInt64)) * 0)), (6, .int x7), (7, .int (x7 + 1))]) rfl ?_
                exact ih _ _ _ _ _ _ _ q
            · have c6 : 0 ≤ x3 ∧ x3 ≤ 2 := bI_1.mp c6
              rw [if_pos c6] at q
              refine w_aload_n (Ev.cm _) rfl rfl ?_
              refine w_getR (q := 131) (Ev.cm _) rfl (Nat.le_of_ble_eq_true rfl) rfl rfl ?_
              refine w_iload_n (Ev.cm _) rfl rfl ?_
              refine w_iconst (Ev.cm _) rfl ?_
              refine w_imul (Ev.cm _) rfl ?_
              refine w_iload (Ev.cm _) rfl rfl ?_
              refine w_iadd (Ev.cm _) rfl ?_
              obtain ⟨b3, q⟩ := ois q
              refine w_iald (Ev.cm _) rfl (Nat.le_of_ble_eq_true rfl) rfl (show vp_in ((x3 * 3) + x7) 9 from vpI 9 (by decide) b3.1 b3.2) ?_
              refine w_i2l (Ev.cm _) rfl ?_
              refine w_goto (Ev.cm _) rfl ?_
              refine w_lmul (Ev.cm _) rfl ?_
              refine w_lstore (ls2 := [(0, .ref 322), (1, .ref 1), (2, .int x2), (3, .int x3), (4, .long x4), (6, .int x6), (7, .int x7), (8, .long (((L 324 (((x2 * 3) + x7).toNatClampNeg)) * ((r2 : Int32).toInt64)) * (((I2 131 (((x3 * 3) + x7).toNatClampNeg)) : Int32).toInt64)))]) (Ev.cm _) rfl rfl ?_
              refine w_lload (Ev.cm _) rfl rfl ?_
              refine w_lload (Ev.cm _) rfl rfl ?_
              refine w_lcmp (Ev.cm _) rfl ?_
              refine w_if_le (Ev.cm _) rfl (fun c8 => ?_) (fun c8 => ?_)
              · have c8 : lg_cmp (((L 324 (((x2 * 3) + x7).toNatClampNeg)) * ((r2 : Int32).toInt64)) * (((I2 131 (((x3 * 3) + x7).toNatClampNeg)) : Int32).toInt64)) x4 ≤ 0 := c8
                rw [if_pos c8] at q
                refine w_iinc (ls2 := [(0, .ref 322), (1, .ref 1), (2, .int x2), (3, .int x3), (4, .long x4), (6, .int x6), (7, .int (x7 + 1)), (8, .long (((L 324 (((x2 * 3) + x7).toNatClampNeg)) * ((r2 : Int32).toInt64)) * (((I2 131 (((x3 * 3) + x7).toNatClampNeg)) : Int32).toInt64)))]) (Ev.cm _) rfl rfl rfl ?_
                refine w_goto (Ev.cm _) rfl ?_
                show Wp _ _ _ _ _ _ _ 9 [(0, .ref 322), (1, .ref 1), (2, .int x2), (3, .int x3), (4, .long x4), (6, .int x6), (7, .int (x7 + 1)), (8, .long (((L 324 (((x2 * 3) + x7).toNatClampNeg)) * ((r2 : Int32).toInt64)) * (((I2 131 (((x3 * 3) + x7).toNatClampNeg)) : Int32).toInt64)))] [] (HS I2 L2 X)
                refine Wp.sub [0, 1, 2, 3, 4, 5, 6] (ls2 := [(0, .ref 322), (1, .ref 1), (2, .int x2), (3, .int x3), (4, .long x4), (6, .int x6), (7, .int (x7 + 1))]) rfl ?_
                exact ih _ _ _ _ _ _ _ q
              · have c8 : ¬ (lg_cmp (((L 324 (((x2 * 3) + x7).toNatClampNeg)) * ((r2 : Int32).toInt64)) * (((I2 131 (((x3 * 3) + x7).toNatClampNeg)) : Int32).toInt64)) x4 ≤ 0) := c8
                rw [if_neg c8] at q
                refine w_lload (Ev.cm _) rfl rfl ?_
                refine w_lstore (ls2 := [(0, .ref 322), (1, .ref 1), (2, .int x2), (3, .int x3), (4, .long (((L 324 (((x2 * 3) + x7).toNatClampNeg)) * ((r2 : Int32).toInt64)) * (((I2 131 (((x3 * 3) + x7).toNatClampNeg)) : Int32).toInt64))), (6, .int x6), (7, .int x7), (8, .long (((L 324 (((x2 * 3) + x7).toNatClampNeg)) * ((r2 : Int32).toInt64)) * (((I2 131 (((x3 * 3) + x7).toNatClampNeg)) : Int32).toInt64)))]) (Ev.cm _) rfl rfl ?_
                refine w_iload (Ev.cm _) rfl rfl ?_
                refine w_istore (ls2 := [(0, .ref 322), (1, .ref 1), (2, .int x2), (3, .int x3), (4, .long (((L 324 (((x2 * 3) + x7).toNatClampNeg)) * ((r2 : Int32).toInt64)) * (((I2 131 (((x3 * 3) + x7).toNatClampNeg)) : Int32).toInt64))), (6, .int x7), (7, .int x7), (8, .long (((L 324 (((x2 * 3) + x7).toNatClampNeg)) * ((r2 : Int32).toInt64)) * (((I2 131 (((x3 * 3) + x7).toNatClampNeg)) : Int32).toInt64)))]) (Ev.cm _) rfl rfl ?_
                refine w_iinc (ls2 := [(0, .ref 322), (1, .ref 1), (2, .int x2), (3, .int x3), (4, .long (((L 324 (((x2 * 3) + x7).toNatClampNeg)) * ((r2 : Int32).toInt64)) * (((I2 131 (((x3 * 3) + x7).toNatClampNeg)) : Int32).toInt64))), (6, .int x7), (7, .int (x7 + 1)), (8, .long (((L 324 (((x2 * 3) + x7).toNatClampNeg)) * ((r2 : Int32).toInt64)) * (((I2 131 (((x3 * 3) + x7).toNatClampNeg)) : Int32).toInt64)))]) (Ev.cm _) rfl rfl rfl ?_
                refine w_goto (Ev.cm _) rfl ?_
                show Wp _ _ _ _ _ _ _ 9 [(0, .ref 322), (1, .ref 1), (2, .int x2), (3, .int x3), (4, .long (((L 324 (((x2 * 3) + x7).toNatClampNeg)) * ((r2 : Int32).toInt64)) * (((I2 131 (((x3 * 3) + x7).toNatClampNeg)) : Int32).toInt64))), (6, .int x7), (7, .int (x7 + 1)), (8, .long (((L 324 (((x2 * 3) + x7).toNatClampNeg)) * ((r2 : Int32).toInt64)) * (((I2 131 (((x3 * 3) + x7).toNatClampNeg)) : Int32).toInt64)))] [] (HS I2 L2 X)
                refine Wp.sub [0, 1, 2, 3, 4, 5, 6] (ls2 := [(0, .ref 322), (1, .ref 1), (2, .int x2), (3, .int x3), (4, .long (((L 324 (((x2 * 3) + x7).toNatClampNeg)) * ((r2 : Int32).toInt64)) * (((I2 131 (((x3 * 3) + x7).toNatClampNeg)) : Int32).toInt64))), (6, .int x7), (7, .int (x7 + 1))]) rfl ?_
                exact ih _ _ _ _ _ _ _ q
def FO_O_heaviestBehind (fu : Nat) (p1 : Int32) (p2 : Int32) (I : Nat → Nat → Int32) (L : Nat → Nat → Int64) : Option (Int32 × (Nat → Nat → Int32) × (Nat → Nat → Int64)) := LO_O_heaviestBehind_9 fu fu p1 p2 0 (-1) 0 I L
set_option maxHeartbeats 20000000 in
set_option maxRecDepth 20000 in
theorem eo_O_heaviestBehind {d fu : Nat} {p1 : Int32} {p2 : Int32} {I : Nat → Nat → Int32} {L : Nat → Nat → Int64} {X : Nat × (Nat → Int32)} {Q : PQ} {res : Int32 × (Nat → Nat → Int32) × (Nat → Nat → Int64)}  (g : Q (some (.int res.1)) (HS res.2.1 res.2.2 X)) (q : FO_O_heaviestBehind fu p1 p2 I L = some res) : Ev (d + 4) m_O_heaviestBehind [.ref 322, .ref 1, .int p1, .int p2] (HS I L X) Q := by
  unfold FO_O_heaviestBehind at q
  refine ev_start (d := d + 3) rfl rfl rfl (Nat.le_of_ble_eq_true rfl) ?_
  show Wp (Ev (d + 3)) cd_O_heaviestBehind (0, 0) (some .int) _ _ Q 0 [(0, .ref 322), (1, .ref 1), (2, .int p1), (3, .int p2)] [] (HS I L X)
  refine w_lconst (Ev.cm _) rfl ?_
  refine w_lstore (ls2 := [(0, .ref 322), (1, .ref 1), (2, .int p1), (3, .int p2), (4, .long 0)]) (Ev.cm _) rfl rfl ?_
  refine w_iconst (Ev.cm _) rfl ?_
  refine w_istore (ls2 := [(0, .ref 322), (1, .ref 1), (2, .int p1), (3, .int p2), (4, .long 0), (6, .int (-1))]) (Ev.cm _) rfl rfl ?_
  refine w_iconst (Ev.cm _) rfl ?_
  refine w_istore (ls2 := [(0, .ref 322), (1, .ref 1), (2, .int p1), (3, .int p2), (4, .long 0), (6, .int (-1)), (7, .int 0)]) (Ev.cm _) rfl rfl ?_
  show Wp _ _ _ _ _ _ _ 9 [(0, .ref 322), (1, .ref 1), (2, .int p1), (3, .int p2), (4, .long 0), (6, .int (-1)), (7, .int 0)] [] (HS I L X)
  refine Wp.sub [0, 1, 2, 3, 4, 5, 6] (ls2 := [(0, .ref 322), (1, .ref 1), (2, .int p1), (3, .int p2), (4, .long 0), (6, .int (-1)), (7, .int 0)]) rfl ?_
  exact lo_O_heaviestBehind_9 g fu _ _ _ _ _ _ _ q
def LO_O_soundsNext_5 (fu : Nat) : Nat → Int32 → Int64 → Int32 → (Nat → Nat → Int32) → (Nat → Nat → Int64) → Option (Int64 × (Nat → Nat → Int32) × (Nat → Nat → Int64))
  | 0, _, _, _, _, _ => none
  | n + 1, x2, x3, x5, I, L => if 3 ≤ x5 then (some (x3, I, L)) else (if I 1 11 = 0 then (if 0 ≤ (x5 * 3) + x2 ∧ (x5 * 3) + x2 < 9 then (LO_O_soundsNext_5 fu n x2 (x3 + ((1 : Int64) * (((I 132 (((x5 * 3) + x2).toNatClampNeg)) : Int32).toInt64))) (x5 + 1) I L) else none) else ((FO_O_comesTo fu ((I 1 11) - 1) x5 I L).bind (fun u1 => let r1 := u1.1; let I1 := u1.2.1; let L1 := u1.2.2; if 0 ≤ (x5 * 3) + x2 ∧ (x5 * 3) + x2 < 9 then (LO_O_soundsNext_5 fu n x2 (x3 + (r1 * (((I1 132 (((x5 * 3) + x2).toNatClampNeg)) : Int32).toInt64))) (x5 + 1) I1 L1) else none)))
set_option maxHeartbeats 20000000 in
set_option maxRecDepth 20000 in
theorem lo_O_soundsNext_5 {d fu n0 s0 : Nat} {X : Nat × (Nat → Int32)} {Q : PQ} {res : Int64 × (Nat → Nat → Int32) × (Nat → Nat → Int64)}  (g : Q (some (.long res.1)) (HS res.2.1 res.2.2 X)) : ∀ (n : Nat) (x2 : Int32) (x3 : Int64) (x5 : Int32) (I : Nat → Nat → Int32) (L : Nat → Nat → Int64), LO_O_soundsNext_5 fu n x2 x3 x5 I L = some res → Wp (Ev (d + 1)) cd_O_soundsNext (0, 0) (some .long) n0 s0 Q 5 [(0, .ref 322), (1, .ref 1), (2, .int x2), (3, .long x3), (5, .int x5)] [] (HS I L X) := by
  intro n
  induction n with
  | zero => intro _ _ _ _ _ q; cases q
  | succ n ih =>
    intro x2 x3 x5 I L q
    unfold LO_O_soundsNext_5 at q
    refine w_iload (Ev.cm _) rfl rfl ?_
    refine w_iconst (Ev.cm _) rfl ?_
    refine w_icmp_ge (Ev.cm _) rfl (fun c1 => ?_) (fun c1 => ?_)
    · have c1 : 3 ≤ x5 := c1
      rw [if_pos c1] at q
      refine w_lload_n (Ev.cm _) rfl rfl ?_
      refine w_lreturn (Ev.cm _) rfl rfl rf0 ?_
      cases q
      exact g
    · have c1 : ¬ (3 ≤ x5) := c1
      rw [if_neg c1] at q
      refine w_aload_n (Ev.cm _) rfl rfl ?_
      refine w_getI (Ev.cm _) rfl (Nat.le_of_ble_eq_true rfl) rfl ?_
      refine w_if_ne (Ev.cm _) rfl (fun c2 => ?_) (fun c2 => ?_)
      · have c2 : ¬ (I 1 11 = 0) := c2
        rw [if_neg c2] at q
        refine w_aload_n (Ev.cm _) rfl rfl ?_
        refine w_aload_n (Ev.cm _) rfl rfl ?_
        refine w_aload_n (Ev.cm _) rfl rfl ?_
        refine w_getI (Ev.cm _) rfl (Nat.le_of_ble_eq_true rfl) rfl ?_
        refine w_iconst (Ev.cm _) rfl ?_
        refine w_isub (Ev.cm _) rfl ?_
        refine w_iload (Ev.cm _) rfl rfl ?_
        obtain ⟨⟨r1, I1, L1⟩, e1, q⟩ := obs q
        dsimp only at q
        refine w_cvirt (o := 322) (as := [.ref 1, .int ((I 1 11) - 1), .int x5]) (st := []) (Ev.cm _) rfl rfl rfl (Nat.le_of_ble_eq_true rfl) (Nat.le_of_ble_eq_true rfl) rfl (Nat.le_of_ble_eq_true rfl) (eo_O_comesTo (g := ?_) e1)
        show Wp _ _ _ _ _ _ _ 35 [(0, .ref 322), (1, .ref 1), (2, .int x2), (3, .long x3), (5, .int x5)] [.long r1] (HS I1 L1 X)
        refine w_lstore (ls2 := [(0, .ref 322), (1, .ref 1), (2, .int x2), (3, .long x3), (5, .int x5), (6, .long r1)]) (Ev.cm _) rfl rfl ?_
        refine w_lload_n (Ev.cm _) rfl rfl ?_
        refine w_lload (Ev.cm _) rfl rfl ?_
        refine w_aload_n (Ev.cm _) rfl rfl ?_
        refine w_getR (q := 132) (Ev.cm _) rfl (Nat.le_of_ble_eq_true rfl) rfl rfl ?_
        refine w_iload (Ev.cm _) rfl rfl ?_
        refine w_iconst (Ev.cm _) rfl ?_
        refine w_imul (Ev.cm _) rfl ?_
        refine w_iload_n (Ev.cm _) rfl rfl ?_
        refine w_iadd (Ev.cm _) rfl ?_
        obtain ⟨b2, q⟩ := ois q
        refine w_iald (Ev.cm _) rfl (Nat.le_of_ble_eq_true rfl) rfl (show vp_in ((x5 * 3) + x2) 9 from vpI 9 (by decide) b2.1 b2.2) ?_
        refine w_i2l (Ev.cm _) rfl ?_
        refine w_lmul (Ev.cm _) rfl ?_
        refine w_ladd (Ev.cm _) rfl ?_
        refine w_lstore_n (ls2 := [(0, .ref 322), (1, .ref 1), (2, .int x2), (3, .long (x3 + (r1 * (((I1 132 (((x5 * 3) + x2).toNatClampNeg)) : Int32).toInt64)))), (5, .int x5), (6, .long r1)]) (Ev.cm _) rfl rfl ?_
        refine w_iinc (ls2 := [(0, .ref 322), (1, .ref 1), (2, .int x2), (3, .long (x3 + (r1 * (((I1 132 (((x5 * 3) + x2).toNatClampNeg)) : Int32).toInt64)))), (5, .int (x5 + 1)), (6, .long r1)]) (Ev.cm _) rfl rfl rfl ?_
        refine w_goto (Ev.cm _) rfl ?_
        show Wp _ _ _ _ _ _ _ 5 [(0, .ref 322), (1, .ref 1), (2, .int x2), (3, .long (x3 + (r1 * (((I1 132 (((x5 * 3) + x2).toNatClampNeg)) : Int32).toInt64)))), (5, .int (x5 + 1)), (6, .long r1)] [] (HS I1 L1 X)
        refine Wp.sub [0, 1, 2, 3, 4] (ls2 := [(0, .ref 322), (1, .ref 1), (2, .int x2), (3, .long (x3 + (r1 * (((I1 132 (((x5 * 3) + x2).toNatClampNeg)) : Int32).toInt64)))), (5, .int (x5 + 1))]) rfl ?_
        exact ih _ _ _ _ _ q
      · have c2 : I 1 11 = 0 := c2
        rw [if_pos c2] at q
        refine w_lconst (Ev.cm _) rfl ?_
        refine w_goto (Ev.cm _) rfl ?_
        refine w_lstore (ls2 := [(0, .ref 322), (1, .ref 1), (2, .int x2), (3, .long x3), (5, .int x5), (6, .long 1)]) (Ev.cm _) rfl rfl ?_
        refine w_lload_n (Ev.cm _) rfl rfl ?_
        refine w_lload (Ev.cm _) rfl rfl ?_
        refine w_aload_n (Ev.cm _) rfl rfl ?_
        refine w_getR (q := 132) (Ev.cm _) rfl (Nat.le_of_ble_eq_true rfl) rfl rfl ?_
        refine w_iload (Ev.cm _) rfl rfl ?_
        refine w_iconst (Ev.cm _) rfl ?_
        refine w_imul (Ev.cm _) rfl ?_
        refine w_iload_n (Ev.cm _) rfl rfl ?_
        refine w_iadd (Ev.cm _) rfl ?_
        obtain ⟨b3, q⟩ := ois q
        refine w_iald (Ev.cm _) rfl (Nat.le_of_ble_eq_true rfl) rfl (show vp_in ((x5 * 3) + x2) 9 from vpI 9 (by decide) b3.1 b3.2) ?_
        refine w_i2l (Ev.cm _) rfl ?_
        refine w_lmul (Ev.cm _) rfl ?_
        refine w_ladd (Ev.cm _) rfl ?_
        refine w_lstore_n (ls2 := [(0, .ref 322), (1, .ref 1), (2, .int x2), (3, .long (x3 + ((1 : Int64) * (((I 132 (((x5 * 3) + x2).toNatClampNeg)) : Int32).toInt64)))), (5, .int x5), (6, .long 1)]) (Ev.cm _) rfl rfl ?_
        refine w_iinc (ls2 := [(0, .ref 322), (1, .ref 1), (2, .int x2), (3, .long (x3 + ((1 : Int64) * (((I 132 (((x5 * 3) + x2).toNatClampNeg)) : Int32).toInt64)))), (5, .int (x5 + 1)), (6, .long 1)]) (Ev.cm _) rfl rfl rfl ?_
        refine w_goto (Ev.cm _) rfl ?_
        show Wp _ _ _ _ _ _ _ 5 [(0, .ref 322), (1, .ref 1), (2, .int x2), (3, .long (x3 + ((1 : Int64) * (((I 132 (((x5 * 3) + x2).toNatClampNeg)) : Int32).toInt64)))), (5, .int (x5 + 1)), (6, .long 1)] [] (HS I L X)
        refine Wp.sub [0, 1, 2, 3, 4] (ls2 := [(0, .ref 322), (1, .ref 1), (2, .int x2), (3, .long (x3 + ((1 : Int64) * (((I 132 (((x5 * 3) + x2).toNatClampNeg)) : Int32).toInt64)))), (5, .int (x5 + 1))]) rfl ?_
        exact ih _ _ _ _ _ q
def FO_O_soundsNext (fu : Nat) (p1 : Int32) (I : Nat → Nat → Int32) (L : Nat → Nat → Int64) : Option (Int64 × (Nat → Nat → Int32) × (Nat → Nat → Int64)) := LO_O_soundsNext_5 fu fu p1 0 0 I L
set_option maxHeartbeats 20000000 in
set_option maxRecDepth 20000 in
theorem eo_O_soundsNext {d fu : Nat} {p1 : Int32} {I : Nat → Nat → Int32} {L : Nat → Nat → Int64} {X : Nat × (Nat → Int32)} {Q : PQ} {res : Int64 × (Nat → Nat → Int32) × (Nat → Nat → Int64)}  (g : Q (some (.long res.1)) (HS res.2.1 res.2.2 X)) (q : FO_O_soundsNext fu p1 I L = some res) : Ev (d + 2) m_O_soundsNext [.ref 322, .ref 1, .int p1] (HS I L X) Q := by
  unfold FO_O_soundsNext at q
  refine ev_start (d := d + 1) rfl rfl rfl (Nat.le_of_ble_eq_true rfl) ?_
  show Wp (Ev (d + 1)) cd_O_soundsNext (0, 0) (some .long) _ _ Q 0 [(0, .ref 322), (1, .ref 1), (2, .int p1)] [] (HS I L X)
  refine w_lconst (Ev.cm _) rfl ?_
  refine w_lstore_n (ls2 := [(0, .ref 322), (1, .ref 1), (2, .int p1), (3, .long 0)]) (Ev.cm _) rfl rfl ?_
  refine w_iconst (Ev.cm _) rfl ?_
  refine w_istore (ls2 := [(0, .ref 322), (1, .ref 1), (2, .int p1), (3, .long 0), (5, .int 0)]) (Ev.cm _) rfl rfl ?_
  show Wp _ _ _ _ _ _ _ 5 [(0, .ref 322), (1, .ref 1), (2, .int p1), (3, .long 0), (5, .int 0)] [] (HS I L X)
  refine Wp.sub [0, 1, 2, 3, 4] (ls2 := [(0, .ref 322), (1, .ref 1), (2, .int p1), (3, .long 0), (5, .int 0)]) rfl ?_
  exact lo_O_soundsNext_5 g fu _ _ _ _ _ q
def FO_O_goesOn (fu : Nat) (p1 : Int32) (p2 : Int32) (p3 : Int32) (I : Nat → Nat → Int32) (L : Nat → Nat → Int64) : Option (Int64 × (Nat → Nat → Int32) × (Nat → Nat → Int64)) := if (0 : Int32) ≤ (((p1 + 1) * 3) + p3) ∧ (((p1 + 1) * 3) + p3) ≤ (17 : Int32) then (if 0 ≤ ((p1 + 1) * 3) + p3 ∧ ((p1 + 1) * 3) + p3 < 18 then (if 0 ≤ (p2 * 3) + p3 ∧ (p2 * 3) + p3 < 9 then ((FO_O_soundWeight fu (p1 + 1) p3 I L).bind (fun u3 => let r3 := u3.1; let I3 := u3.2.1; let L3 := u3.2.2; some (((L 324 ((((p1 + 1) * 3) + p3).toNatClampNeg)) * (((I 131 (((p2 * 3) + p3).toNatClampNeg)) : Int32).toInt64)) * ((r3 : Int32).toInt64), I3, L3))) else none) else none) else (some (0, I, L))
set_option maxHeartbeats 20000000 in
set_option maxRecDepth 20000 in
theorem eo_O_goesOn {d fu : Nat} {p1 : Int32} {p2 : Int32} {p3 : Int32} {I : Nat → Nat → Int32} {L : Nat → Nat → Int64} {X : Nat × (Nat → Int32)} {Q : PQ} {res : Int64 × (Nat → Nat → Int32) × (Nat → Nat → Int64)}  (g : Q (some (.long res.1)) (HS res.2.1 res.2.2 X)) (q : FO_O_goesOn fu p1 p2 p3 I L = some res) : Ev (d + 4) m_O_goesOn [.ref 322, .ref 1, .int p1, .int p2, .int p3] (HS I L X) Q := by
  unfold FO_O_goesOn at q
  refine ev_start (d := d + 3) rfl rfl rfl (Nat.le_of_ble_eq_true rfl) ?_
  show Wp (Ev (d + 3)) cd_O_goesOn (0, 0) (some .long) _ _ Q 0 [(0, .ref 322), (1, .ref 1), (2, .int p1), (3, .int p2), (4, .int p3)] [] (HS I L X)
  refine w_iload_n (Ev.cm _) rfl rfl ?_
  refine w_iconst (Ev.cm _) rfl ?_
  refine w_iadd (Ev.cm _) rfl ?_
  refine w_iconst (Ev.cm _) rfl ?_
  refine w_imul (Ev.cm _) rfl ?_
  refine w_iload (Ev.cm _) rfl rfl ?_
  refine w_iadd (Ev.cm _) rfl ?_
  refine w_istore (ls2 := [(0, .ref 322), (1, .ref 1), (2, .int p1), (3, .int p2), (4, .int p3), (5, .int (((p1 + 1) * 3) + p3))]) (Ev.cm _) rfl rfl ?_
  refine w_iload (Ev.cm _) rfl rfl ?_
  refine w_iconst (Ev.cm _) rfl ?_
  refine w_bipush (Ev.cm _) rfl ?_
  refine w_cnest (as := [.int (((p1 + 1) * 3) + p3), .int 0, .int 17]) (st := []) (Ev.cm _) rfl rfl rfl (Nat.le_of_ble_eq_true rfl) (Nat.le_of_ble_eq_true rfl) (x_within ?_)
  show Wp _ _ _ _ _ _ _ 18 [(0, .ref 322), (1, .ref 1), (2, .int p1), (3, .int p2), (4, .int p3), (5, .int (((p1 + 1) * 3) + p3))] [.int (bI ((0 : Int32) ≤ (((p1 + 1) * 3) + p3) ∧ (((p1 + 1) * 3) + p3) ≤ (17 : Int32)))] (HS I L X)
  refine w_if_ne (Ev.cm _) rfl (fun c1 => ?_) (fun c1 => ?_)
  · have c1 : (0 : Int32) ≤ (((p1 + 1) * 3) + p3) ∧ (((p1 + 1) * 3) + p3) ≤ (17 : Int32) := bI_1.mp c1
    rw [if_pos c1] at q
    refine w_aload_n (Ev.cm _) rfl rfl ?_
    refine w_getR (q := 324) (Ev.cm _) rfl (Nat.le_of_ble_eq_true rfl) rfl rfl ?_
    refine w_iload (Ev.cm _) rfl rfl ?_
    obtain ⟨b1, q⟩ := ois q
    refine w_lald (Ev.cm _) rfl (Nat.le_of_ble_eq_true rfl) rfl (show vp_in (((p1 + 1) * 3) + p3) 18 from vpI 18 (by decide) b1.1 b1.2) ?_
    refine w_aload_n (Ev.cm _) rfl rfl ?_
    refine w_getR (q := 131) (Ev.cm _) rfl (Nat.le_of_ble_eq_true rfl) rfl rfl ?_
    refine w_iload_n (Ev.cm _) rfl rfl ?_
    refine w_iconst (Ev.cm _) rfl ?_
    refine w_imul (Ev.cm _) rfl ?_
    refine w_iload (Ev.cm _) rfl rfl ?_
    refine w_iadd (Ev.cm _) rfl ?_
    obtain ⟨b2, q⟩ := ois q
    refine w_iald (Ev.cm _) rfl (Nat.le_of_ble_eq_true rfl) rfl (show vp_in ((p2 * 3) + p3) 9 from vpI 9 (by decide) b2.1 b2.2) ?_
    refine w_i2l (Ev.cm _) rfl ?_
    refine w_lmul (Ev.cm _) rfl ?_
    refine w_aload_n (Ev.cm _) rfl rfl ?_
    refine w_iload_n (Ev.cm _) rfl rfl ?_
    refine w_iconst (Ev.cm _) rfl ?_
    refine w_iadd (Ev.cm _) rfl ?_
    refine w_iload (Ev.cm _) rfl rfl ?_
    obtain ⟨⟨r3, I3, L3⟩, e3, q⟩ := obs q
    dsimp only at q
    refine w_cstat (as := [.ref 1, .int (p1 + 1), .int p3]) (st := [.long ((L 324 ((((p1 + 1) * 3) + p3).toNatClampNeg)) * (((I 131 (((p2 * 3) + p3).toNatClampNeg)) : Int32).toInt64))]) (Ev.cm _) rfl rfl rfl (Nat.le_of_ble_eq_true rfl) (Nat.le_of_ble_eq_true rfl) (eo_O_soundWeight (g := ?_) e3)
    show Wp _ _ _ _ _ _ _ 52 [(0, .ref 322), (1, .ref 1), (2, .int p1), (3, .int p2), (4, .int p3), (5, .int (((p1 + 1) * 3) + p3))] [.int r3, .long ((L 324 ((((p1 + 1) * 3) + p3).toNatClampNeg)) * (((I 131 (((p2 * 3) + p3).toNatClampNeg)) : Int32).toInt64))] (HS I3 L3 X)
    refine w_i2l (Ev.cm _) rfl ?_
    refine w_lmul (Ev.cm _) rfl ?_
    refine w_lreturn (Ev.cm _) rfl rfl rf0 ?_
    cases q
    exact g
  · have c1 : ¬ ((0 : Int32) ≤ (((p1 + 1) * 3) + p3) ∧ (((p1 + 1) * 3) + p3) ≤ (17 : Int32)) := bI_0.mp c1
    rw [if_neg c1] at q
    refine w_lconst (Ev.cm _) rfl ?_
    refine w_lreturn (Ev.cm _) rfl rfl rf0 ?_
    cases q
    exact g
