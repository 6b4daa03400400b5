/-! methods, read back by program -/
def LO_M_quiet_92 (fu : Nat) (k_82 : Int32 → Int32 → Int32 → Int32 → Int32 → Int32 → (Nat → Nat → Int32) → (Nat → Nat → Int64) → Option (Int32 × (Nat → Nat → Int32) × (Nat → Nat → Int64))) : Nat → Int32 → Int32 → Int32 → Int32 → Int32 → Int32 → Int32 → (Nat → Nat → Int32) → (Nat → Nat → Int64) → Option (Int32 × (Nat → Nat → Int32) × (Nat → Nat → Int64))
  | 0, _, _, _, _, _, _, _, _, _ => none
  | n + 1, x1, x2, x3, x4, x5, x6, x7, I, L => if 0 ≤ x7 ∧ x7 < 13 then (if 0 ≤ x5 ∧ x5 < 13 then (if I 341 x7.toNatClampNeg = (I 341 x5.toNatClampNeg) - 1 then ((FO_M_isStep fu x1 x5 x7 I L).bind (fun u3 => let r3 := u3.1; let I3 := u3.2.1; let L3 := u3.2.2; if r3 = 0 then (LO_M_quiet_92 fu k_82 n x1 x2 x3 x4 x5 x6 (x7 + 1) I3 L3) else (k_82 x1 x2 x3 x4 x7 (x6 + 1) I3 L3))) else (LO_M_quiet_92 fu k_82 n x1 x2 x3 x4 x5 x6 (x7 + 1) I L)) else none) else none
set_option maxHeartbeats 20000000 in
set_option maxRecDepth 20000 in
theorem lo_M_quiet_92 {d fu n0 s0 : Nat} {X : Nat × (Nat → Int32)} {Q : PQ} {k_82 : Int32 → Int32 → Int32 → Int32 → Int32 → Int32 → (Nat → Nat → Int32) → (Nat → Nat → Int64) → Option (Int32 × (Nat → Nat → Int32) × (Nat → Nat → Int64))} {res : Int32 × (Nat → Nat → Int32) × (Nat → Nat → Int64)}  (g : Q (some (.int res.1)) (HS res.2.1 res.2.2 X)) (hk_82 : ∀ (x1 : Int32) (x2 : Int32) (x3 : Int32) (x4 : Int32) (x5 : Int32) (x6 : Int32) (I : Nat → Nat → Int32) (L : Nat → Nat → Int64), k_82 x1 x2 x3 x4 x5 x6 I L = some res → Wp (Ev (d + 10)) cd_M_quiet (0, 0) (some .int) n0 s0 Q 82 [(0, .ref 331), (1, .int x1), (2, .int x2), (3, .int x3), (4, .int x4), (5, .int x5), (6, .int x6)] [] (HS I L X)) : ∀ (n : Nat) (x1 : Int32) (x2 : Int32) (x3 : Int32) (x4 : Int32) (x5 : Int32) (x6 : Int32) (x7 : Int32) (I : Nat → Nat → Int32) (L : Nat → Nat → Int64), LO_M_quiet_92 fu k_82 n x1 x2 x3 x4 x5 x6 x7 I L = some res → Wp (Ev (d + 10)) cd_M_quiet (0, 0) (some .int) n0 s0 Q 92 [(0, .ref 331), (1, .int x1), (2, .int x2), (3, .int x3), (4, .int x4), (5, .int x5), (6, .int x6), (7, .int x7)] [] (HS I L X) := by
  intro n
  induction n with
  | zero => intro _ _ _ _ _ _ _ _ _ q; cases q
  | succ n ih =>
    intro x1 x2 x3 x4 x5 x6 x7 I L q
    unfold LO_M_quiet_92 at q
    refine w_aload_n (Ev.cm _) rfl rfl ?_
    refine w_getR (q := 341) (Ev.cm _) rfl (Nat.le_of_ble_eq_true rfl) rfl rfl ?_
    refine w_iload (Ev.cm _) rfl rfl ?_
    obtain ⟨b1, q⟩ := ois q
    refine w_iald (Ev.cm _) rfl (Nat.le_of_ble_eq_true rfl) rfl (show vp_in x7 13 from vpI 13 (by decide) b1.1 b1.2) ?_
    refine w_aload_n (Ev.cm _) rfl rfl ?_
    refine w_getR (q := 341) (Ev.cm _) rfl (Nat.le_of_ble_eq_true rfl) rfl rfl ?_
    refine w_iload (Ev.cm _) rfl rfl ?_
    obtain ⟨b2, q⟩ := ois q
    refine w_iald (Ev.cm _) rfl (Nat.le_of_ble_eq_true rfl) rfl (show vp_in x5 13 from vpI 13 (by decide) b2.1 b2.2) ?_
    refine w_iconst (Ev.cm _) rfl ?_
    refine w_isub (Ev.cm _) rfl ?_
    refine w_icmp_ne (Ev.cm _) rfl (fun c1 => ?_) (fun c1 => ?_)
    · have c1 : ¬ (I 341 x7.toNatClampNeg = (I 341 x5.toNatClampNeg) - 1) := c1
      rw [if_neg c1] at q
      refine w_iinc (ls2 := [(0, .ref 331), (1, .int x1), (2, .int x2), (3, .int x3), (4, .int x4), (5, .int x5), (6, .int x6), (7, .int (x7 + 1))]) (Ev.cm _) rfl rfl rfl ?_
      refine w_goto (Ev.cm _) rfl ?_
      show Wp _ _ _ _ _ _ _ 92 [(0, .ref 331), (1, .int x1), (2, .int x2), (3, .int x3), (4, .int x4), (5, .int x5), (6, .int x6), (7, .int (x7 + 1))] [] (HS I L X)
      refine Wp.sub [0, 1, 2, 3, 4, 5, 6, 7] (ls2 := [(0, .ref 331), (1, .int x1), (2, .int x2), (3, .int x3), (4, .int x4), (5, .int x5), (6, .int x6), (7, .int (x7 + 1))]) rfl ?_
      exact ih _ _ _ _ _ _ _ _ _ q
    · have c1 : I 341 x7.toNatClampNeg = (I 341 x5.toNatClampNeg) - 1 := c1
      rw [if_pos c1] at q
      refine w_aload_n (Ev.cm _) rfl rfl ?_
      refine w_iload_n (Ev.cm _) rfl rfl ?_
      refine w_iload (Ev.cm _) rfl rfl ?_
      refine w_iload (Ev.cm _) rfl rfl ?_
      obtain ⟨⟨r3, I3, L3⟩, e3, q⟩ := obs q
      dsimp only at q
      refine w_cvirt (o := 331) (as := [.int x1, .int x5, .int x7]) (st := []) (Ev.cm _) rfl rfl rfl (Nat.le_of_ble_eq_true rfl) (Nat.le_of_ble_eq_true rfl) rfl (Nat.le_of_ble_eq_true rfl) (eo_M_isStep (g := ?_) e3)
      show Wp _ _ _ _ _ _ _ 120 [(0, .ref 331), (1, .int x1), (2, .int x2), (3, .int x3), (4, .int x4), (5, .int x5), (6, .int x6), (7, .int x7)] [.int r3] (HS I3 L3 X)
      refine w_if_ne (Ev.cm _) rfl (fun c2 => ?_) (fun c2 => ?_)
      · have c2 : ¬ (r3 = 0) := c2
        rw [if_neg c2] at q
        refine w_iload (Ev.cm _) rfl rfl ?_
        refine w_istore (ls2 := [(0, .ref 331), (1, .int x1), (2, .int x2), (3, .int x3), (4, .int x4), (5, .int x7), (6, .int x6), (7, .int x7)]) (Ev.cm _) rfl rfl ?_
        refine w_iinc (ls2 := [(0, .ref 331), (1, .int x1), (2, .int x2), (3, .int x3), (4, .int x4), (5, .int x7), (6, .int (x6 + 1)), (7, .int x7)]) (Ev.cm _) rfl rfl rfl ?_
        refine w_goto (Ev.cm _) rfl ?_
        show Wp _ _ _ _ _ _ _ 82 [(0, .ref 331), (1, .int x1), (2, .int x2), (3, .int x3), (4, .int x4), (5, .int x7), (6, .int (x6 + 1)), (7, .int x7)] [] (HS I3 L3 X)
        refine Wp.sub [0, 1, 2, 3, 4, 5, 6] (ls2 := [(0, .ref 331), (1, .int x1), (2, .int x2), (3, .int x3), (4, .int x4), (5, .int x7), (6, .int (x6 + 1))]) rfl ?_
        exact hk_82 _ _ _ _ _ _ _ _ q
      · have c2 : r3 = 0 := c2
        rw [if_pos c2] at q
        refine w_iinc (ls2 := [(0, .ref 331), (1, .int x1), (2, .int x2), (3, .int x3), (4, .int x4), (5, .int x5), (6, .int x6), (7, .int (x7 + 1))]) (Ev.cm _) rfl rfl rfl ?_
        refine w_goto (Ev.cm _) rfl ?_
        show Wp _ _ _ _ _ _ _ 92 [(0, .ref 331), (1, .int x1), (2, .int x2), (3, .int x3), (4, .int x4), (5, .int x5), (6, .int x6), (7, .int (x7 + 1))] [] (HS I3 L3 X)
        refine Wp.sub [0, 1, 2, 3, 4, 5, 6, 7] (ls2 := [(0, .ref 331), (1, .int x1), (2, .int x2), (3, .int x3), (4, .int x4), (5, .int x5), (6, .int x6), (7, .int (x7 + 1))]) rfl ?_
        exact ih _ _ _ _ _ _ _ _ _ q
def LO_M_quiet_82 (fu : Nat) : Nat → Int32 → Int32 → Int32 → Int32 → Int32 → Int32 → (Nat → Nat → Int32) → (Nat → Nat → Int64) → Option (Int32 × (Nat → Nat → Int32) × (Nat → Nat → Int64))
  | 0, _, _, _, _, _, _, _, _ => none
  | n + 1, x1, x2, x3, x4, x5, x6, I, L => if x4 < x6 then (some (x5, I, L)) else (LO_M_quiet_92 fu (fun x1 x2 x3 x4 x5 x6 I L => LO_M_quiet_82 fu n x1 x2 x3 x4 x5 x6 I L) fu x1 x2 x3 x4 x5 x6 0 I L)
set_option maxHeartbeats 20000000 in
set_option maxRecDepth 20000 in
theorem lo_M_quiet_82 {d fu n0 s0 : Nat} {X : Nat × (Nat → Int32)} {Q : PQ} {res : Int32 × (Nat → Nat → Int32) × (Nat → Nat → Int64)}  (g : Q (some (.int res.1)) (HS res.2.1 res.2.2 X)) : ∀ (n : Nat) (x1 : Int32) (x2 : Int32) (x3 : Int32) (x4 : Int32) (x5 : Int32) (x6 : Int32) (I : Nat → Nat → Int32) (L : Nat → Nat → Int64), LO_M_quiet_82 fu n x1 x2 x3 x4 x5 x6 I L = some res → Wp (Ev (d + 10)) cd_M_quiet (0, 0) (some .int) n0 s0 Q 82 [(0, .ref 331), (1, .int x1), (2, .int x2), (3, .int x3), (4, .int x4), (5, .int x5), (6, .int x6)] [] (HS I L X) := by
  intro n
  induction n with
  | zero => intro _ _ _ _ _ _ _ _ q; cases q
  | succ n ih =>
    intro x1 x2 x3 x4 x5 x6 I L q
    unfold LO_M_quiet_82 at q
    refine w_iload (Ev.cm _) rfl rfl ?_
    refine w_iload (Ev.cm _) rfl rfl ?_
    refine w_icmp_gt (Ev.cm _) rfl (fun c1 => ?_) (fun c1 => ?_)
    · have c1 : x4 < x6 := c1
      rw [if_pos c1] at q
      refine w_iload (Ev.cm _) rfl rfl ?_
      refine w_ireturn (Ev.cm _) rfl trivial rf0 ?_
      cases q
      exact g
    · have c1 : ¬ (x4 < x6) := c1
      rw [if_neg c1] at q
      refine w_iconst (Ev.cm _) rfl ?_
      refine w_istore (ls2 := [(0, .ref 331), (1, .int x1), (2, .int x2), (3, .int x3), (4, .int x4), (5, .int x5), (6, .int x6), (7, .int 0)]) (Ev.cm _) rfl rfl ?_
      show Wp _ _ _ _ _ _ _ 92 [(0, .ref 331), (1, .int x1), (2, .int x2), (3, .int x3), (4, .int x4), (5, .int x5), (6, .int x6), (7, .int 0)] [] (HS I L X)
      refine Wp.sub [0, 1, 2, 3, 4, 5, 6, 7] (ls2 := [(0, .ref 331), (1, .int x1), (2, .int x2), (3, .int x3), (4, .int x4), (5, .int x5), (6, .int x6), (7, .int 0)]) rfl ?_
      exact lo_M_quiet_92 g (fun x1 x2 x3 x4 x5 x6 I L q => ih x1 x2 x3 x4 x5 x6 I L q) fu _ _ _ _ _ _ _ _ _ q
def FO_M_quiet (fu : Nat) (p0 : Int32) (p1 : Int32) (p2 : Int32) (p3 : Int32) (I : Nat → Nat → Int32) (L : Nat → Nat → Int64) : Option (Int32 × (Nat → Nat → Int32) × (Nat → Nat → Int64)) := if F_M_isLodger I p0 = 0 then (some ((-2), I, L)) else (if 0 ≤ p1 ∧ p1 ≤ 12 then (if 0 ≤ p2 ∧ p2 ≤ 12 then ((FO_M_layFar fu p0 p2 I L).bind (fun u1 => let r1 := u1.1; let I1 := u1.2.1; let L1 := u1.2.2; if 0 ≤ p1 ∧ p1 < 13 then (if I1 341 p1.toNatClampNeg = 1000000 then (some ((-2), I1, L1)) else (if 0 ≤ p1 ∧ p1 < 13 then (if (-1 : Int32) ≤ p3 ∧ p3 ≤ ((I1 341 p1.toNatClampNeg) - 1) then (if p3 = (-1) then (if 0 ≤ p1 ∧ p1 < 13 then (some (I1 341 p1.toNatClampNeg, I1, L1)) else none) else (LO_M_quiet_82 fu fu p0 p1 p2 p3 p1 0 I1 L1)) else (some ((-2), I1, L1))) else none)) else none)) else (some ((-2), I, L))) else (some ((-2), I, L)))
set_option maxHeartbeats 20000000 in
set_option maxRecDepth 20000 in
theorem eo_M_quiet {d fu : Nat} {p0 : Int32} {p1 : Int32} {p2 : Int32} {p3 : Int32} {I : Nat → Nat → Int32} {L : Nat → Nat → Int64} {X : Nat × (Nat → Int32)} {Q : PQ} {res : Int32 × (Nat → Nat → Int32) × (Nat → Nat → Int64)}  (g : Q (some (.int res.1)) (HS res.2.1 res.2.2 X)) (q : FO_M_quiet fu p0 p1 p2 p3 I L = some res) : Ev (d + 11) m_M_quiet [.ref 331, .int p0, .int p1, .int p2, .int p3] (HS I L X) Q := by
  unfold FO_M_quiet at q
  refine ev_start (d := d + 10) rfl rfl rfl (Nat.le_of_ble_eq_true rfl) ?_
  show Wp (Ev (d + 10)) cd_M_quiet (0, 0) (some .int) _ _ Q 0 [(0, .ref 331), (1, .int p0), (2, .int p1), (3, .int p2), (4, .int p3)] [] (HS I L X)
  refine w_aload_n (Ev.cm _) rfl rfl ?_
  refine w_iload_n (Ev.cm _) rfl rfl ?_
  refine w_cvirt (o := 331) (as := [.int p0]) (st := []) (Ev.cm _) rfl rfl rfl (Nat.le_of_ble_eq_true rfl) (Nat.le_of_ble_eq_true rfl) rfl (Nat.le_of_ble_eq_true rfl) (e_M_isLodger ?_)
  show Wp _ _ _ _ _ _ _ 5 [(0, .ref 331), (1, .int p0), (2, .int p1), (3, .int p2), (4, .int p3)] [.int (F_M_isLodger I p0)] (HS I L X)
  refine w_if_eq (Ev.cm _) rfl (fun c1 => ?_) (fun c1 => ?_)
  · have c1 : F_M_isLodger I p0 = 0 := c1
    rw [if_pos c1] at q
    refine w_bipush (Ev.cm _) rfl ?_
    refine w_ireturn (Ev.cm _) rfl trivial rf0 ?_
    cases q
    exact g
  · have c1 : ¬ (F_M_isLodger I p0 = 0) := c1
    rw [if_neg c1] at q
    refine w_iload_n (Ev.cm _) rfl rfl ?_
    refine w_cstat (as := [.int p1]) (st := []) (Ev.cm _) rfl rfl rfl (Nat.le_of_ble_eq_true rfl) (Nat.le_of_ble_eq_true rfl) (m_isPlace ?_)
    show Wp _ _ _ _ _ _ _ 12 [(0, .ref 331), (1, .int p0), (2, .int p1), (3, .int p2), (4, .int p3)] [.int (bI (0 ≤ p1 ∧ p1 ≤ 12))] (HS I L X)
    refine w_if_eq (Ev.cm _) rfl (fun c2 => ?_) (fun c2 => ?_)
    · have c2 : ¬ (0 ≤ p1 ∧ p1 ≤ 12) := bI_0.mp c2
      rw [if_neg c2] at q
      refine w_bipush (Ev.cm _) rfl ?_
      refine w_ireturn (Ev.cm _) rfl trivial rf0 ?_
      cases q
      exact g
    · have c2 : 0 ≤ p1 ∧ p1 ≤ 12 := bI_1.mp c2
      rw [if_pos c2] at q
      refine w_iload_n (Ev.cm _) rfl rfl ?_
      refine w_cstat (as := [.int p2]) (st := []) (Ev.cm _) rfl rfl rfl (Nat.le_of_ble_eq_true rfl) (Nat.le_of_ble_eq_true rfl) (m_isPlace ?_)
      show Wp _ _ _ _ _ _ _ 19 [(0, .ref 331), (1, .int p0), (2, .int p1), (3, .int p2), (4, .int p3)] [.int (bI (0 ≤ p2 ∧ p2 ≤ 12))] (HS I L X)
      refine w_if_ne (Ev.cm _) rfl (fun c3 => ?_) (fun c3 => ?_)
      · have c3 : 0 ≤ p2 ∧ p2 ≤ 12 := bI_1.mp c3
        rw [if_pos c3] at q
        refine w_aload_n (Ev.cm _) rfl rfl ?_
        refine w_iload_n (Ev.cm _) rfl rfl ?_
        refine w_iload_n (Ev.cm _) rfl rfl ?_
        obtain ⟨⟨r1, I1, L1⟩, e1, q⟩ := obs q
        dsimp only at q
        refine w_cvirt (o := 331) (as := [.int p0, .int p2]) (st := []) (Ev.cm _) rfl rfl rfl (Nat.le_of_ble_eq_true rfl) (Nat.le_of_ble_eq_true rfl) rfl (Nat.le_of_ble_eq_true rfl) (eo_M_layFar (g := ?_) e1)
        show Wp _ _ _ _ _ _ _ 31 [(0, .ref 331), (1, .int p0), (2, .int p1), (3, .int p2), (4, .int p3)] [] (HS I1 L1 X)
        refine w_aload_n (Ev.cm _) rfl rfl ?_
        refine w_getR (q := 341) (Ev.cm _) rfl (Nat.le_of_ble_eq_true rfl) rfl rfl ?_
        refine w_iload_n (Ev.cm _) rfl rfl ?_
        obtain ⟨b2, q⟩ := ois q
        refine w_iald (Ev.cm _) rfl (Nat.le_of_ble_eq_true rfl) rfl (show vp_in p1 13 from vpI 13 (by decide) b2.1 b2.2) ?_
        refine w_ldc_w (Ev.cm _) rfl ?_
        refine w_icmp_eq (Ev.cm _) rfl (fun c4 => ?_) (fun c4 => ?_)
        · have c4 : I1 341 p1.toNatClampNeg = 1000000 := c4
          rw [if_pos c4] at q
          refine w_bipush (Ev.cm _) rfl ?_
          refine w_ireturn (Ev.cm _) rfl trivial rf0 ?_
          cases q
          exact g
        · have c4 : ¬ (I1 341 p1.toNatClampNeg = 1000000) := c4
          rw [if_neg c4] at q
          refine w_iload (Ev.cm _) rfl rfl ?_
          refine w_iconst (Ev.cm _) rfl ?_
          refine w_aload_n (Ev.cm _) rfl rfl ?_
          refine w_getR (q := 341) (Ev.cm _) rfl (Nat.le_of_ble_eq_true rfl) rfl rfl ?_
          refine w_iload_n (Ev.cm _) rfl rfl ?_
          obtain ⟨b3, q⟩ := ois q
          refine w_iald (Ev.cm _) rfl (Nat.le_of_ble_eq_true rfl) rfl (show vp_in p1 13 from vpI 13 (by decide) b3.1 b3.2) ?_
          refine w_iconst (Ev.cm _) rfl ?_
          refine w_isub (Ev.cm _) rfl ?_
          refine w_cstat (as := [.int p3, .int (-1), .int ((I1 341 p1.toNatClampNeg) - 1)]) (st := []) (Ev.cm _) rfl rfl rfl (Nat.le_of_ble_eq_true rfl) (Nat.le_of_ble_eq_true rfl) (m_isIn ?_)
          show Wp _ _ _ _ _ _ _ 57 [(0, .ref 331), (1, .int p0), (2, .int p1), (3, .int p2), (4, .int p3)] [.int (bI ((-1 : Int32) ≤ p3 ∧ p3 ≤ ((I1 341 p1.toNatClampNeg) - 1)))] (HS I1 L1 X)
          refine w_if_ne (Ev.cm _) rfl (fun c5 => ?_) (fun c5 => ?_)
          · have c5 : (-1 : Int32) ≤ p3 ∧ p3 ≤ ((I1 341 p1.toNatClampNeg) - 1) := bI_1.mp c5
            rw [if_pos c5] at q
            refine w_iload (Ev.cm _) rfl rfl ?_
            refine w_iconst (Ev.cm _) rfl ?_
            refine w_icmp_ne (Ev.cm _) rfl (fun c6 => ?_) (fun c6 => ?_)
            · have c6 : ¬ (p3 = (-1)) := c6
              rw [if_neg c6] at q
              refine w_iload_n (Ev.cm _) rfl rfl ?_
              refine w_istore (ls2 := [(0, .ref 331), (1, .int p0), (2, .int p1), (3, .int p2), (4, .int p3), (5, .int p1)]) (Ev.cm _) rfl rfl ?_
              refine w_iconst (Ev.cm _) rfl ?_
              refine w_istore (ls2 := [(0, .ref 331), (1, .int p0), (2, .int p1), (3, .int p2), (4, .int p3), (5, .int p1), (6, .int 0)]) (Ev.cm _) rfl rfl ?_
              show Wp _ _ _ _ _ _ _ 82 [(0, .ref 331), (1, .int p0), (2, .int p1), (3, .int p2), (4, .int p3), (5, .int p1), (6, .int 0)] [] (HS I1 L1 X)
              refine Wp.sub [0, 1, 2, 3, 4, 5, 6] (ls2 := [(0, .ref 331), (1, .int p0), (2, .int p1), (3, .int p2), (4, .int p3), (5, .int p1), (6, .int 0)]) rfl ?_
              exact lo_M_quiet_82 g fu _ _ _ _ _ _ _ _ q
            · have c6 : p3 = (-1) := c6
              rw [if_pos c6] at q
              refine w_aload_n (Ev.cm _) rfl rfl ?_
              refine w_getR (q := 341) (Ev.cm _) rfl (Nat.le_of_ble_eq_true rfl) rfl rfl ?_
              refine w_iload_n (Ev.cm _) rfl rfl ?_
              obtain ⟨b4, q⟩ := ois q
              refine w_iald (Ev.cm _) rfl (Nat.le_of_ble_eq_true rfl) rfl (show vp_in p1 13 from vpI 13 (by decide) b4.1 b4.2) ?_
              refine w_ireturn (Ev.cm _) rfl trivial rf0 ?_
              cases q
              exact g
          · have c5 : ¬ ((-1 : Int32) ≤ p3 ∧ p3 ≤ ((I1 341 p1.toNatClampNeg) - 1)) := bI_0.mp c5
            rw [if_neg c5] at q
            refine w_bipush (Ev.cm _) rfl ?_
            refine w_ireturn (Ev.cm _) rfl trivial rf0 ?_
            cases q
            exact g
      · have c3 : ¬ (0 ≤ p2 ∧ p2 ≤ 12) := bI_0.mp c3
        rw [if_neg c3] at q
        refine w_bipush (Ev.cm _) rfl ?_
        refine w_ireturn (Ev.cm _) rfl trivial rf0 ?_
        cases q
        exact g
def LO_M_waysOf_56 (fu : Nat) (k_3 : Int32 → Int32 → Int32 → Int32 → (Nat → Nat → Int32) → (Nat → Nat → Int64) → Option (Int64 × (Nat → Nat → Int32) × (Nat → Nat → Int64))) : Nat → Int32 → Int32 → Int32 → Int32 → Int32 → (Nat → Nat → Int32) → (Nat → Nat → Int64) → Option (Int64 × (Nat → Nat → Int32) × (Nat → Nat → Int64))
  | 0, _, _, _, _, _, _, _ => none
  | n + 1, x1, x2, x3, x4, x5, I, L => if 4 ≤ x5 then (k_3 x1 x2 x3 (x4 + 1) I L) else (if x4 < x5 then (k_3 x1 x2 x3 (x4 + 1) I L) else (if 0 ≤ x4 ∧ x4 < 13 then (if 0 ≤ x4 - x5 ∧ x4 - x5 < 13 then (if 0 ≤ x4 ∧ x4 < 13 then (LO_M_waysOf_56 fu k_3 n x1 x2 x3 x4 (x5 + 1) I (sL L 342 x4.toNatClampNeg ((L 342 x4.toNatClampNeg) + (L 342 ((x4 - x5).toNatClampNeg))))) else none) else none) else none))
set_option maxHeartbeats 20000000 in
set_option maxRecDepth 20000 in
theorem lo_M_waysOf_56 {d fu n0 s0 : Nat} {X : Nat × (Nat → Int32)} {Q : PQ} {k_3 : Int32 → Int32 → Int32 → Int32 → (Nat → Nat → Int32) → (Nat → Nat → Int64) → Option (Int64 × (Nat → Nat → Int32) × (Nat → Nat → Int64))} {res : Int64 × (Nat → Nat → Int32) × (Nat → Nat → Int64)}  (g : Q (some (.long res.1)) (HS res.2.1 res.2.2 X)) (hk_3 : ∀ (x1 : Int32) (x2 : Int32) (x3 : Int32) (x4 : Int32) (I : Nat → Nat → Int32) (L : Nat → Nat → Int64), k_3 x1 x2 x3 x4 I L = some res → Wp (Ev (d + 8)) cd_M_waysOf (0, 0) (some .long) n0 s0 Q 3 [(0, .ref 331), (1, .int x1), (2, .int x2), (3, .int x3), (4, .int x4)] [] (HS I L X)) : ∀ (n : Nat) (x1 : Int32) (x2 : Int32) (x3 : Int32) (x4 : Int32) (x5 : Int32) (I : Nat → Nat → Int32) (L : Nat → Nat → Int64), LO_M_waysOf_56 fu k_3 n x1 x2 x3 x4 x5 I L = some res → Wp (Ev (d + 8)) cd_M_waysOf (0, 0) (some .long) n0 s0 Q 56 [(0, .ref 331), (1, .int x1), (2, .int x2), (3, .int x3), (4, .int x4), (5, .int x5)] [] (HS I L X) := by
  intro n
  induction n with
  | zero => intro _ _ _ _ _ _ _ q; cases q
  | succ n ih =>
    intro x1 x2 x3 x4 x5 I L q
    unfold LO_M_waysOf_56 at q
    refine w_iload (Ev.cm _) rfl rfl ?_
    refine w_iconst (Ev.cm _) rfl ?_
    refine w_icmp_ge (Ev.cm _) rfl (fun c1 => ?_) (fun c1 => ?_)
    · have c1 : 4 ≤ x5 := c1
      rw [if_pos c1] at q
      refine w_iinc (ls2 := [(0, .ref 331), (1, .int x1), (2, .int x2), (3, .int x3), (4, .int (x4 + 1)), (5, .int x5)]) (Ev.cm _) rfl rfl rfl ?_
      refine w_goto (Ev.cm _) rfl ?_
      show Wp _ _ _ _ _ _ _ 3 [(0, .ref 331), (1, .int x1), (2, .int x2), (3, .int x3), (4, .int (x4 + 1)), (5, .int x5)] [] (HS I L X)
      refine Wp.sub [0, 1, 2, 3, 4] (ls2 := [(0, .ref 331), (1, .int x1), (2, .int x2), (3, .int x3), (4, .int (x4 + 1))]) rfl ?_
      exact hk_3 _ _ _ _ _ _ q
    · have c1 : ¬ (4 ≤ x5) := c1
      rw [if_neg c1] at q
      refine w_iload (Ev.cm _) rfl rfl ?_
      refine w_iload (Ev.cm _) rfl rfl ?_
      refine w_icmp_gt (Ev.cm _) rfl (fun c2 => ?_) (fun c2 => ?_)
      · have c2 : x4 < x5 := c2
        rw [if_pos c2] at q
        refine w_iinc (ls2 := [(0, .ref 331), (1, .int x1), (2, .int x2), (3, .int x3), (4, .int (x4 + 1)), (5, .int x5)]) (Ev.cm _) rfl rfl rfl ?_
        refine w_goto (Ev.cm _) rfl ?_
        show Wp _ _ _ _ _ _ _ 3 [(0, .ref 331), (1, .int x1), (2, .int x2), (3, .int x3), (4, .int (x4 + 1)), (5, .int x5)] [] (HS I L X)
        refine Wp.sub [0, 1, 2, 3, 4] (ls2 := [(0, .ref 331), (1, .int x1), (2, .int x2), (3, .int x3), (4, .int (x4 + 1))]) rfl ?_
        exact hk_3 _ _ _ _ _ _ q
      · have c2 : ¬ (x4 < x5) := c2
        rw [if_neg c2] at q
        refine w_aload_n (Ev.cm _) rfl rfl ?_
        refine w_getR (q := 342) (Ev.cm _) rfl (Nat.le_of_ble_eq_true rfl) rfl rfl ?_
        refine w_iload (Ev.cm _) rfl rfl ?_
        refine w_dup2 (Ev.cm _) rfl rfl rfl ?_
        obtain ⟨b1, q⟩ := ois q
        refine w_lald (Ev.cm _) rfl (Nat.le_of_ble_eq_true rfl) rfl (show vp_in x4 13 from vpI 13 (by decide) b1.1 b1.2) ?_
        refine w_aload_n (Ev.cm _) rfl rfl ?_
        refine w_getR (q := 342) (Ev.cm _) rfl (Nat.le_of_ble_eq_true rfl) rfl rfl ?_
        refine w_iload (Ev.cm _) rfl rfl ?_
        refine w_iload (Ev.cm _) rfl rfl ?_
        refine w_isub (Ev.cm _) rfl ?_
        obtain ⟨b2, q⟩ := ois q
        refine w_lald (Ev.cm _) rfl (Nat.le_of_ble_eq_true rfl) rfl (show vp_in (x4 - x5) 13 from vpI 13 (by decide) b2.1 b2.2) ?_
        refine w_ladd (Ev.cm _) rfl ?_
        obtain ⟨b3, q⟩ := ois q
        refine w_last (Ev.cm _) rfl (Nat.le_of_ble_eq_true rfl) rfl (show vp_in x4 13 from vpI 13 (by decide) b3.1 b3.2) ?_
        refine w_iinc (ls2 := [(0, .ref 331), (1, .int x1), (2, .int x2), (3, .int x3), (4, .int x4), (5, .int (x5 + 1))]) (Ev.cm _) rfl rfl rfl ?_
        refine w_goto (Ev.cm _) rfl ?_
        show Wp _ _ _ _ _ _ _ 56 [(0, .ref 331), (1, .int x1), (2, .int x2), (3, .int x3), (4, .int x4), (5, .int (x5 + 1))] [] (HS I (sL L 342 x4.toNatClampNeg ((L 342 x4.toNatClampNeg) + (L 342 ((x4 - x5).toNatClampNeg)))) X)
        refine Wp.sub [0, 1, 2, 3, 4, 5] (ls2 := [(0, .ref 331), (1, .int x1), (2, .int x2), (3, .int x3), (4, .int x4), (5, .int (x5 + 1))]) rfl ?_
        exact ih _ _ _ _ _ _ _ q
def LO_M_waysOf_3 (fu : Nat) : Nat → Int32 → Int32 → Int32 → Int32 → (Nat → Nat → Int32) → (Nat → Nat → Int64) → Option (Int64 × (Nat → Nat → Int32) × (Nat → Nat → Int64))
  | 0, _, _, _, _, _, _ => none
  | n + 1, x1, x2, x3, x4, I, L => if 12 < x4 then (if 0 ≤ x2 ∧ x2 < 13 then (some (L 342 x2.toNatClampNeg, I, L)) else none) else (if x4 = x1 then (if 0 ≤ x4 ∧ x4 < 13 then (if x4 ≤ x1 then (LO_M_waysOf_3 fu n x1 x2 x3 (x4 + 1) I (sL L 342 x4.toNatClampNeg 1)) else (if x3 = (-1) then (LO_M_waysOf_56 fu (fun x1 x2 x3 x4 I L => LO_M_waysOf_3 fu n x1 x2 x3 x4 I L) fu x1 x2 x3 x4 1 I (sL L 342 x4.toNatClampNeg 1)) else ((FO_M_heardAt fu x3 x4 1 I (sL L 342 x4.toNatClampNeg 1)).bind (fun u5 => let r5 := u5.1; let I5 := u5.2.1; let L5 := u5.2.2; if r5 ≤ 0 then (LO_M_waysOf_56 fu (fun x1 x2 x3 x4 I L => LO_M_waysOf_3 fu n x1 x2 x3 x4 I L) fu x1 x2 x3 x4 1 I5 L5) else (LO_M_waysOf_3 fu n x1 x2 x3 (x4 + 1) I5 L5))))) else none) else (if 0 ≤ x4 ∧ x4 < 13 then (if x4 ≤ x1 then (LO_M_waysOf_3 fu n x1 x2 x3 (x4 + 1) I (sL L 342 x4.toNatClampNeg 0)) else (if x3 = (-1) then (LO_M_waysOf_56 fu (fun x1 x2 x3 x4 I L => LO_M_waysOf_3 fu n x1 x2 x3 x4 I L) fu x1 x2 x3 x4 1 I (sL L 342 x4.toNatClampNeg 0)) else ((FO_M_heardAt fu x3 x4 1 I (sL L 342 x4.toNatClampNeg 0)).bind (fun u3 => let r3 := u3.1; let I3 := u3.2.1; let L3 := u3.2.2; if r3 ≤ 0 then (LO_M_waysOf_56 fu (fun x1 x2 x3 x4 I L => LO_M_waysOf_3 fu n x1 x2 x3 x4 I L) fu x1 x2 x3 x4 1 I3 L3) else (LO_M_waysOf_3 fu n x1 x2 x3 (x4 + 1) I3 L3))))) else none))
set_option maxHeartbeats 20000000 in
set_option maxRecDepth 20000 in
theorem lo_M_waysOf_3 {d fu n0 s0 : Nat} {X : Nat × (Nat → Int32)} {Q : PQ} {res : Int64 × (Nat → Nat → Int32) × (Nat → Nat → Int64)}  (g : Q (some (.long res.1)) (HS res.2.1 res.2.2 X)) : ∀ (n : Nat) (x1 : Int32) (x2 : Int32) (x3 : Int32) (x4 : Int32) (I : Nat → Nat → Int32) (L : Nat → Nat → Int64), LO_M_waysOf_3 fu n x1 x2 x3 x4 I L = some res → Wp (Ev (d + 8)) cd_M_waysOf (0, 0) (some .long) n0 s0 Q 3 [(0, .ref 331), (1, .int x1), (2, .int x2), (3, .int x3), (4, .int x4)] [] (HS I L X) := by
  intro n
  induction n with
  | zero => intro _ _ _ _ _ _ q; cases q
  | succ n ih =>
    intro x1 x2 x3 x4 I L q
    unfold LO_M_waysOf_3 at q
    refine w_iload (Ev.cm _) rfl rfl ?_
    refine w_bipush (Ev.cm _) rfl ?_
    refine w_icmp_gt (Ev.cm _) rfl (fun c1 => ?_) (fun c1 => ?_)
    · have c1 : 12 < x4 := c1
      rw [if_pos c1] at q
      refine w_aload_n (Ev.cm _) rfl rfl ?_
      refine w_getR (q := 342) (Ev.cm _) rfl (Nat.le_of_ble_eq_true rfl) rfl rfl ?_
      refine w_iload_n (Ev.cm _) rfl rfl ?_
      obtain ⟨b1, q⟩ := ois q
      refine w_lald (Ev.cm _) rfl (Nat.le_of_ble_eq_true rfl) rfl (show vp_in x2 13 from vpI 13 (by decide) b1.1 b1.2) ?_
      refine w_lreturn (Ev.cm _) rfl rfl rf0 ?_
      cases q
      exact g
    · have c1 : ¬ (12 < x4) := c1
      rw [if_neg c1] at q
      refine w_aload_n (Ev.cm _) rfl rfl ?_
      refine w_getR (q := 342) (Ev.cm _) rfl (Nat.le_of_ble_eq_true rfl) rfl rfl ?_
      refine w_iload (Ev.cm _) rfl rfl ?_
      refine w_iload (Ev.cm _) rfl rfl ?_
      refine w_iload_n (Ev.cm _) rfl rfl ?_
      refine w_icmp_ne (Ev.cm _) rfl (fun c2 => ?_) (fun c2 => ?_)
      · have c2 : ¬ (x4 = x1) := c2
        rw [if_neg c2] at q
        refine w_lconst (Ev.cm _) rfl ?_
        obtain ⟨b2, q⟩ := ois q
        refine w_last (Ev.cm _) rfl (Nat.le_of_ble_eq_true rfl) rfl (show vp_in x4 13 from vpI 13 (by decide) b2.1 b2.2) ?_
        refine w_iload (Ev.cm _) rfl rfl ?_
        refine w_iload_n (Ev.cm _) rfl rfl ?_
        refine w_icmp_le (Ev.cm _) rfl (fun c3 => ?_) (fun c3 => ?_)
        · have c3 : x4 ≤ x1 := c3
          rw [if_pos c3] at q
          refine w_iinc (ls2 := [(0, .ref 331), (1, .int x1), (2, .int x2), (3, .int x3), (4, .int (x4 + 1))]) (Ev.cm _) rfl rfl rfl ?_
          refine w_goto (Ev.cm _) rfl ?_
          show Wp _ _ _ _ _ _ _ 3 [(0, .ref 331), (1, .int x1), (2, .int x2), (3, .int x3), (4, .int (x4 + 1))] [] (HS I (sL L 342 x4.toNatClampNeg 0) X)
          refine Wp.sub [0, 1, 2, 3, 4] (ls2 := [(0, .ref 331), (1, .int x1), (2, .int x2), (3, .int x3), (4, .int (x4 + 1))]) rfl ?_
          exact ih _ _ _ _ _ _ q
        · have c3 : ¬ (x4 ≤ x1) := c3
          rw [if_neg c3] at q
          refine w_iload_n (Ev.cm _) rfl rfl ?_
          refine w_iconst (Ev.cm _) rfl ?_
          refine w_icmp_eq (Ev.cm _) rfl (fun c4 => ?_) (fun c4 => ?_)
          · have c4 : x3 = (-1) := c4
            rw [if_pos c4] at q
            refine w_iconst (Ev.cm _) rfl ?_
            refine w_istore (ls2 := [(0, .ref 331), (1, .int x1), (2, .int x2), (3, .int x3), (4, .int x4), (5, .int 1)]) (Ev.cm _) rfl rfl ?_
            show Wp _ _ _ _ _ _ _ 56 [(0, .ref 331), (1, .int x1), (2, .int x2), (3, .int x3), (4, .int x4), (5, .int 1)] [] (HS I (sL L 342 x4.toNatClampNeg 0) X)
            refine Wp.sub [0, 1, 2, 3, 4, 5] (ls2 := [(0, .ref 331), (1, .int x1), (2, .int x2), (3, .int x3), (4, .int x4), (5, .int 1)]) rfl ?_
            exact lo_M_waysOf_56 g (fun x1 x2 x3 x4 I L q => ih x1 x2 x3 x4 I L q) fu _ _ _ _ _ _ _ q
          · have c4 : ¬ (x3 = (-1)) := c4
            rw [if_neg c4] at q
            refine w_aload_n (Ev.cm _) rfl rfl ?_
            refine w_iload_n (Ev.cm _) rfl rfl ?_
            refine w_iload (Ev.cm _) rfl rfl ?_
            refine w_iconst (Ev.cm _) rfl ?_
            obtain ⟨⟨r3, I3, L3⟩, e3, q⟩ := obs q
            dsimp only at q
            refine w_cvirt (o := 331) (as := [.int x3, .int x4, .int 1]) (st := []) (Ev.cm _) rfl rfl rfl (Nat.le_of_ble_eq_true rfl) (Nat.le_of_ble_eq_true rfl) rfl (Nat.le_of_ble_eq_true rfl) (eo_M_heardAt (g := ?_) e3)
            show Wp _ _ _ _ _ _ _ 47 [(0, .ref 331), (1, .int x1), (2, .int x2), (3, .int x3), (4, .int x4)] [.int r3] (HS I3 L3 X)
            refine w_if_le (Ev.cm _) rfl (fun c5 => ?_) (fun c5 => ?_)
            · have c5 : r3 ≤ 0 := c5
              rw [if_pos c5] at q
              refine w_iconst (Ev.cm _) rfl ?_
              refine w_istore (ls2 := [(0, .ref 331), (1, .int x1), (2, .int x2), (3, .int x3), (4, .int x4), (5, .int 1)]) (Ev.cm _) rfl rfl ?_
              show Wp _ _ _ _ _ _ _ 56 [(0, .ref 331), (1, .int x1), (2, .int x2), (3, .int x3), (4, .int x4), (5, .int 1)] [] (HS I3 L3 X)
              refine Wp.sub [0, 1, 2, 3, 4, 5] (ls2 := [(0, .ref 331), (1, .int x1), (2, .int x2), (3, .int x3), (4, .int x4), (5, .int 1)]) rfl ?_
              exact lo_M_waysOf_56 g (fun x1 x2 x3 x4 I L q => ih x1 x2 x3 x4 I L q) fu _ _ _ _ _ _ _ q
            · have c5 : ¬ (r3 ≤ 0) := c5
              rw [if_neg c5] at q
              refine w_goto (Ev.cm _) rfl ?_
              refine w_iinc (ls2 := [(0, .ref 331), (1, .int x1), (2, .int x2), (3, .int x3), (4, .int (x4 + 1))]) (Ev.cm _) rfl rfl rfl ?_
              refine w_goto (Ev.cm _) rfl ?_
              show Wp _ _ _ _ _ _ _ 3 [(0, .ref 331), (1, .int x1), (2, .int x2), (3, .int x3), (4, .int (x4 + 1))] [] (HS I3 L3 X)
              refine Wp.sub [0, 1, 2, 3, 4] (ls2 := [(0, .ref 331), (1, .int x1), (2, .int x2), (3, .int x3), (4, .int (x4 + 1))]) rfl ?_
              exact ih _ _ _ _ _ _ q
      · have c2 : x4 = x1 := c2
        rw [if_pos c2] at q
        refine w_lconst (Ev.cm _) rfl ?_
        refine w_goto (Ev.cm _) rfl ?_
        obtain ⟨b4, q⟩ := ois q
        refine w_last (Ev.cm _) rfl (Nat.le_of_ble_eq_true rfl) rfl (show vp_in x4 13 from vpI 13 (by decide) b4.1 b4.2) ?_
        refine w_iload (Ev.cm _) rfl rfl ?_
        refine w_iload_n (Ev.cm _) rfl rfl ?_
        refine w_icmp_le (Ev.cm _) rfl (fun c6 => ?_) (fun c6 => ?_)
        · have c6 : x4 ≤ x1 := c6
          rw [if_pos c6] at q
          refine w_iinc (ls2 := [(0, .ref 331), (1, .int x1), (2, .int x2), (3, .int x3), (4, .int (x4 + 1))]) (Ev.cm _) rfl rfl rfl ?_
          refine w_goto (Ev.cm _) rfl ?_
          show Wp _ _ _ _ _ _ _ 3 [(0, .ref 331), (1, .int x1), (2, .int x2), (3, .int x3), (4, .int (x4 + 1))] [] (HS I (sL L 342 x4.toNatClampNeg 1) X)
          refine Wp.sub [0, 1, 2, 3, 4] (ls2 := [(0, .ref 331), (1, .int x1), (2, .int x2), (3, .int x3), (4, .int (x4 + 1))]) rfl ?_
          exact ih _ _ _ _ _ _ q
        · have c6 : ¬ (x4 ≤ x1) := c6
          rw [if_neg c6] at q
          refine w_iload_n (Ev.cm _) rfl rfl ?_
          refine w_iconst (Ev.cm _) rfl ?_
          refine w_icmp_eq (Ev.cm _) rfl (fun c7 => ?_) (fun c7 => ?_)
          · have c7 : x3 = (-1) := c7
            rw [if_pos c7] at q
            refine w_iconst (Ev.cm _) rfl ?_
            refine w_istore (ls2 := [(0, .ref 331), (1, .int x1), (2, .int x2), (3, .int x3), (4, .int x4), (5, .int 1)]) (Ev.cm _) rfl rfl ?_
            show Wp _ _ _ _ _ _ _ 56 [(0, .ref 331), (1, .int x1), (2, .int x2), (3, .int x3), (4, .int x4), (5, .int 1)] [] (HS I (sL L 342 x4.toNatClampNeg 1) X)
            refine Wp.sub [0, 1, 2, 3, 4, 5] (ls2 := [(0, .ref 331), (1, .int x1), (2, .int x2), (3, .int x3), (4, .int x4), (5, .int 1)]) rfl ?_
            exact lo_M_waysOf_56 g (fun x1 x2 x3 x4 I L q => ih x1 x2 x3 x4 I L q) fu _ _ _ _ _ _ _ q
          · have c7 : ¬ (x3 = (-1)) := c7
            rw [if_neg c7] at q
            refine w_aload_n (Ev.cm _) rfl rfl ?_
            refine w_iload_n (Ev.cm _) rfl rfl ?_
            refine w_iload (Ev.cm _) rfl rfl ?_
            refine w_iconst (Ev.cm _) rfl ?_
            obtain ⟨⟨r5, I5, L5⟩, e5, q⟩ := obs q
            dsimp only at q
            refine w_cvirt (o := 331) (as := [.int x3, .int x4, .int 1]) (st := []) (Ev.cm _) rfl rfl rfl (Nat.le_of_ble_eq_true rfl) (Nat.le_of_ble_eq_true rfl) rfl (Nat.le_of_ble_eq_true rfl) (eo_M_heardAt (g := ?_) e5)
            show Wp _ _ _ _ _ _ _ 47 [(0, .ref 331), (1, .int x1), (2, .int x2), (3, .int x3), (4, .int x4)] [.int r5] (HS I5 L5 X)
            refine w_if_le (Ev.cm _) rfl (fun c8 => ?_) (fun c8 => ?_)
            · have c8 : r5 ≤ 0 := c8
              rw [if_pos c8] at q
              refine w_iconst (Ev.cm _) rfl ?_
              refine w_istore (ls2 := [(0, .ref 331), (1, .int x1), (2, .int x2), (3, .int x3), (4, .int x4), (5, .int 1)]) (Ev.cm _) rfl rfl ?_
              show Wp _ _ _ _ _ _ _ 56 [(0, .ref 331), (1, .int x1), (2, .int x2), (3, .int x3), (4, .int x4), (5, .int 1)] [] (HS I5 L5 X)
              refine Wp.sub [0, 1, 2, 3, 4, 5] (ls2 := [(0, .ref 331), (1, .int x1), (2, .int x2), (3, .int x3), (4, .int x4), (5, .int 1)]) rfl ?_
              exact lo_M_waysOf_56 g (fun x1 x2 x3 x4 I L q => ih x1 x2 x3 x4 I L q) fu _ _ _ _ _ _ _ q
            · have c8 : ¬ (r5 ≤ 0) := c8
              rw [if_neg c8] at q
              refine w_goto (Ev.cm _) rfl ?_
              refine w_iinc (ls2 := [(0, .ref 331), (1, .int x1), (2, .int x2), (3, .int x3), (4, .int (x4 + 1))]) (Ev.cm _) rfl rfl rfl ?_
              refine w_goto (Ev.cm _) rfl ?_
              show Wp _ _ _ _ _ _ _ 3 [(0, .ref 331), (1, .int x1), (2, .int x2), (3, .int x3), (4, .int (x4 + 1))] [] (HS I5 L5 X)
              refine Wp.sub [0, 1, 2, 3, 4] (ls2 := [(0, .ref 331), (1, .int x1), (2, .int x2), (3, .int x3), (4, .int (x4 + 1))]) rfl ?_
              exact ih _ _ _ _ _ _ q
def FO_M_waysOf (fu : Nat) (p0 : Int32) (p1 : Int32) (p2 : Int32) (I : Nat → Nat → Int32) (L : Nat → Nat → Int64) : Option (Int64 × (Nat → Nat → Int32) × (Nat → Nat → Int64)) := LO_M_waysOf_3 fu fu p0 p1 p2 0 I L
set_option maxHeartbeats 20000000 in
set_option maxRecDepth 20000 in
theorem eo_M_waysOf {d fu : Nat} {p0 : Int32} {p1 : Int32} {p2 : Int32} {I : Nat → Nat → Int32} {L : Nat → Nat → Int64} {X : Nat × (Nat → Int32)} {Q : PQ} {res : Int64 × (Nat → Nat → Int32) × (Nat → Nat → Int64)}  (g : Q (some (.long res.1)) (HS res.2.1 res.2.2 X)) (q : FO_M_waysOf fu p0 p1 p2 I L = some res) : Ev (d + 9) m_M_waysOf [.ref 331, .int p0, .int p1, .int p2] (HS I L X) Q := by
  unfold FO_M_waysOf at q
  refine ev_start (d := d + 8) rfl rfl rfl (Nat.le_of_ble_eq_true rfl) ?_
  show Wp (Ev (d + 8)) cd_M_waysOf (0, 0) (some .long) _ _ Q 0 [(0, .ref 331), (1, .int p0), (2, .int p1), (3, .int p2)] [] (HS I L X)
  refine w_iconst (Ev.cm _) rfl ?_
  refine w_istore (ls2 := [(0, .ref 331), (1, .int p0), (2, .int p1), (3, .int p2), (4, .int 0)]) (Ev.cm _) rfl rfl ?_
  show Wp _ _ _ _ _ _ _ 3 [(0, .ref 331), (1, .int p0), (2, .int p1), (3, .int p2), (4, .int 0)] [] (HS I L X)
  refine Wp.sub [0, 1, 2, 3, 4] (ls2 := [(0, .ref 331), (1, .int p0), (2, .int p1), (3, .int p2), (4, .int 0)]) rfl ?_
  exact lo_M_waysOf_3 g fu _ _ _ _ _ _ q
def FO_M_isUp (fu : Nat) (p0 : Int32) (p1 : Int32) (I : Nat → Nat → Int32) (L : Nat → Nat → Int64) : Option (Int32 × (Nat → Nat → Int32) × (Nat → Nat → Int64)) := if 0 ≤ p0 ∧ p0 ≤ 12 then (if 0 ≤ p1 ∧ p1 ≤ 12 then (if p1 < p0 then (some (0, I, L)) else (some (1, I, L))) else (some (0, I, L))) else (some (0, I, L))
set_option maxHeartbeats 20000000 in
set_option maxRecDepth 20000 in
theorem eo_M_isUp {d fu : Nat} {p0 : Int32} {p1 : Int32} {I : Nat → Nat → Int32} {L : Nat → Nat → Int64} {X : Nat × (Nat → Int32)} {Q : PQ} {res : Int32 × (Nat → Nat → Int32) × (Nat → Nat → Int64)}  (g : Q (some (.int res.1)) (HS res.2.1 res.2.2 X)) (q : FO_M_isUp fu p0 p1 I L = some res) : Ev (d + 3) m_M_isUp [.int p0, .int p1] (HS I L X) Q := by
  unfold FO_M_isUp at q
  refine ev_start (d := d + 2) rfl rfl rfl (Nat.le_of_ble_eq_true rfl) ?_
  show Wp (Ev (d + 2)) cd_M_isUp (0, 0) (some .boolean) _ _ Q 0 [(0, .int p0), (1, .int p1)] [] (HS I L X)
  refine w_iload_n (Ev.cm _) rfl rfl ?_
  refine w_cstat (as := [.int p0]) (st := []) (Ev.cm _) rfl rfl rfl (Nat.le_of_ble_eq_true rfl) (Nat.le_of_ble_eq_true rfl) (m_isPlace ?_)
  show Wp _ _ _ _ _ _ _ 4 [(0, .int p0), (1, .int p1)] [.int (bI (0 ≤ p0 ∧ p0 ≤ 12))] (HS I L X)
  refine w_if_eq (Ev.cm _) rfl (fun c1 => ?_) (fun c1 => ?_)
  · have c1 : ¬ (0 ≤ p0 ∧ p0 ≤ 12) := bI_0.mp c1
    rw [if_neg c1] at q
    refine w_iconst (Ev.cm _) rfl ?_
    refine w_ireturn (Ev.cm _) rfl (by first | exact rok_0 | exact rok_1 | exact rok_b) rf0 ?_
    cases q
    exact g
  · have c1 : 0 ≤ p0 ∧ p0 ≤ 12 := bI_1.mp c1
    rw [if_pos c1] at q
    refine w_iload_n (Ev.cm _) rfl rfl ?_
    refine w_cstat (as := [.int p1]) (st := []) (Ev.cm _) rfl rfl rfl (Nat.le_of_ble_eq_true rfl) (Nat.le_of_ble_eq_true rfl) (m_isPlace ?_)
    show Wp _ _ _ _ _ _ _ 11 [(0, .int p0), (1, .int p1)] [.int (bI (0 ≤ p1 ∧ p1 ≤ 12))] (HS I L X)
    refine w_if_eq (Ev.cm _) rfl (fun c2 => ?_) (fun c2 => ?_)
    · have c2 : ¬ (0 ≤ p1 ∧ p1 ≤ 12) := bI_0.mp c2
      rw [if_neg c2] at q
      refine w_iconst (Ev.cm _) rfl ?_
      refine w_ireturn (Ev.cm _) rfl (by first | exact rok_0 | exact rok_1 | exact rok_b) rf0 ?_
      cases q
      exact g
    · have c2 : 0 ≤ p1 ∧ p1 ≤ 12 := bI_1.mp c2
      rw [if_pos c2] at q
      refine w_iload_n (Ev.cm _) rfl rfl ?_
      refine w_iload_n (Ev.cm _) rfl rfl ?_
      refine w_icmp_gt (Ev.cm _) rfl (fun c3 => ?_) (fun c3 => ?_)
      · have c3 : p1 < p0 := c3
        rw [if_pos c3] at q
        refine w_iconst (Ev.cm _) rfl ?_
        refine w_ireturn (Ev.cm _) rfl (by first | exact rok_0 | exact rok_1 | exact rok_b) rf0 ?_
        cases q
        exact g
      · have c3 : ¬ (p1 < p0) := c3
        rw [if_neg c3] at q
        refine w_iconst (Ev.cm _) rfl ?_
        refine w_goto (Ev.cm _) rfl ?_
        refine w_ireturn (Ev.cm _) rfl (by first | exact rok_0 | exact rok_1 | exact rok_b) rf0 ?_
        cases q
        exact g
def FO_M_ways (fu : Nat) (p0 : Int32) (p1 : Int32) (I : Nat → Nat → Int32) (L : Nat → Nat → Int64) : Option (Int64 × (Nat → Nat → Int32) × (Nat → Nat → Int64)) := (FO_M_isUp fu p0 p1 I L).bind (fun u1 => let r1 := u1.1; let I1 := u1.2.1; let L1 := u1.2.2; if r1 = 0 then (some ((-1), I1, L1)) else ((FO_M_waysOf fu p0 p1 (-1) I1 L1).bind (fun u2 => let r2 := u2.1; let I2 := u2.2.1; let L2 := u2.2.2; some (r2, I2, L2))))
set_option maxHeartbeats 20000000 in
set_option maxRecDepth 20000 in
theorem eo_M_ways {d fu : Nat} {p0 : Int32} {p1 : Int32} {I : Nat → Nat → Int32} {L : Nat → Nat → Int64} {X : Nat × (Nat → Int32)} {Q : PQ} {res : Int64 × (Nat → Nat → Int32) × (Nat → Nat → Int64)}  (g : Q (some (.long res.1)) (HS res.2.1 res.2.2 X)) (q : FO_M_ways fu p0 p1 I L = some res) : Ev (d + 10) m_M_ways [.ref 331, .int p0, .int p1] (HS I L X) Q := by
  unfold FO_M_ways at q
  refine ev_start (d := d + 9) rfl rfl rfl (Nat.le_of_ble_eq_true rfl) ?_
  show Wp (Ev (d + 9)) cd_M_ways (0, 0) (some .long) _ _ Q 0 [(0, .ref 331), (1, .int p0), (2, .int p1)] [] (HS I L X)
  refine w_iload_n (Ev.cm _) rfl rfl ?_
  refine w_iload_n (Ev.cm _) rfl rfl ?_
  obtain ⟨⟨r1, I1, L1⟩, e1, q⟩ := obs q
  dsimp only at q
  refine w_cstat (as := [.int p0, .int p1]) (st := []) (Ev.cm _) rfl rfl rfl (Nat.le_of_ble_eq_true rfl) (Nat.le_of_ble_eq_true rfl) (eo_M_isUp (g := ?_) e1)
  show Wp _ _ _ _ _ _ _ 5 [(0, .ref 331), (1, .int p0), (2, .int p1)] [.int r1] (HS I1 L1 X)
  refine w_if_eq (Ev.cm _) rfl (fun c1 => ?_) (fun c1 => ?_)
  · have c1 : r1 = 0 := c1
    rw [if_pos c1] at q
    refine w_ldc2_w (Ev.cm _) rfl ?_
    refine w_lreturn (Ev.cm _) rfl rfl rf0 ?_
    cases q
    exact g
  · have c1 : ¬ (r1 = 0) := c1
    rw [if_neg c1] at q
    refine w_aload_n (Ev.cm _) rfl rfl ?_
    refine w_iload_n (Ev.cm _) rfl rfl ?_
    refine w_iload_n (Ev.cm _) rfl rfl ?_
    refine w_iconst (Ev.cm _) rfl ?_
    obtain ⟨⟨r2, I2, L2⟩, e2, q⟩ := obs q
    dsimp only at q
    refine w_cvirt (o := 331) (as := [.int p0, .int p1, .int (-1)]) (st := []) (Ev.cm _) rfl rfl rfl (Nat.le_of_ble_eq_true rfl) (Nat.le_of_ble_eq_true rfl) rfl (Nat.le_of_ble_eq_true rfl) (eo_M_waysOf (g := ?_) e2)
    show Wp _ _ _ _ _ _ _ 15 [(0, .ref 331), (1, .int p0), (2, .int p1)] [.long r2] (HS I2 L2 X)
    refine w_goto (Ev.cm _) rfl ?_
    refine w_lreturn (Ev.cm _) rfl rfl rf0 ?_
    cases q
    exact g
def FO_M_unheard (fu : Nat) (p0 : Int32) (p1 : Int32) (p2 : Int32) (I : Nat → Nat → Int32) (L : Nat → Nat → Int64) : Option (Int64 × (Nat → Nat → Int32) × (Nat → Nat → Int64)) := if F_M_isLodger I p0 = 0 then (some ((-1), I, L)) else ((FO_M_isUp fu p1 p2 I L).bind (fun u1 => let r1 := u1.1; let I1 := u1.2.1; let L1 := u1.2.2; if r1 = 0 then (some ((-1), I1, L1)) else ((FO_M_waysOf fu p1 p2 p0 I1 L1).bind (fun u2 => let r2 := u2.1; let I2 := u2.2.1; let L2 := u2.2.2; some (r2, I2, L2)))))
set_option maxHeartbeats 20000000 in
set_option maxRecDepth 20000 in
theorem eo_M_unheard {d fu : Nat} {p0 : Int32} {p1 : Int32} {p2 : Int32} {I : Nat → Nat → Int32} {L : Nat → Nat → Int64} {X : Nat × (Nat → Int32)} {Q : PQ} {res : Int64 × (Nat → Nat → Int32) × (Nat → Nat → Int64)}  (g : Q (some (.long res.1)) (HS res.2.1 res.2.2 X)) (q : FO_M_unheard fu p0 p1 p2 I L = some res) : Ev (d + 10) m_M_unheard [.ref 331, .int p0, .int p1, .int p2] (HS I L X) Q := by
  unfold FO_M_unheard at q
  refine ev_start (d := d + 9) rfl rfl rfl (Nat.le_of_ble_eq_true rfl) ?_
  show Wp (Ev (d + 9)) cd_M_unheard (0, 0) (some .long) _ _ Q 0 [(0, .ref 331), (1, .int p0), (2, .int p1), (3, .int p2)] [] (HS I L X)
  refine w_aload_n (Ev.cm _) rfl rfl ?_
  refine w_iload_n (Ev.cm _) rfl rfl ?_
  refine w_cvirt (o := 331) (as := [.int p0]) (st := []) (Ev.cm _) rfl rfl rfl (Nat.le_of_ble_eq_true rfl) (Nat.le_of_ble_eq_true rfl) rfl (Nat.le_of_ble_eq_true rfl) (e_M_isLodger ?_)
  show Wp _ _ _ _ _ _ _ 5 [(0, .ref 331), (1, .int p0), (2, .int p1), (3, .int p2)] [.int (F_M_isLodger I p0)] (HS I L X)
  refine w_if_eq (Ev.cm _) rfl (fun c1 => ?_) (fun c1 => ?_)
  · have c1 : F_M_isLodger I p0 = 0 := c1
    rw [if_pos c1] at q
    refine w_ldc2_w (Ev.cm _) rfl ?_
    refine w_lreturn (Ev.cm _) rfl rfl rf0 ?_
    cases q
    exact g
  · have c1 : ¬ (F_M_isLodger I p0 = 0) := c1
    rw [if_neg c1] at q
    refine w_iload_n (Ev.cm _) rfl rfl ?_
    refine w_iload_n (Ev.cm _) rfl rfl ?_
    obtain ⟨⟨r1, I1, L1⟩, e1, q⟩ := obs q
    dsimp only at q
    refine w_cstat (as := [.int p1, .int p2]) (st := []) (Ev.cm _) rfl rfl rfl (Nat.le_of_ble_eq_true rfl) (Nat.le_of_ble_eq_true rfl) (eo_M_isUp (g := ?_) e1)
    show Wp _ _ _ _ _ _ _ 13 [(0, .ref 331), (1, .int p0), (2, .int p1), (3, .int p2)] [.int r1] (HS I1 L1 X)
    refine w_if_eq (Ev.cm _) rfl (fun c2 => ?_) (fun c2 => ?_)
    · have c2 : r1 = 0 := c2
      rw [if_pos c2] at q
      refine w_ldc2_w (Ev.cm _) rfl ?_
      refine w_lreturn (Ev.cm _) rfl rfl rf0 ?_
      cases q
      exact g
    · have c2 : ¬ (r1 = 0) := c2
      rw [if_neg c2] at q
      refine w_aload_n (Ev.cm _) rfl rfl ?_
      refine w_iload_n (Ev.cm _) rfl rfl ?_
      refine w_iload_n (Ev.cm _) rfl rfl ?_
      refine w_iload_n (Ev.cm _) rfl rfl ?_
      obtain ⟨⟨r2, I2, L2⟩, e2, q⟩ := obs q
      dsimp only at q
      refine w_cvirt (o := 331) (as := [.int p1, .int p2, .int p0]) (st := []) (Ev.cm _) rfl rfl rfl (Nat.le_of_ble_eq_true rfl) (Nat.le_of_ble_eq_true rfl) rfl (Nat.le_of_ble_eq_true rfl) (eo_M_waysOf (g := ?_) e2)
      show Wp _ _ _ _ _ _ _ 23 [(0, .ref 331), (1, .int p0), (2, .int p1), (3, .int p2)] [.long r2] (HS I2 L2 X)
      refine w_goto (Ev.cm _) rfl ?_
      refine w_lreturn (Ev.cm _) rfl rfl rf0 ?_
      cases q
      exact g
def LO_M_waysBy_69 (fu : Nat) (k_59 : Int32 → Int32 → Int32 → Int32 → (Nat → Nat → Int32) → (Nat → Nat → Int64) → Option (Int64 × (Nat → Nat → Int32) × (Nat → Nat → Int64))) : Nat → Int32 → Int32 → Int32 → Int32 → Int32 → (Nat → Nat → Int32) → (Nat → Nat → Int64) → Option (Int64 × (Nat → Nat → Int32) × (Nat → Nat → Int64))
  | 0, _, _, _, _, _, _, _ => none
  | n + 1, x1, x2, x3, x4, x5, I, L => if x5 < 0 then (k_59 x1 x2 x3 (x4 + 1) I L) else (if x5 ≤ 0 then (if x5 ≤ 1 then (if x5 ≤ 2 then (if 0 ≤ x5 ∧ x5 < 13 then (LO_M_waysBy_69 fu k_59 n x1 x2 x3 x4 (x5 + (-1)) I (sL L 342 x5.toNatClampNeg (((0 : Int64) + 0) + 0))) else none) else (if 0 ≤ x5 - 3 ∧ x5 - 3 < 13 then (if 0 ≤ x5 ∧ x5 < 13 then (LO_M_waysBy_69 fu k_59 n x1 x2 x3 x4 (x5 + (-1)) I (sL L 342 x5.toNatClampNeg (((0 : Int64) + 0) + (L 342 ((x5 - 3).toNatClampNeg))))) else none) else none)) else (if 0 ≤ x5 - 2 ∧ x5 - 2 < 13 then (if x5 ≤ 2 then (if 0 ≤ x5 ∧ x5 < 13 then (LO_M_waysBy_69 fu k_59 n x1 x2 x3 x4 (x5 + (-1)) I (sL L 342 x5.toNatClampNeg (((0 : Int64) + (L 342 ((x5 - 2).toNatClampNeg))) + 0))) else none) else (if 0 ≤ x5 - 3 ∧ x5 - 3 < 13 then (if 0 ≤ x5 ∧ x5 < 13 then (LO_M_waysBy_69 fu k_59 n x1 x2 x3 x4 (x5 + (-1)) I (sL L 342 x5.toNatClampNeg (((0 : Int64) + (L 342 ((x5 - 2).toNatClampNeg))) + (L 342 ((x5 - 3).toNatClampNeg))))) else none) else none)) else none)) else (if 0 ≤ x5 - 1 ∧ x5 - 1 < 13 then (if x5 ≤ 1 then (if x5 ≤ 2 then (if 0 ≤ x5 ∧ x5 < 13 then (LO_M_waysBy_69 fu k_59 n x1 x2 x3 x4 (x5 + (-1)) I (sL L 342 x5.toNatClampNeg (((L 342 ((x5 - 1).toNatClampNeg)) + 0) + 0))) else none) else (if 0 ≤ x5 - 3 ∧ x5 - 3 < 13 then (if 0 ≤ x5 ∧ x5 < 13 then (LO_M_waysBy_69 fu k_59 n x1 x2 x3 x4 (x5 + (-1)) I (sL L 342 x5.toNatClampNeg (((L 342 ((x5 - 1).toNatClampNeg)) + 0) + (L 342 ((x5 - 3).toNatClampNeg))))) else none) else none)) else (if 0 ≤ x5 - 2 ∧ x5 - 2 < 13 then (if x5 ≤ 2 then (if 0 ≤ x5 ∧ x5 < 13 then (LO_M_waysBy_69 fu k_59 n x1 x2 x3 x4 (x5 + (-1)) I (sL L 342 x5.toNatClampNeg (((L 342 ((x5 - 1).toNatClampNeg)) + (L 342 ((x5 - 2).toNatClampNeg))) + 0))) else none) else (if 0 ≤ x5 - 3 ∧ x5 - 3 < 13 then (if 0 ≤ x5 ∧ x5 < 13 then (LO_M_waysBy_69 fu k_59 n x1 x2 x3 x4 (x5 + (-1)) I (sL L 342 x5.toNatClampNeg (((L 342 ((x5 - 1).toNatClampNeg)) + (L 342 ((x5 - 2).toNatClampNeg))) + (L 342 ((x5 - 3).toNatClampNeg))))) else none) else none)) else none)) else none))
set_option maxHeartbeats 20000000 in
set_option maxRecDepth 20000 in
theorem lo_M_waysBy_69 {d fu n0 s0 : Nat} {X : Nat × (Nat → Int32)} {Q : PQ} {k_59 : Int32 → Int32 → Int32 → Int32 → (Nat → Nat → Int32) → (Nat → Nat → Int64) → Option (Int64 × (Nat → Nat → Int32) × (Nat → Nat → Int64))} {res : Int64 × (Nat → Nat → Int32) × (Nat → Nat → Int64)}  (g : Q (some (.long res.1)) (HS res.2.1 res.2.2 X)) (hk_59 : ∀ (x1 : Int32) (x2 : Int32) (x3 : Int32) (x4 : Int32) (I : Nat → Nat → Int32) (L : Nat → Nat → Int64), k_59 x1 x2 x3 x4 I L = some res → Wp (Ev (d + 3)) cd_M_waysBy (0, 0) (some .long) n0 s0 Q 59 [(0, .ref 331), (1, .int x1), (2, .int x2), (3, .int x3), (4, .int x4)] [] (HS I L X)) : ∀ (n : Nat) (x1 : Int32) (x2 : Int32) (x3 : Int32) (x4 : Int32) (x5 : Int32) (I : Nat → Nat → Int32) (L : Nat → Nat → Int64), LO_M_waysBy_69 fu k_59 n x1 x2 x3 x4 x5 I L = some res → Wp (Ev (d + 3)) cd_M_waysBy (0, 0) (some .long) n0 s0 Q 69 [(0, .ref 331), (1, .int x1), (2, .int x2), (3, .int x3), (4, .int x4), (5, .int x5)] [] (HS I L X) := by
  intro n
  induction n with
  | zero => intro _ _ _ _ _ _ _ q; cases q
  | succ n ih =>
    intro x1 x2 x3 x4 x5 I L q
    unfold LO_M_waysBy_69 at q
    refine w_iload (Ev.cm _) rfl rfl ?_
    refine w_if_lt (Ev.cm _) rfl (fun c1 => ?_) (fun c1 => ?_)
    · have c1 : x5 < 0 := c1
      rw [if_pos c1] at q
      refine w_iinc (ls2 := [(0, .ref 331), (1, .int x1), (2, .int x2), (3, .int x3), (4, .int (x4 + 1)), (5, .int x5)]) (Ev.cm _) rfl rfl rfl ?_
      refine w_goto (Ev.cm _) rfl ?_
      show Wp _ _ _ _ _ _ _ 59 [(0, .ref 331), (1, .int x1), (2, .int x2), (3, .int x3), (4, .int (x4 + 1)), (5, .int x5)] [] (HS I L X)
      refine Wp.sub [0, 1, 2, 3, 4] (ls2 := [(0, .ref 331), (1, .int x1), (2, .int x2), (3, .int x3), (4, .int (x4 + 1))]) rfl ?_
      exact hk_59 _ _ _ _ _ _ q
    · have c1 : ¬ (x5 < 0) := c1
      rw [if_neg c1] at q
      refine w_aload_n (Ev.cm _) rfl rfl ?_
      refine w_getR (q := 342) (Ev.cm _) rfl (Nat.le_of_ble_eq_true rfl) rfl rfl ?_
      refine w_iload (Ev.cm _) rfl rfl ?_
      refine w_iload (Ev.cm _) rfl rfl ?_
      refine w_if_le (Ev.cm _) rfl (fun c2 => ?_) (fun c2 => ?_)
      · have c2 : x5 ≤ 0 := c2
        rw [if_pos c2] at q
        refine w_lconst (Ev.cm _) rfl ?_
        refine w_iload (Ev.cm _) rfl rfl ?_
        refine w_iconst (Ev.cm _) rfl ?_
        refine w_icmp_le (Ev.cm _) rfl (fun c3 => ?_) (fun c3 => ?_)
        · have c3 : x5 ≤ 1 := c3
          rw [if_pos c3] at q
          refine w_lconst (Ev.cm _) rfl ?_
          refine w_ladd (Ev.cm _) rfl ?_
          refine w_iload (Ev.cm _) rfl rfl ?_
          refine w_iconst (Ev.cm _) rfl ?_
          refine w_icmp_le (Ev.cm _) rfl (fun c4 => ?_) (fun c4 => ?_)
          · have c4 : x5 ≤ 2 := c4
            rw [if_pos c4] at q
            refine w_lconst (Ev.cm _) rfl ?_
            refine w_ladd (Ev.cm _) rfl ?_
            obtain ⟨b1, q⟩ := ois q
            refine w_last (Ev.cm _) rfl (Nat.le_of_ble_eq_true rfl) rfl (show vp_in x5 13 from vpI 13 (by decide) b1.1 b1.2) ?_
            refine w_iinc (ls2 := [(0, .ref 331), (1, .int x1), (2, .int x2), (3, .int x3), (4, .int x4), (5, .int (x5 + (-1)))]) (Ev.cm _) rfl rfl rfl ?_
            refine w_goto (Ev.cm _) rfl ?_
            show Wp _ _ _ _ _ _ _ 69 [(0, .ref 331), (1, .int x1), (2, .int x2), (3, .int x3), (4, .int x4), (5, .int (x5 + (-1)))] [] (HS I (sL L 342 x5.toNatClampNeg (((0 : Int64) + 0) + 0)) X)
            refine Wp.sub [0, 1, 2, 3, 4, 5] (ls2 := [(0, .ref 331), (1, .int x1), (2, .int x2), (3, .int x3), (4, .int x4), (5, .int (x5 + (-1)))]) rfl ?_
            exact ih _ _ _ _ _ _ _ q
          · have c4 : ¬ (x5 ≤ 2) := c4
            rw [if_neg c4] at q
            refine w_aload_n (Ev.cm _) rfl rfl ?_
            refine w_getR (q := 342) (Ev.cm _) rfl (Nat.le_of_ble_eq_true rfl) rfl rfl ?_
            refine w_iload (Ev.cm _) rfl rfl ?_
            refine w_iconst (Ev.cm _) rfl ?_
            refine w_isub (Ev.cm _) rfl ?_
            obtain ⟨b2, q⟩ := ois q
            refine w_lald (Ev.cm _) rfl (Nat.le_of_ble_eq_true rfl) rfl (show vp_in (x5 - 3) 13 from vpI 13 (by decide) b2.1 b2.2) ?_
            refine w_goto (Ev.cm _) rfl ?_
            refine w_ladd (Ev.cm _) rfl ?_
            obtain ⟨b3, q⟩ := ois q
            refine w_last (Ev.cm _) rfl (Nat.le_of_ble_eq_true rfl) rfl (show vp_in x5 13 from vpI 13 (by decide) b3.1 b3.2) ?_
            refine w_iinc (ls2 := [(0, .ref 331), (1, .int x1), (2, .int x2), (3, .int x3), (4, .int x4), (5, .int (x5 + (-1)))]) (Ev.cm _) rfl rfl rfl ?_
            refine w_goto (Ev.cm _) rfl ?_
            show Wp _ _ _ _ _ _ _ 69 [(0, .ref 331), (1, .int x1), (2, .int x2), (3, .int x3), (4, .int x4), (5, .int (x5 + (-1)))] [] (HS I (sL L 342 x5.toNatClampNeg (((0 : Int64) + 0) + (L 342 ((x5 - 3).toNatClampNeg)))) X)
            refine Wp.sub [0, 1, 2, 3, 4, 5] (ls2 := [(0, .ref 331), (1, .int x1), (2, .int x2), (3, .int x3), (4, .int x4), (5, .int (x5 + (-1)))]) rfl ?_
            exact ih _ _ _ _ _ _ _ q
        · have c3 : ¬ (x5 ≤ 1) := c3
          rw [if_neg c3] at q
          refine w_aload_n (Ev.cm _) rfl rfl ?_
          refine w_getR (q := 342) (Ev.cm _) rfl (Nat.le_of_ble_eq_true rfl) rfl rfl ?_
          refine w_iload (Ev.cm _) rfl rfl ?_
          refine w_iconst (Ev.cm _) rfl ?_
          refine w_isub (Ev.cm _) rfl ?_
          obtain ⟨b4, q⟩ := ois q
          refine w_lald (Ev.cm _) rfl (Nat.le_of_ble_eq_true rfl) rfl (show vp_in (x5 - 2) 13 from vpI 13 (by decide) b4.1 b4.2) ?_
          refine w_goto (Ev.cm _) rfl ?_
          refine w_ladd (Ev.cm _) rfl ?_
          refine w_iload (Ev.cm _) rfl rfl ?_
          refine w_iconst (Ev.cm _) rfl ?_
          refine w_icmp_le (Ev.cm _) rfl (fun c5 => ?_) (fun c5 => ?_)
          · have c5 : x5 ≤ 2 := c5
            rw [if_pos c5] at q
            refine w_lconst (Ev.cm _) rfl ?_
            refine w_ladd (Ev.cm _) rfl ?_
            obtain ⟨b5, q⟩ := ois q
            refine w_last (Ev.cm _) rfl (Nat.le_of_ble_eq_true rfl) rfl (show vp_in x5 13 from vpI 13 (by decide) b5.1 b5.2) ?_
            refine w_iinc (ls2 := [(0, .ref 331), (1, .int x1), (2, .int x2), (3, .int x3), (4, .int x4), (5, .int (x5 + (-1)))]) (Ev.cm _) rfl rfl rfl ?_
            refine w_goto (Ev.cm _) rfl ?_
            show Wp _ _ _ _ _ _ _ 69 [(0, .ref 331), (1, .int x1), (2, .int x2), (3, .int x3), (4, .int x4), (5, .int (x5 + (-1)))] [] (HS I (sL L 342 x5.toNatClampNeg (((0 : Int64) + (L 342 ((x5 - 2).toNatClampNeg))) + 0)) X)
            refine Wp.sub [0, 1, 2, 3, 4, 5] (ls2 := [(0, .ref 331), (1, .int x1), (2, .int x2), (3, .int x3), (4, .int x4), (5, .int (x5 + (-1)))]) rfl ?_
            exact ih _ _ _ _ _ _ _ q
          · have c5 : ¬ (x5 ≤ 2) := c5
            rw [if_neg c5] at q
            refine w_aload_n (Ev.cm _) rfl rfl ?_
            refine w_getR (q := 342) (Ev.cm _) rfl (Nat.le_of_ble_eq_true rfl) rfl rfl ?_
            refine w_iload (Ev.cm _) rfl rfl ?_
            refine w_iconst (Ev.cm _) rfl ?_
            refine w_isub (Ev.cm _) rfl ?_
            obtain ⟨b6, q⟩ := ois q
            refine w_lald (Ev.cm _) rfl (Nat.le_of_ble_eq_true rfl) rfl (show vp_in (x5 - 3) 13 from vpI 13 (by decide) b6.1 b6.2) ?_
            refine w_goto (Ev.cm _) rfl ?_
            refine w_ladd (Ev.cm _) rfl ?_
            obtain ⟨b7, q⟩ := ois q
            refine w_last (Ev.cm _) rfl (Nat.le_of_ble_eq_true rfl) rfl (show vp_in x5 13 from vpI 13 (by decide) b7.1 b7.2) ?_
            refine w_iinc (ls2 := [(0, .ref 331), (1, .int x1), (2, .int x2), (3, .int x3), (4, .int x4), (5, .int (x5 + (-1)))]) (Ev.cm _) rfl rfl rfl ?_
            refine w_goto (Ev.cm _) rfl ?_
            show Wp _ _ _ _ _ _ _ 69 [(0, .ref 331), (1, .int x1), (2, .int x2), (3, .int x3), (4, .int x4), (5, .int (x5 + (-1)))] [] (HS I (sL L 342 x5.toNatClampNeg (((0 : Int64) + (L 342 ((x5 - 2).toNatClampNeg))) + (L 342 ((x5 - 3).toNatClampNeg)))) X)
            refine Wp.sub [0, 1, 2, 3, 4, 5] (ls2 := [(0, .ref 331), (1, .int x1), (2, .int x2), (3, .int x3), (4, .int x4), (5, .int (x5 + (-1)))]) rfl ?_
            exact ih _ _ _ _ _ _ _ q
      · have c2 : ¬ (x5 ≤ 0) := c2
        rw [if_neg c2] at q
        refine w_aload_n (Ev.cm _) rfl rfl ?_
        refine w_getR (q := 342) (Ev.cm _) rfl (Nat.le_of_ble_eq_true rfl) rfl rfl ?_
        refine w_iload (Ev.cm _) rfl rfl ?_
        refine w_iconst (Ev.cm _) rfl ?_
        refine w_isub (Ev.cm _) rfl ?_
        obtain ⟨b8, q⟩ := ois q
        refine w_lald (Ev.cm _) rfl (Nat.le_of_ble_eq_true rfl) rfl (show vp_in (x5 - 1) 13 from vpI 13 (by decide) b8.1 b8.2) ?_
        refine w_goto (Ev.cm _) rfl ?_
        refine w_iload (Ev.cm _) rfl rfl ?_
        refine w_iconst (Ev.cm _) rfl ?_
        refine w_icmp_le (Ev.cm _) rfl (fun c6 => ?_) (fun c6 => ?_)
        · have c6 : x5 ≤ 1 := c6
          rw [if_pos c6] at q
          refine w_lconst (Ev.cm _) rfl ?_
          refine w_ladd (Ev.cm _) rfl ?_
          refine w_iload (Ev.cm _) rfl rfl ?_
          refine w_iconst (Ev.cm _) rfl ?_
          refine w_icmp_le (Ev.cm _) rfl (fun c7 => ?_) (fun c7 => ?_)
          · have c7 : x5 ≤ 2 := c7
            rw [if_pos c7] at q
            refine w_lconst (Ev.cm _) rfl ?_
            refine w_ladd (Ev.cm _) rfl ?_
            obtain ⟨b9, q⟩ := ois q
            refine w_last (Ev.cm _) rfl (Nat.le_of_ble_eq_true rfl) rfl (show vp_in x5 13 from vpI 13 (by decide) b9.1 b9.2) ?_
            refine w_iinc (ls2 := [(0, .ref 331), (1, .int x1), (2, .int x2), (3, .int x3), (4, .int x4), (5, .int (x5 + (-1)))]) (Ev.cm _) rfl rfl rfl ?_
            refine w_goto (Ev.cm _) rfl ?_
            show Wp _ _ _ _ _ _ _ 69 [(0, .ref 331), (1, .int x1), (2, .int x2), (3, .int x3), (4, .int x4), (5, .int (x5 + (-1)))] [] (HS I (sL L 342 x5.toNatClampNeg (((L 342 ((x5 - 1).toNatClampNeg)) + 0) + 0)) X)
            refine Wp.sub [0, 1, 2, 3, 4, 5] (ls2 := [(0, .ref 331), (1, .int x1), (2, .int x2), (3, .int x3), (4, .int x4), (5, .int (x5 + (-1)))]) rfl ?_
            exact ih _ _ _ _ _ _ _ q
          · have c7 : ¬ (x5 ≤ 2) := c7
            rw [if_neg c7] at q
            refine w_aload_n (Ev.cm _) rfl rfl ?_
            refine w_getR (q := 342) (Ev.cm _) rfl (Nat.le_of_ble_eq_true rfl) rfl rfl ?_
            refine w_iload (Ev.cm _) rfl rfl ?_
            refine w_iconst (Ev.cm _) rfl ?_
            refine w_isub (Ev.cm _) rfl ?_
            obtain ⟨b10, q⟩ := ois q
            refine w_lald (Ev.cm _) rfl (Nat.le_of_ble_eq_true rfl) rfl (show vp_in (x5 - 3) 13 from vpI 13 (by decide) b10.1 b10.2) ?_
            refine w_goto (Ev.cm _) rfl ?_
            refine w_ladd (Ev.cm _) rfl ?_
            obtain ⟨b11, q⟩ := ois q
            refine w_last (Ev.cm _) rfl (Nat.le_of_ble_eq_true rfl) rfl (show vp_in x5 13 from vpI 13 (by decide) b11.1 b11.2) ?_
            refine w_iinc (ls2 := [(0, .ref 331), (1, .int x1), (2, .int x2), (3, .int x3), (4, .int x4), (5, .int (x5 + (-1)))]) (Ev.cm _) rfl rfl rfl ?_
            refine w_goto (Ev.cm _) rfl ?_
            show Wp _ _ _ _ _ _ _ 69 [(0, .ref 331), (1, .int x1), (2, .int x2), (3, .int x3), (4, .int x4), (5, .int (x5 + (-1)))] [] (HS I (sL L 342 x5.toNatClampNeg (((L 342 ((x5 - 1).toNatClampNeg)) + 0) + (L 342 ((x5 - 3).toNatClampNeg)))) X)
            refine Wp.sub [0, 1, 2, 3, 4, 5] (ls2 := [(0, .ref 331), (1, .int x1), (2, .int x2), (3, .int x3), (4, .int x4), (5, .int (x5 + (-1)))]) rfl ?_
            exact ih _ _ _ _ _ _ _ q
        · have c6 : ¬ (x5 ≤ 1) := c6
          rw [if_neg c6] at q
          refine w_aload_n (Ev.cm _) rfl rfl ?_
          refine w_getR (q := 342) (Ev.cm _) rfl (Nat.le_of_ble_eq_true rfl) rfl rfl ?_
          refine w_iload (Ev.cm _) rfl rfl ?_
          refine w_iconst (Ev.cm _) rfl ?_
          refine w_isub (Ev.cm _) rfl ?_
          obtain ⟨b12, q⟩ := ois q
          refine w_lald (Ev.cm _) rfl (Nat.le_of_ble_eq_true rfl) rfl (show vp_in (x5 - 2) 13 from vpI 13 (by decide) b12.1 b12.2) ?_
          refine w_goto (Ev.cm _) rfl ?_
          refine w_ladd (Ev.cm _) rfl ?_
          refine w_iload (Ev.cm _) rfl rfl ?_
          refine w_iconst (Ev.cm _) rfl ?_
          refine w_icmp_le (Ev.cm _) rfl (fun c8 => ?_) (fun c8 => ?_)
          · have c8 : x5 ≤ 2 := c8
            rw [if_pos c8] at q
            refine w_lconst (Ev.cm _) rfl ?_
            refine w_ladd (Ev.cm _) rfl ?_
            obtain ⟨b13, q⟩ := ois q
            refine w_last (Ev.cm _) rfl (Nat.le_of_ble_eq_true rfl) rfl (show vp_in x5 13 from vpI 13 (by decide) b13.1 b13.2) ?_
            refine w_iinc (ls2 := [(0, .ref 331), (1, .int x1), (2, .int x2), (3, .int x3), (4, .int x4), (5, .int (x5 + (-1)))]) (Ev.cm _) rfl rfl rfl ?_
            refine w_goto (Ev.cm _) rfl ?_
            show Wp _ _ _ _ _ _ _ 69 [(0, .ref 331), (1, .int x1), (2, .int x2), (3, .int x3), (4, .int x4), (5, .int (x5 + (-1)))] [] (HS I (sL L 342 x5.toNatClampNeg (((L 342 ((x5 - 1).toNatClampNeg)) + (L 342 ((x5 - 2).toNatClampNeg))) + 0)) X)
            refine Wp.sub [0, 1, 2, 3, 4, 5] (ls2 := [(0, .ref 331), (1, .int x1), (2, .int x2), (3, .int x3), (4, .int x4), (5, .int (x5 + (-1)))]) rfl ?_
            exact ih _ _ _ _ _ _ _ q
          · have c8 : ¬ (x5 ≤ 2) := c8
            rw [if_neg c8] at q
            refine w_aload_n (Ev.cm _) rfl rfl ?_
            refine w_getR (q := 342) (Ev.cm _) rfl (Nat.le_of_ble_eq_true rfl) rfl rfl ?_
            refine w_iload (Ev.cm _) rfl rfl ?_
            refine w_iconst (Ev.cm _) rfl ?_
            refine w_isub (Ev.cm _) rfl ?_
            obtain ⟨b14, q⟩ := ois q
            refine w_lald (Ev.cm _) rfl (Nat.le_of_ble_eq_true rfl) rfl (show vp_in (x5 - 3) 13 from vpI 13 (by decide) b14.1 b14.2) ?_
            refine w_goto (Ev.cm _) rfl ?_
            refine w_ladd (Ev.cm _) rfl ?_
            obtain ⟨b15, q⟩ := ois q
            refine w_last (Ev.cm _) rfl (Nat.le_of_ble_eq_true rfl) rfl (show vp_in x5 13 from vpI 13 (by decide) b15.1 b15.2) ?_
            refine w_iinc (ls2 := [(0, .ref 331), (1, .int x1), (2, .int x2), (3, .int x3), (4, .int x4), (5, .int (x5 + (-1)))]) (Ev.cm _) rfl rfl rfl ?_
            refine w_goto (Ev.cm _) rfl ?_
            show Wp _ _ _ _ _ _ _ 69 [(0, .ref 331), (1, .int x1), (2, .int x2), (3, .int x3), (4, .int x4), (5, .int (x5 + (-1)))] [] (HS I (sL L 342 x5.toNatClampNeg (((L 342 ((x5 - 1).toNatClampNeg)) + (L 342 ((x5 - 2).toNatClampNeg))) + (L 342 ((x5 - 3).toNatClampNeg)))) X)
            refine Wp.sub [0, 1, 2, 3, 4, 5] (ls2 := [(0, .ref 331), (1, .int x1), (2, .int x2), (3, .int x3), (4, .int x4), (5, .int (x5 + (-1)))]) rfl ?_
            exact ih _ _ _ _ _ _ _ q
def LO_M_waysBy_59 (fu : Nat) : Nat → Int32 → Int32 → Int32 → Int32 → (Nat → Nat → Int32) → (Nat → Nat → Int64) → Option (Int64 × (Nat → Nat → Int32) × (Nat → Nat → Int64))
  | 0, _, _, _, _, _, _ => none
  | n + 1, x1, x2, x3, x4, I, L => if x3 ≤ x4 then (if 0 ≤ x2 ∧ x2 < 13 then (some (L 342 x2.toNatClampNeg, I, L)) else none) else (LO_M_waysBy_69 fu (fun x1 x2 x3 x4 I L => LO_M_waysBy_59 fu n x1 x2 x3 x4 I L) fu x1 x2 x3 x4 12 I L)
set_option maxHeartbeats 20000000 in
set_option maxRecDepth 20000 in
theorem lo_M_waysBy_59 {d fu n0 s0 : Nat} {X : Nat × (Nat → Int32)} {Q : PQ} {res : Int64 × (Nat → Nat → Int32) × (Nat → Nat → Int64)}  (g : Q (some (.long res.1)) (HS res.2.1 res.2.2 X)) : ∀ (n : Nat) (x1 : Int32) (x2 : Int32) (x3 : Int32) (x4 : Int32) (I : Nat → Nat → Int32) (L : Nat → Nat → Int64), LO_M_waysBy_59 fu n x1 x2 x3 x4 I L = some res → Wp (Ev (d + 3)) cd_M_waysBy (0, 0) (some .long) n0 s0 Q 59 [(0, .ref 331), (1, .int x1), (2, .int x2), (3, .int x3), (4, .int x4)] [] (HS I L X) := by
  intro n
  induction n with
  | zero => intro _ _ _ _ _ _ q; cases q
  | succ n ih =>
    intro x1 x2 x3 x4 I L q
    unfold LO_M_waysBy_59 at q
    refine w_iload (Ev.cm _) rfl rfl ?_
    refine w_iload_n (Ev.cm _) rfl rfl ?_
    refine w_icmp_ge (Ev.cm _) rfl (fun c1 => ?_) (fun c1 => ?_)
    · have c1 : x3 ≤ x4 := c1
      rw [if_pos c1] at q
      refine w_aload_n (Ev.cm _) rfl rfl ?_
      refine w_getR (q := 342) (Ev.cm _) rfl (Nat.le_of_ble_eq_true rfl) rfl rfl ?_
      refine w_iload_n (Ev.cm _) rfl rfl ?_
      obtain ⟨b1, q⟩ := ois q
      refine w_lald (Ev.cm _) rfl (Nat.le_of_ble_eq_true rfl) rfl (show vp_in x2 13 from vpI 13 (by decide) b1.1 b1.2) ?_
      refine w_lreturn (Ev.cm _) rfl rfl rf0 ?_
      cases q
      exact g
    · have c1 : ¬ (x3 ≤ x4) := c1
      rw [if_neg c1] at q
      refine w_bipush (Ev.cm _) rfl ?_
      refine w_istore (ls2 := [(0, .ref 331), (1, .int x1), (2, .int x2), (3, .int x3), (4, .int x4), (5, .int 12)]) (Ev.cm _) rfl rfl ?_
      show Wp _ _ _ _ _ _ _ 69 [(0, .ref 331), (1, .int x1), (2, .int x2), (3, .int x3), (4, .int x4), (5, .int 12)] [] (HS I L X)
      refine Wp.sub [0, 1, 2, 3, 4, 5] (ls2 := [(0, .ref 331), (1, .int x1), (2, .int x2), (3, .int x3), (4, .int x4), (5, .int 12)]) rfl ?_
      exact lo_M_waysBy_69 g (fun x1 x2 x3 x4 I L q => ih x1 x2 x3 x4 I L q) fu _ _ _ _ _ _ _ q
def LO_M_waysBy_25 (fu : Nat) : Nat → Int32 → Int32 → Int32 → Int32 → (Nat → Nat → Int32) → (Nat → Nat → Int64) → Option (Int64 × (Nat → Nat → Int32) × (Nat → Nat → Int64))
  | 0, _, _, _, _, _, _ => none
  | n + 1, x1, x2, x3, x4, I, L => if 12 < x4 then (LO_M_waysBy_59 fu fu x1 x2 x3 0 I L) else (if x4 = x1 then (if 0 ≤ x4 ∧ x4 < 13 then (LO_M_waysBy_25 fu n x1 x2 x3 (x4 + 1) I (sL L 342 x4.toNatClampNeg 1)) else none) else (if 0 ≤ x4 ∧ x4 < 13 then (LO_M_waysBy_25 fu n x1 x2 x3 (x4 + 1) I (sL L 342 x4.toNatClampNeg 0)) else none))
set_option maxHeartbeats 20000000 in
set_option maxRecDepth 20000 in
theorem lo_M_waysBy_25 {d fu n0 s0 : Nat} {X : Nat × (Nat → Int32)} {Q : PQ} {res : Int64 × (Nat → Nat → Int32) × (Nat → Nat → Int64)}  (g : Q (some (.long res.1)) (HS res.2.1 res.2.2 X)) : ∀ (n : Nat) (x1 : Int32) (x2 : Int32) (x3 : Int32) (x4 : Int32) (I : Nat → Nat → Int32) (L : Nat → Nat → Int64), LO_M_waysBy_25 fu n x1 x2 x3 x4 I L = some res → Wp (Ev (d + 3)) cd_M_waysBy (0, 0) (some .long) n0 s0 Q 25 [(0, .ref 331), (1, .int x1), (2, .int x2), (3, .int x3), (4, .int x4)] [] (HS I L X) := by
  intro n
  induction n with
  | zero => intro _ _ _ _ _ _ q; cases q
  | succ n ih =>
    intro x1 x2 x3 x4 I L q
    unfold LO_M_waysBy_25 at q
    refine w_iload (Ev.cm _) rfl rfl ?_
    refine w_bipush (Ev.cm _) rfl ?_
    refine w_icmp_gt (Ev.cm _) rfl (fun c1 => ?_) (fun c1 => ?_)
    · have c1 : 12 < x4 := c1
      rw [if_pos c1] at q
      refine w_iconst (Ev.cm _) rfl ?_
      refine w_istore (ls2 := [(0, .ref 331), (1, .int x1), (2, .int x2), (3, .int x3), (4, .int 0)]) (Ev.cm _) rfl rfl ?_
      show Wp _ _ _ _ _ _ _ 59 [(0, .ref 331), (1, .int x1), (2, .int x2), (3, .int x3), (4, .int 0)] [] (HS I L X)
      refine Wp.sub [0, 1, 2, 3, 4] (ls2 := [(0, .ref 331), (1, .int x1), (2, .int x2), (3, .int x3), (4, .int 0)]) rfl ?_
      exact lo_M_waysBy_59 g fu _ _ _ _ _ _ q
    · have c1 : ¬ (12 < x4) := c1
      rw [if_neg c1] at q
      refine w_aload_n (Ev.cm _) rfl rfl ?_
      refine w_getR (q := 342) (Ev.cm _) rfl (Nat.le_of_ble_eq_true rfl) rfl rfl ?_
      refine w_iload (Ev.cm _) rfl rfl ?_
      refine w_iload (Ev.cm _) rfl rfl ?_
      refine w_iload_n (Ev.cm _) rfl rfl ?_
      refine w_icmp_ne (Ev.cm _) rfl (fun c2 => ?_) (fun c2 => ?_)
      · have c2 : ¬ (x4 = x1) := c2
        rw [if_neg c2] at q
        refine w_lconst (Ev.cm _) rfl ?_
        obtain ⟨b1, q⟩ := ois q
        refine w_last (Ev.cm _) rfl (Nat.le_of_ble_eq_true rfl) rfl (show vp_in x4 13 from vpI 13 (by decide) b1.1 b1.2) ?_
        refine w_iinc (ls2 := [(0, .ref 331), (1, .int x1), (2, .int x2), (3, .int x3), (4, .int (x4 + 1))]) (Ev.cm _) rfl rfl rfl ?_
        refine w_goto (Ev.cm _) rfl ?_
        show Wp _ _ _ _ _ _ _ 25 [(0, .ref 331), (1, .int x1), (2, .int x2), (3, .int x3), (4, .int (x4 + 1))] [] (HS I (sL L 342 x4.toNatClampNeg 0) X)
        refine Wp.sub [0, 1, 2, 3, 4] (ls2 := [(0, .ref 331), (1, .int x1), (2, .int x2), (3, .int x3), (4, .int (x4 + 1))]) rfl ?_
        exact ih _ _ _ _ _ _ q
      · have c2 : x4 = x1 := c2
        rw [if_pos c2] at q
        refine w_lconst (Ev.cm _) rfl ?_
        refine w_goto (Ev.cm _) rfl ?_
        obtain ⟨b2, q⟩ := ois q
        refine w_last (Ev.cm _) rfl (Nat.le_of_ble_eq_true rfl) rfl (show vp_in x4 13 from vpI 13 (by decide) b2.1 b2.2) ?_
        refine w_iinc (ls2 := [(0, .ref 331), (1, .int x1), (2, .int x2), (3, .int x3), (4, .int (x4 + 1))]) (Ev.cm _) rfl rfl rfl ?_
        refine w_goto (Ev.cm _) rfl ?_
        show Wp _ _ _ _ _ _ _ 25 [(0, .ref 331), (1, .int x1), (2, .int x2), (3, .int x3), (4, .int (x4 + 1))] [] (HS I (sL L 342 x4.toNatClampNeg 1) X)
        refine Wp.sub [0, 1, 2, 3, 4] (ls2 := [(0, .ref 331), (1, .int x1), (2, .int x2), (3, .int x3), (4, .int (x4 + 1))]) rfl ?_
        exact ih _ _ _ _ _ _ q
def FO_M_waysBy (fu : Nat) (p0 : Int32) (p1 : Int32) (p2 : Int32) (I : Nat → Nat → Int32) (L : Nat → Nat → Int64) : Option (Int64 × (Nat → Nat → Int32) × (Nat → Nat → Int64)) := (FO_M_isUp fu p0 p1 I L).bind (fun u1 => let r1 := u1.1; let I1 := u1.2.1; let L1 := u1.2.2; if r1 = 0 then (some ((-1), I1, L1)) else (if (0 : Int32) ≤ p2 ∧ p2 ≤ (12 : Int32) then (LO_M_waysBy_25 fu fu p0 p1 p2 0 I1 L1) else (some ((-1), I1, L1))))
set_option maxHeartbeats 20000000 in
set_option maxRecDepth 20000 in
theorem eo_M_waysBy {d fu : Nat} {p0 : Int32} {p1 : Int32} {p2 : Int32} {I : Nat → Nat → Int32} {L : Nat → Nat → Int64} {X : Nat × (Nat → Int32)} {Q : PQ} {res : Int64 × (Nat → Nat → Int32) × (Nat → Nat → Int64)}  (g : Q (some (.long res.1)) (HS res.2.1 res.2.2 X)) (q : FO_M_waysBy fu p0 p1 p2 I L = some res) : Ev (d + 4) m_M_waysBy [.ref 331, .int p0, .int p1, .int p2] (HS I L X) Q := by
  unfold FO_M_waysBy at q
  refine ev_start (d := d + 3) rfl rfl rfl (Nat.le_of_ble_eq_true rfl) ?_
  show Wp (Ev (d + 3)) cd_M_waysBy (0, 0) (some .long) _ _ Q 0 [(0, .ref 331), (1, .int p0), (2, .int p1), (3, .int p2)] [] (HS I L X)
  refine w_iload_n (Ev.cm _) rfl rfl ?_
  refine w_iload_n (Ev.cm _) rfl rfl ?_
  obtain ⟨⟨r1, I1, L1⟩, e1, q⟩ := obs q
  dsimp only at q
  refine w_cstat (as := [.int p0, .int p1]) (st := []) (Ev.cm _) rfl rfl rfl (Nat.le_of_ble_eq_true rfl) (Nat.le_of_ble_eq_true rfl) (eo_M_isUp (g := ?_) e1)
  show Wp _ _ _ _ _ _ _ 5 [(0, .ref 331), (1, .int p0), (2, .int p1), (3, .int p2)] [.int r1] (HS I1 L1 X)
  refine w_if_eq (Ev.cm _) rfl (fun c1 => ?_) (fun c1 => ?_)
  · have c1 : r1 = 0 := c1
    rw [if_pos c1] at q
    refine w_ldc2_w (Ev.cm _) rfl ?_
    refine w_lreturn (Ev.cm _) rfl rfl rf0 ?_
    cases q
    exact g
  · have c1 : ¬ (r1 = 0) := c1
    rw [if_neg c1] at q
    refine w_iload_n (Ev.cm _) rfl rfl ?_
    refine w_iconst (Ev.cm _) rfl ?_
    refine w_bipush (Ev.cm _) rfl ?_
    refine w_cstat (as := [.int p2, .int 0, .int 12]) (st := []) (Ev.cm _) rfl rfl rfl (Nat.le_of_ble_eq_true rfl) (Nat.le_of_ble_eq_true rfl) (m_isIn ?_)
    show Wp _ _ _ _ _ _ _ 15 [(0, .ref 331), (1, .int p0), (2, .int p1), (3, .int p2)] [.int (bI ((0 : Int32) ≤ p2 ∧ p2 ≤ (12 : Int32)))] (HS I1 L1 X)
    refine w_if_ne (Ev.cm _) rfl (fun c2 => ?_) (fun c2 => ?_)
    · have c2 : (0 : Int32) ≤ p2 ∧ p2 ≤ (12 : Int32) := bI_1.mp c2
      rw [if_pos c2] at q
      refine w_iconst (Ev.cm _) rfl ?_
      refine w_istore (ls2 := [(0, .ref 331), (1, .int p0), (2, .int p1), (3, .int p2), (4, .int 0)]) (Ev.cm _) rfl rfl ?_
      show Wp _ _ _ _ _ _ _ 25 [(0, .ref 331), (1, .int p0), (2, .int p1), (3, .int p2), (4, .int 0)] [] (HS I1 L1 X)
      refine Wp.sub [0, 1, 2, 3, 4] (ls2 := [(0, .ref 331), (1, .int p0), (2, .int p1), (3, .int p2), (4, .int 0)]) rfl ?_
      exact lo_M_waysBy_25 g fu _ _ _ _ _ _ q
    · have c2 : ¬ ((0 : Int32) ≤ p2 ∧ p2 ≤ (12 : Int32)) := bI_0.mp c2
      rw [if_neg c2] at q
      refine w_ldc2_w (Ev.cm _) rfl ?_
      refine w_lreturn (Ev.cm _) rfl rfl rf0 ?_
      cases q
      exact g
def LO_M_loudest_27 (fu : Nat) (k_17 : Int32 → Int32 → Int32 → Int32 → (Nat → Nat → Int32) → (Nat → Nat → Int64) → Option (Int32 × (Nat → Nat → Int32) × (Nat → Nat → Int64))) : Nat → Int32 → Int32 → Int32 → Int32 → Int32 → (Nat → Nat → Int32) → (Nat → Nat → Int64) → Option (Int32 × (Nat → Nat → Int32) × (Nat → Nat → Int64))
  | 0, _, _, _, _, _, _, _ => none
  | n + 1, x1, x2, x3, x4, x5, I, L => if 2 ≤ x5 then (k_17 x1 x2 x3 (x4 + 1) I L) else (if x5 = 1 then ((FO_M_heardAt fu x1 x4 1 I L).bind (fun u2 => let r2 := u2.1; let I2 := u2.2.1; let L2 := u2.2.2; if x3 < r2 then (LO_M_loudest_27 fu k_17 n x1 x4 r2 x4 (x5 + 1) I2 L2) else (LO_M_loudest_27 fu k_17 n x1 x2 x3 x4 (x5 + 1) I2 L2))) else ((FO_M_heardAt fu x1 x4 0 I L).bind (fun u1 => let r1 := u1.1; let I1 := u1.2.1; let L1 := u1.2.2; if x3 < r1 then (LO_M_loudest_27 fu k_17 n x1 x4 r1 x4 (x5 + 1) I1 L1) else (LO_M_loudest_27 fu k_17 n x1 x2 x3 x4 (x5 + 1) I1 L1))))
set_option maxHeartbeats 20000000 in
set_option maxRecDepth 20000 in
theorem lo_M_loudest_27 {d fu n0 s0 : Nat} {X : Nat × (Nat → Int32)} {Q : PQ} {k_17 : Int32 → Int32 → Int32 → Int32 → (Nat → Nat → Int32) → (Nat → Nat → Int64) → Option (Int32 × (Nat → Nat → Int32) × (Nat → Nat → Int64))} {res : Int32 × (Nat → Nat → Int32) × (Nat → Nat → Int64)}  (g : Q (some (.int res.1)) (HS res.2.1 res.2.2 X)) (hk_17 : ∀ (x1 : Int32) (x2 : Int32) (x3 : Int32) (x4 : Int32) (I : Nat → Nat → Int32) (L : Nat → Nat → Int64), k_17 x1 x2 x3 x4 I L = some res → Wp (Ev (d + 8)) cd_M_loudest (0, 0) (some .int) n0 s0 Q 17 [(0, .ref 331), (1, .int x1), (2, .int x2), (3, .int x3), (4, .int x4)] [] (HS I L X)) : ∀ (n : Nat) (x1 : Int32) (x2 : Int32) (x3 : Int32) (x4 : Int32) (x5 : Int32) (I : Nat → Nat → Int32) (L : Nat → Nat → Int64), LO_M_loudest_27 fu k_17 n x1 x2 x3 x4 x5 I L = some res → Wp (Ev (d + 8)) cd_M_loudest (0, 0) (some .int) n0 s0 Q 27 [(0, .ref 331), (1, .int x1), (2, .int x2), (3, .int x3), (4, .int x4), (5, .int x5)] [] (HS I L X) := by
  intro n
  induction n with
  | zero => intro _ _ _ _ _ _ _ q; cases q
  | succ n ih =>
    intro x1 x2 x3 x4 x5 I L q
    unfold LO_M_loudest_27 at q
    refine w_iload (Ev.cm _) rfl rfl ?_
    refine w_iconst (Ev.cm _) rfl ?_
    refine w_icmp_ge (Ev.cm _) rfl (fun c1 => ?_) (fun c1 => ?_)
    · have c1 : 2 ≤ x5 := c1
      rw [if_pos c1] at q
      refine w_iinc (ls2 := [(0, .ref 331), (1, .int x1), (2, .int x2), (3, .int x3), (4, .int (x4 + 1)), (5, .int x5)]) (Ev.cm _) rfl rfl rfl ?_
      refine w_goto (Ev.cm _) rfl ?_
      show Wp _ _ _ _ _ _ _ 17 [(0, .ref 331), (1, .int x1), (2, .int x2), (3, .int x3), (4, .int (x4 + 1)), (5, .int x5)] [] (HS I L X)
      refine Wp.sub [0, 1, 2, 3, 4] (ls2 := [(0, .ref 331), (1, .int x1), (2, .int x2), (3, .int x3), (4, .int (x4 + 1))]) rfl ?_
      exact hk_17 _ _ _ _ _ _ q
    · have c1 : ¬ (2 ≤ x5) := c1
      rw [if_neg c1] at q
      refine w_aload_n (Ev.cm _) rfl rfl ?_
      refine w_iload_n (Ev.cm _) rfl rfl ?_
      refine w_iload (Ev.cm _) rfl rfl ?_
      refine w_iload (Ev.cm _) rfl rfl ?_
      refine w_iconst (Ev.cm _) rfl ?_
      refine w_icmp_ne (Ev.cm _) rfl (fun c2 => ?_) (fun c2 => ?_)
      · have c2 : ¬ (x5 = 1) := c2
        rw [if_neg c2] at q
        refine w_iconst (Ev.cm _) rfl ?_
        obtain ⟨⟨r1, I1, L1⟩, e1, q⟩ := obs q
        dsimp only at q
        refine w_cvirt (o := 331) (as := [.int x1, .int x4, .int 0]) (st := []) (Ev.cm _) rfl rfl rfl (Nat.le_of_ble_eq_true rfl) (Nat.le_of_ble_eq_true rfl) rfl (Nat.le_of_ble_eq_true rfl) (eo_M_heardAt (g := ?_) e1)
        show Wp _ _ _ _ _ _ _ 51 [(0, .ref 331), (1, .int x1), (2, .int x2), (3, .int x3), (4, .int x4), (5, .int x5)] [.int r1] (HS I1 L1 X)
        refine w_istore (ls2 := [(0, .ref 331), (1, .int x1), (2, .int x2), (3, .int x3), (4, .int x4), (5, .int x5), (6, .int r1)]) (Ev.cm _) rfl rfl ?_
        refine w_iload (Ev.cm _) rfl rfl ?_
        refine w_iload_n (Ev.cm _) rfl rfl ?_
        refine w_icmp_gt (Ev.cm _) rfl (fun c3 => ?_) (fun c3 => ?_)
        · have c3 : x3 < r1 := c3
          rw [if_pos c3] at q
          refine w_iload (Ev.cm _) rfl rfl ?_
          refine w_istore_n (ls2 := [(0, .ref 331), (1, .int x1), (2, .int x2), (3, .int r1), (4, .int x4), (5, .int x5), (6, .int r1)]) (Ev.cm _) rfl rfl ?_
          refine w_iload (Ev.cm _) rfl rfl ?_
          refine w_istore_n (ls2 := [(0, .ref 331), (1, .int x1), (2, .int x4), (3, .int r1), (4, .int x4), (5, .int x5), (6, .int r1)]) (Ev.cm _) rfl rfl ?_
          refine w_iinc (ls2 := [(0, .ref 331), (1, .int x1), (2, .int x4), (3, .int r1), (4, .int x4), (5, .int (x5 + 1)), (6, .int r1)]) (Ev.cm _) rfl rfl rfl ?_
          refine w_goto (Ev.cm _) rfl ?_
          show Wp _ _ _ _ _ _ _ 27 [(0, .ref 331), (1, .int x1), (2, .int x4), (3, .int r1), (4, .int x4), (5, .int (x5 + 1)), (6, .int r1)] [] (HS I1 L1 X)
          refine Wp.sub [0, 1, 2, 3, 4, 5] (ls2 := [(0, .ref 331), (1, .int x1), (2, .int x4), (3, .int r1), (4, .int x4), (5, .int (x5 + 1))]) rfl ?_
          exact ih _ _ _ _ _ _ _ q
        · have c3 : ¬ (x3 < r1) := c3
          rw [if_neg c3] at q
          refine w_goto (Ev.cm _) rfl ?_
          refine w_iinc (ls2 := [(0, .ref 331), (1, .int x1), (2, .int x2), (3, .int x3), (4, .int x4), (5, .int (x5 + 1)), (6, .int r1)]) (Ev.cm _) rfl rfl rfl ?_
          refine w_goto (Ev.cm _) rfl ?_
          show Wp _ _ _ _ _ _ _ 27 [(0, .ref 331), (1, .int x1), (2, .int x2), (3, .int x3), (4, .int x4), (5, .int (x5 + 1)), (6, .int r1)] [] (HS I1 L1 X)
          refine Wp.sub [0, 1, 2, 3, 4, 5] (ls2 := [(0, .ref 331), (1, .int x1), (2, .int x2), (3, .int x3), (4, .int x4), (5, .int (x5 + 1))]) rfl ?_
          exact ih _ _ _ _ _ _ _ q
      · have c2 : x5 = 1 := c2
        rw [if_pos c2] at q
        refine w_iconst (Ev.cm _) rfl ?_
        refine w_goto (Ev.cm _) rfl ?_
        obtain ⟨⟨r2, I2, L2⟩, e2, q⟩ := obs q
        dsimp only at q
        refine w_cvirt (o := 331) (as := [.int x1, .int x4, .int 1]) (st := []) (Ev.cm _) rfl rfl rfl (Nat.le_of_ble_eq_true rfl) (Nat.le_of_ble_eq_true rfl) rfl (Nat.le_of_ble_eq_true rfl) (eo_M_heardAt (g := ?_) e2)
        show Wp _ _ _ _ _ _ _ 51 [(0, .ref 331), (1, .int x1), (2, .int x2), (3, .int x3), (4, .int x4), (5, .int x5)] [.int r2] (HS I2 L2 X)
        refine w_istore (ls2 := [(0, .ref 331), (1, .int x1), (2, .int x2), (3, .int x3), (4, .int x4), (5, .int x5), (6, .int r2)]) (Ev.cm _) rfl rfl ?_
        refine w_iload (Ev.cm _) rfl rfl ?_
        refine w_iload_n (Ev.cm _) rfl rfl ?_
        refine w_icmp_gt (Ev.cm _) rfl (fun c4 => ?_) (fun c4 => ?_)
        · have c4 : x3 < r2 := c4
          rw [if_pos c4] at q
          refine w_iload (Ev.cm _) rfl rfl ?_
          refine w_istore_n (ls2 := [(0, .ref 331), (1, .int x1), (2, .int x2), (3, .int r2), (4, .int x4), (5, .int x5), (6, .int r2)]) (Ev.cm _) rfl rfl ?_
          refine w_iload (Ev.cm _) rfl rfl ?_
          refine w_istore_n (ls2 := [(0, .ref 331), (1, .int x1), (2, .int x4), (3, .int r2), (4, .int x4), (5, .int x5), (6, .int r2)]) (Ev.cm _) rfl rfl ?_
          refine w_iinc (ls2 := [(0, .ref 331), (1, .int x1), (2, .int x4), (3, .int r2), (4, .int x4), (5, .int (x5 + 1)), (6, .int r2)]) (Ev.cm _) rfl rfl rfl ?_
          refine w_goto (Ev.cm _) rfl ?_
          show Wp _ _ _ _ _ _ _ 27 [(0, .ref 331), (1, .int x1), (2, .int x4), (3, .int r2), (4, .int x4), (5, .int (x5 + 1)), (6, .int r2)] [] (HS I2 L2 X)
          refine Wp.sub [0, 1, 2, 3, 4, 5] (ls2 := [(0, .ref 331), (1, .int x1), (2, .int x4), (3, .int r2), (4, .int x4), (5, .int (x5 + 1))]) rfl ?_
          exact ih _ _ _ _ _ _ _ q
        · have c4 : ¬ (x3 < r2) := c4
          rw [if_neg c4] at q
          refine w_goto (Ev.cm _) rfl ?_
          refine w_iinc (ls2 := [(0, .ref 331), (1, .int x1), (2, .int x2), (3, .int x3), (4, .int x4), (5, .int (x5 + 1)), (6, .int r2)]) (Ev.cm _) rfl rfl rfl ?_
          refine w_goto (Ev.cm _) rfl ?_
          show Wp _ _ _ _ _ _ _ 27 [(0, .ref 331), (1, .int x1), (2, .int x2), (3, .int x3), (4, .int x4), (5, .int (x5 + 1)), (6, .int r2)] [] (HS I2 L2 X)
          refine Wp.sub [0, 1, 2, 3, 4, 5] (ls2 := [(0, .ref 331), (1, .int x1), (2, .int x2), (3, .int x3), (4, .int x4), (5, .int (x5 + 1))]) rfl ?_
          exact ih _ _ _ _ _ _ _ q
def LO_M_loudest_17 (fu : Nat) : Nat → Int32 → Int32 → Int32 → Int32 → (Nat → Nat → Int32) → (Nat → Nat → Int64) → Option (Int32 × (Nat → Nat → Int32) × (Nat → Nat → Int64))
  | 0, _, _, _, _, _, _ => none
  | n + 1, x1, x2, x3, x4, I, L => if 12 < x4 then (some (x2, I, L)) else (LO_M_loudest_27 fu (fun x1 x2 x3 x4 I L => LO_M_loudest_17 fu n x1 x2 x3 x4 I L) fu x1 x2 x3 x4 0 I L)
set_option maxHeartbeats 20000000 in
set_option maxRecDepth 20000 in
theorem lo_M_loudest_17 {d fu n0 s0 : Nat} {X : Nat × (Nat → Int32)} {Q : PQ} {res : Int32 × (Nat → Nat → Int32) × (Nat → Nat → Int64)}  (g : Q (some (.int res.1)) (HS res.2.1 res.2.2 X)) : ∀ (n : Nat) (x1 : Int32) (x2 : Int32) (x3 : Int32) (x4 : Int32) (I : Nat → Nat → Int32) (L : Nat → Nat → Int64), LO_M_loudest_17 fu n x1 x2 x3 x4 I L = some res → Wp (Ev (d + 8)) cd_M_loudest (0, 0) (some .int) n0 s0 Q 17 [(0, .ref 331), (1, .int x1), (2, .int x2), (3, .int x3), (4, .int x4)] [] (HS I L X) := by
  intro n
  induction n with
  | zero => intro _ _ _ _ _ _ q; cases q
  | succ n ih =>
    intro x1 x2 x3 x4 I L q
    unfold LO_M_loudest_17 at q
    refine w_iload (Ev.cm _) rfl rfl ?_
    refine w_bipush (Ev.cm _) rfl ?_
    refine w_icmp_gt (Ev.cm _) rfl (fun c1 => ?_) (fun c1 => ?_)
    · have c1 : 12 < x4 := c1
      rw [if_pos c1] at q
      refine w_iload_n (Ev.cm _) rfl rfl ?_
      refine w_ireturn (Ev.cm _) rfl trivial rf0 ?_
      cases q
      exact g
    · have c1 : ¬ (12 < x4) := c1
      rw [if_neg c1] at q
      refine w_iconst (Ev.cm _) rfl ?_
      refine w_istore (ls2 := [(0, .ref 331), (1, .int x1), (2, .int x2), (3, .int x3), (4, .int x4), (5, .int 0)]) (Ev.cm _) rfl rfl ?_
      show Wp _ _ _ _ _ _ _ 27 [(0, .ref 331), (1, .int x1), (2, .int x2), (3, .int x3), (4, .int x4), (5, .int 0)] [] (HS I L X)
      refine Wp.sub [0, 1, 2, 3, 4, 5] (ls2 := [(0, .ref 331), (1, .int x1), (2, .int x2), (3, .int x3), (4, .int x4), (5, .int 0)]) rfl ?_
      exact lo_M_loudest_27 g (fun x1 x2 x3 x4 I L q => ih x1 x2 x3 x4 I L q) fu _ _ _ _ _ _ _ q
def FO_M_loudest (fu : Nat) (p0 : Int32) (I : Nat → Nat → Int32) (L : Nat → Nat → Int64) : Option (Int32 × (Nat → Nat → Int32) × (Nat → Nat → Int64)) := if F_M_isLodger I p0 = 0 then (some ((-1), I, L)) else (LO_M_loudest_17 fu fu p0 (-1) 0 1 I L)
set_option maxHeartbeats 20000000 in
set_option maxRecDepth 20000 in
theorem eo_M_loudest {d fu : Nat} {p0 : Int32} {I : Nat → Nat → Int32} {L : Nat → Nat → Int64} {X : Nat × (Nat → Int32)} {Q : PQ} {res : Int32 × (Nat → Nat → Int32) × (Nat → Nat → Int64)}  (g : Q (some (.int res.1)) (HS res.2.1 res.2.2 X)) (q : FO_M_loudest fu p0 I L = some res) : Ev (d + 9) m_M_loudest [.ref 331, .int p0] (HS I L X) Q := by
  unfold FO_M_loudest at q
  refine ev_start (d := d + 8) rfl rfl rfl (Nat.le_of_ble_eq_true rfl) ?_
  show Wp (Ev (d + 8)) cd_M_loudest (0, 0) (some .int) _ _ Q 0 [(0, .ref 331), (1, .int p0)] [] (HS I L X)
  refine w_aload_n (Ev.cm _) rfl rfl ?_
  refine w_iload_n (Ev.cm _) rfl rfl ?_
  refine w_cvirt (o := 331) (as := [.int p0]) (st := []) (Ev.cm _) rfl rfl rfl (Nat.le_of_ble_eq_true rfl) (Nat.le_of_ble_eq_true rfl) rfl (Nat.le_of_ble_eq_true rfl) (e_M_isLodger ?_)
  show Wp _ _ _ _ _ _ _ 5 [(0, .ref 331), (1, .int p0)] [.int (F_M_isLodger I p0)] (HS I L X)
  refine w_if_ne (Ev.cm _) rfl (fun c1 => ?_) (fun c1 => ?_)
  · have c1 : ¬ (F_M_isLodger I p0 = 0) := c1
    rw [if_neg c1] at q
    refine w_iconst (Ev.cm _) rfl ?_
    refine w_istore_n (ls2 := [(0, .ref 331), (1, .int p0), (2, .int (-1))]) (Ev.cm _) rfl rfl ?_
    refine w_iconst (Ev.cm _) rfl ?_
    refine w_istore_n (ls2 := [(0, .ref 331), (1, .int p0), (2, .int (-1)), (3, .int 0)]) (Ev.cm _) rfl rfl ?_
    refine w_iconst (Ev.cm _) rfl ?_
    refine w_istore (ls2 := [(0, .ref 331), (1, .int p0), (2, .int (-1)), (3, .int 0), (4, .int 1)]) (Ev.cm _) rfl rfl ?_
    show Wp _ _ _ _ _ _ _ 17 [(0, .ref 331), (1, .int p0), (2, .int (-1)), (3, .int 0), (4, .int 1)] [] (HS I L X)
    refine Wp.sub [0, 1, 2, 3, 4] (ls2 := [(0, .ref 331), (1, .int p0), (2, .int (-1)), (3, .int 0), (4, .int 1)]) rfl ?_
    exact lo_M_loudest_17 g fu _ _ _ _ _ _ q
  · have c1 : F_M_isLodger I p0 = 0 := c1
    rw [if_pos c1] at q
    refine w_iconst (Ev.cm _) rfl ?_
    refine w_ireturn (Ev.cm _) rfl trivial rf0 ?_
    cases q
    exact g
def LO_M_heardOn_15 (fu : Nat) : Nat → Int32 → Int32 → Int32 → Int32 → (Nat → Nat → Int32) → (Nat → Nat → Int64) → Option (Int32 × (Nat → Nat → Int32) × (Nat → Nat → Int64))
  | 0, _, _, _, _, _, _ => none
  | n + 1, x1, x2, x3, x4, I, L => if 12 < x4 then (some (x3, I, L)) else ((FO_M_heardAt fu x1 x4 x2 I L).bind (fun u1 => let r1 := u1.1; let I1 := u1.2.1; let L1 := u1.2.2; if r1 ≤ 0 then (LO_M_heardOn_15 fu n x1 x2 (x3 ||| 0) (x4 + 1) I1 L1) else (LO_M_heardOn_15 fu n x1 x2 (x3 ||| ((1 : Int32) <<< (x4 &&& 31))) (x4 + 1) I1 L1)))
set_option maxHeartbeats 20000000 in
set_option maxRecDepth 20000 in
theorem lo_M_heardOn_15 {d fu n0 s0 : Nat} {X : Nat × (Nat → Int32)} {Q : PQ} {res : Int32 × (Nat → Nat → Int32) × (Nat → Nat → Int64)}  (g : Q (some (.int res.1)) (HS res.2.1 res.2.2 X)) : ∀ (n : Nat) (x1 : Int32) (x2 : Int32) (x3 : Int32) (x4 : Int32) (I : Nat → Nat → Int32) (L : Nat → Nat → Int64), LO_M_heardOn_15 fu n x1 x2 x3 x4 I L = some res → Wp (Ev (d + 8)) cd_M_heardOn (0, 0) (some .int) n0 s0 Q 15 [(0, .ref 331), (1, .int x1), (2, .int x2), (3, .int x3), (4, .int x4)] [] (HS I L X) := by
  intro n
  induction n with
  | zero => intro _ _ _ _ _ _ q; cases q
  | succ n ih =>
    intro x1 x2 x3 x4 I L q
    unfold LO_M_heardOn_15 at q
    refine w_iload (Ev.cm _) rfl rfl ?_
    refine w_bipush (Ev.cm _) rfl ?_
    refine w_icmp_gt (Ev.cm _) rfl (fun c1 => ?_) (fun c1 => ?_)
    · have c1 : 12 < x4 := c1
      rw [if_pos c1] at q
      refine w_iload_n (Ev.cm _) rfl rfl ?_
      refine w_ireturn (Ev.cm _) rfl trivial rf0 ?_
      cases q
      exact g
    · have c1 : ¬ (12 < x4) := c1
      rw [if_neg c1] at q
      refine w_iload_n (Ev.cm _) rfl rfl ?_
      refine w_aload_n (Ev.cm _) rfl rfl ?_
      refine w_iload_n (Ev.cm _) rfl rfl ?_
      refine w_iload (Ev.cm _) rfl rfl ?_
      refine w_iload_n (Ev.cm _) rfl rfl ?_
      obtain ⟨⟨r1, I1, L1⟩, e1, q⟩ := obs q
      dsimp only at q
      refine w_cvirt (o := 331) (as := [.int x1, .int x4, .int x2]) (st := [.int x3]) (Ev.cm _) rfl rfl rfl (Nat.le_of_ble_eq_true rfl) (Nat.le_of_ble_eq_true rfl) rfl (Nat.le_of_ble_eq_true rfl) (eo_M_heardAt (g := ?_) e1)
      show Wp _ _ _ _ _ _ _ 31 [(0, .ref 331), (1, .int x1), (2, .int x2), (3, .int x3), (4, .int x4)] [.int r1, .int x3] (HS I1 L1 X)
      refine w_if_le (Ev.cm _) rfl (fun c2 => ?_) (fun c2 => ?_)
      · have c2 : r1 ≤ 0 := c2
        rw [if_pos c2] at q
        refine w_iconst (Ev.cm _) rfl ?_
        refine w_ior (Ev.cm _) rfl ?_
        refine w_istore_n (ls2 := [(0, .ref 331), (1, .int x1), (2, .int x2), (3, .int (x3 ||| 0)), (4, .int x4)]) (Ev.cm _) rfl rfl ?_
        refine w_iinc (ls2 := [(0, .ref 331), (1, .int x1), (2, .int x2), (3, .int (x3 ||| 0)), (4, .int (x4 + 1))]) (Ev.cm _) rfl rfl rfl ?_
        refine w_goto (Ev.cm _) rfl ?_
        show Wp _ _ _ _ _ _ _ 15 [(0, .ref 331), (1, .int x1), (2, .int x2), (3, .int (x3 ||| 0)), (4, .int (x4 + 1))] [] (HS I1 L1 X)
        refine Wp.sub [0, 1, 2, 3, 4] (ls2 := [(0, .ref 331), (1, .int x1), (2, .int x2), (3, .int (x3 ||| 0)), (4, .int (x4 + 1))]) rfl ?_
        exact ih _ _ _ _ _ _ q
      · have c2 : ¬ (r1 ≤ 0) := c2
        rw [if_neg c2] at q
        refine w_iconst (Ev.cm _) rfl ?_
        refine w_iload (Ev.cm _) rfl rfl ?_
        refine w_ishl (Ev.cm _) rfl ?_
        refine w_goto (Ev.cm _) rfl ?_
        refine w_ior (Ev.cm _) rfl ?_
        refine w_istore_n (ls2 := [(0, .ref 331), (1, .int x1), (2, .int x2), (3, .int (x3 ||| ((1 : Int32) <<< (x4 &&& 31)))), (4, .int x4)]) (Ev.cm _) rfl rfl ?_
        refine w_iinc (ls2 := [(0, .ref 331), (1, .int x1), (2, .int x2), (3, .int (x3 ||| ((1 : Int32) <<< (x4 &&& 31)))), (4, .int (x4 + 1))]) (Ev.cm _) rfl rfl rfl ?_
        refine w_goto (Ev.cm _) rfl ?_
        show Wp _ _ _ _ _ _ _ 15 [(0, .ref 331), (1, .int x1), (2, .int x2), (3, .int (x3 ||| ((1 : Int32) <<< (x4 &&& 31)))), (4, .int (x4 + 1))] [] (HS I1 L1 X)
        refine Wp.sub [0, 1, 2, 3, 4] (ls2 := [(0, .ref 331), (1, .int x1), (2, .int x2), (3, .int (x3 ||| ((1 : Int32) <<< (x4 &&& 31)))), (4, .int (x4 + 1))]) rfl ?_
        exact ih _ _ _ _ _ _ q
def FO_M_heardOn (fu : Nat) (p0 : Int32) (p1 : Int32) (I : Nat → Nat → Int32) (L : Nat → Nat → Int64) : Option (Int32 × (Nat → Nat → Int32) × (Nat → Nat → Int64)) := if F_M_isLodger I p0 = 0 then (some ((-1), I, L)) else (LO_M_heardOn_15 fu fu p0 p1 0 1 I L)
set_option maxHeartbeats 20000000 in
set_option maxRecDepth 20000 in
theorem eo_M_heardOn {d fu : Nat} {p0 : Int32} {p1 : Int32} {I : Nat → Nat → Int32} {L : Nat → Nat → Int64} {X : Nat × (Nat → Int32)} {Q : PQ} {res : Int32 × (Nat → Nat → Int32) × (Nat → Nat → Int64)}  (g : Q (some (.int res.1)) (HS res.2.1 res.2.2 X)) (q : FO_M_heardOn fu p0 p1 I L = some res) : Ev (d + 9) m_M_heardOn [.ref 331, .int p0, .int p1] (HS I L X) Q := by
  unfold FO_M_heardOn at q
  refine ev_start (d := d + 8) rfl rfl rfl (Nat.le_of_ble_eq_true rfl) ?_
  show Wp (Ev (d + 8)) cd_M_heardOn (0, 0) (some .int) _ _ Q 0 [(0, .ref 331), (1, .int p0), (2, .int p1)] [] (HS I L X)
  refine w_aload_n (Ev.cm _) rfl rfl ?_
  refine w_iload_n (Ev.cm _) rfl rfl ?_
  refine w_cvirt (o := 331) (as := [.int p0]) (st := []) (Ev.cm _) rfl rfl rfl (Nat.le_of_ble_eq_true rfl) (Nat.le_of_ble_eq_true rfl) rfl (Nat.le_of_ble_eq_true rfl) (e_M_isLodger ?_)
  show Wp _ _ _ _ _ _ _ 5 [(0, .ref 331), (1, .int p0), (2, .int p1)] [.int (F_M_isLodger I p0)] (HS I L X)
  refine w_if_ne (Ev.cm _) rfl (fun c1 => ?_) (fun c1 => ?_)
  · have c1 : ¬ (F_M_isLodger I p0 = 0) := c1
    rw [if_neg c1] at q
    refine w_iconst (Ev.cm _) rfl ?_
    refine w_istore_n (ls2 := [(0, .ref 331), (1, .int p0), (2, .int p1), (3, .int 0)]) (Ev.cm _) rfl rfl ?_
    refine w_iconst (Ev.cm _) rfl ?_
    refine w_istore (ls2 := [(0, .ref 331), (1, .int p0), (2, .int p1), (3, .int 0), (4, .int 1)]) (Ev.cm _) rfl rfl ?_
    show Wp _ _ _ _ _ _ _ 15 [(0, .ref 331), (1, .int p0), (2, .int p1), (3, .int 0), (4, .int 1)] [] (HS I L X)
    refine Wp.sub [0, 1, 2, 3, 4] (ls2 := [(0, .ref 331), (1, .int p0), (2, .int p1), (3, .int 0), (4, .int 1)]) rfl ?_
    exact lo_M_heardOn_15 g fu _ _ _ _ _ _ q
  · have c1 : F_M_isLodger I p0 = 0 := c1
    rw [if_pos c1] at q
    refine w_iconst (Ev.cm _) rfl ?_
    refine w_ireturn (Ev.cm _) rfl trivial rf0 ?_
    cases q
    exact g
def LO_M_cupRow_6 (fu : Nat) : Nat → Int32 → Int32 → Int32 → (Nat → Nat → Int32) → (Nat → Nat → Int64) → Option (Int32 × (Nat → Nat → Int32) × (Nat → Nat → Int64))
  | 0, _, _, _, _, _ => none
  | n + 1, x1, x2, x3, I, L => if 12 < x3 then (some (x1, I, L)) else ((FO_M_hasCup fu x3 I L).bind (fun u1 => let r1 := u1.1; let I1 := u1.2.1; let L1 := u1.2.2; if r1 = 0 then (if (0 : Int32) ≤ x1 then (LO_M_cupRow_6 fu n x1 0 (x3 + 1) I1 L1) else (LO_M_cupRow_6 fu n 0 0 (x3 + 1) I1 L1)) else (if x2 + 1 ≤ x1 then (LO_M_cupRow_6 fu n x1 (x2 + 1) (x3 + 1) I1 L1) else (LO_M_cupRow_6 fu n (x2 + 1) (x2 + 1) (x3 + 1) I1 L1))))
set_option maxHeartbeats 20000000 in
set_option maxRecDepth 20000 in
theorem lo_M_cupRow_6 {d fu n0 s0 : Nat} {X : Nat × (Nat → Int32)} {Q : PQ} {res : Int32 × (Nat → Nat → Int32) × (Nat → Nat → Int64)}  (g : Q (some (.int res.1)) (HS res.2.1 res.2.2 X)) : ∀ (n : Nat) (x1 : Int32) (x2 : Int32) (x3 : Int32) (I : Nat → Nat → Int32) (L : Nat → Nat → Int64), LO_M_cupRow_6 fu n x1 x2 x3 I L = some res → Wp (Ev (d + 3)) cd_M_cupRow (0, 0) (some .int) n0 s0 Q 6 [(0, .ref 331), (1, .int x1), (2, .int x2), (3, .int x3)] [] (HS I L X) := by
  intro n
  induction n with
  | zero => intro _ _ _ _ _ q; cases q
  | succ n ih =>
    intro x1 x2 x3 I L q
    unfold LO_M_cupRow_6 at q
    refine w_iload_n (Ev.cm _) rfl rfl ?_
    refine w_bipush (Ev.cm _) rfl ?_
    refine w_icmp_gt (Ev.cm _) rfl (fun c1 => ?_) (fun c1 => ?_)
    · have c1 : 12 < x3 := c1
      rw [if_pos c1] at q
      refine w_iload_n (Ev.cm _) rfl rfl ?_
      refine w_ireturn (Ev.cm _) rfl trivial rf0 ?_
      cases q
      exact g
    · have c1 : ¬ (12 < x3) := c1
      rw [if_neg c1] at q
      refine w_aload_n (Ev.cm _) rfl rfl ?_
      refine w_iload_n (Ev.cm _) rfl rfl ?_
      obtain ⟨⟨r1, I1, L1⟩, e1, q⟩ := obs q
      dsimp only at q
      refine w_cvirt (o := 331) (as := [.int x3]) (st := []) (Ev.cm _) rfl rfl rfl (Nat.le_of_ble_eq_true rfl) (Nat.le_of_ble_eq_true rfl) rfl (Nat.le_of_ble_eq_true rfl) (eo_M_hasCup (g := ?_) e1)
      show Wp _ _ _ _ _ _ _ 17 [(0, .ref 331), (1, .int x1), (2, .int x2), (3, .int x3)] [.int r1] (HS I1 L1 X)
      refine w_if_eq (Ev.cm _) rfl (fun c2 => ?_) (fun c2 => ?_)
      · have c2 : r1 = 0 := c2
        rw [if_pos c2] at q
        refine w_iconst (Ev.cm _) rfl ?_
        refine w_istore_n (ls2 := [(0, .ref 331), (1, .int x1), (2, .int 0), (3, .int x3)]) (Ev.cm _) rfl rfl ?_
        refine w_iload_n (Ev.cm _) rfl rfl ?_
        refine w_iload_n (Ev.cm _) rfl rfl ?_
        refine w_icmp_le (Ev.cm _) rfl (fun c3 => ?_) (fun c3 => ?_)
        · have c3 : (0 : Int32) ≤ x1 := c3
          rw [if_pos c3] at q
          refine w_iload_n (Ev.cm _) rfl rfl ?_
          refine w_istore_n (ls2 := [(0, .ref 331), (1, .int x1), (2, .int 0), (3, .int x3)]) (Ev.cm _) rfl rfl ?_
          refine w_iinc (ls2 := [(0, .ref 331), (1, .int x1), (2, .int 0), (3, .int (x3 + 1))]) (Ev.cm _) rfl rfl rfl ?_
          refine w_goto (Ev.cm _) rfl ?_
          show Wp _ _ _ _ _ _ _ 6 [(0, .ref 331), (1, .int x1), (2, .int 0), (3, .int (x3 + 1))] [] (HS I1 L1 X)
          refine Wp.sub [0, 1, 2, 3] (ls2 := [(0, .ref 331), (1, .int x1), (2, .int 0), (3, .int (x3 + 1))]) rfl ?_
          exact ih _ _ _ _ _ q
        · have c3 : ¬ ((0 : Int32) ≤ x1) := c3
          rw [if_neg c3] at q
          refine w_iload_n (Ev.cm _) rfl rfl ?_
          refine w_goto (Ev.cm _) rfl ?_
          refine w_istore_n (ls2 := [(0, .ref 331), (1, .int 0), (2, .int 0), (3, .int x3)]) (Ev.cm _) rfl rfl ?_
          refine w_iinc (ls2 := [(0, .ref 331), (1, .int 0), (2, .int 0), (3, .int (x3 + 1))]) (Ev.cm _) rfl rfl rfl ?_
          refine w_goto (Ev.cm _) rfl ?_
          show Wp _ _ _ _ _ _ _ 6 [(0, .ref 331), (1, .int 0), (2, .int 0), (3, .int (x3 + 1))] [] (HS I1 L1 X)
          refine Wp.sub [0, 1, 2, 3] (ls2 := [(0, .ref 331), (1, .int 0), (2, .int 0), (3, .int (x3 + 1))]) rfl ?_
          exact ih _ _ _ _ _ q
      · have c2 : ¬ (r1 = 0) := c2
        rw [if_neg c2] at q
        refine w_iload_n (Ev.cm _) rfl rfl ?_
        refine w_iconst (Ev.cm _) rfl ?_
        refine w_iadd (Ev.cm _) rfl ?_
        refine w_goto (Ev.cm _) rfl ?_
        refine w_istore_n (ls2 := [(0, .ref 331), (1, .int x1), (2, .int (x2 + 1)), (3, .int x3)]) (Ev.cm _) rfl rfl ?_
        refine w_iload_n (Ev.cm _) rfl rfl ?_
        refine w_iload_n (Ev.cm _) rfl rfl ?_
        refine w_icmp_le (Ev.cm _) rfl (fun c4 => ?_) (fun c4 => ?_)
        · have c4 : x2 + 1 ≤ x1 := c4
          rw [if_pos c4] at q
          refine w_iload_n (Ev.cm _) rfl rfl ?_
          refine w_istore_n (ls2 := [(0, .ref 331), (1, .int x1), (2, .int (x2 + 1)), (3, .int x3)]) (Ev.cm _) rfl rfl ?_
          refine w_iinc (ls2 := [(0, .ref 331), (1, .int x1), (2, .int (x2 + 1)), (3, .int (x3 + 1))]) (Ev.cm _) rfl rfl rfl ?_
          refine w_goto (Ev.cm _) rfl ?_
          show Wp _ _ _ _ _ _ _ 6 [(0, .ref 331), (1, .int x1), (2, .int (x2 + 1)), (3, .int (x3 + 1))] [] (HS I1 L1 X)
          refine Wp.sub [0, 1, 2, 3] (ls2 := [(0, .ref 331), (1, .int x1), (2, .int (x2 + 1)), (3, .int (x3 + 1))]) rfl ?_
          exact ih _ _ _ _ _ q
        · have c4 : ¬ (x2 + 1 ≤ x1) := c4
          rw [if_neg c4] at q
          refine w_iload_n (Ev.cm _) rfl rfl ?_
          refine w_goto (Ev.cm _) rfl ?_
          refine w_istore_n (ls2 := [(0, .ref 331), (1, .int (x2 + 1)), (2, .int (x2 + 1)), (3, .int x3)]) (Ev.cm _) rfl rfl ?_
          refine w_iinc (ls2 := [(0, .ref 331), (1, .int (x2 + 1)), (2, .int (x2 + 1)), (3, .int (x3 + 1))]) (Ev.cm _) rfl rfl rfl ?_
          refine w_goto (Ev.cm _) rfl ?_
          show Wp _ _ _ _ _ _ _ 6 [(0, .ref 331), (1, .int (x2 + 1)), (2, .int (x2 + 1)), (3, .int (x3 + 1))] [] (HS I1 L1 X)
          refine Wp.sub [0, 1, 2, 3] (ls2 := [(0, .ref 331), (1, .int (x2 + 1)), (2, .int (x2 + 1)), (3, .int (x3 + 1))]) rfl ?_
          exact ih _ _ _ _ _ q
def FO_M_cupRow (fu : Nat) (I : Nat → Nat → Int32) (L : Nat → Nat → Int64) : Option (Int32 × (Nat → Nat → Int32) × (Nat → Nat → Int64)) := LO_M_cupRow_6 fu fu 0 0 1 I L
set_option maxHeartbeats 20000000 in
set_option maxRecDepth 20000 in
theorem eo_M_cupRow {d fu : Nat} {I : Nat → Nat → Int32} {L : Nat → Nat → Int64} {X : Nat × (Nat → Int32)} {Q : PQ} {res : Int32 × (Nat → Nat → Int32) × (Nat → Nat → Int64)}  (g : Q (some (.int res.1)) (HS res.2.1 res.2.2 X)) (q : FO_M_cupRow fu  I L = some res) : Ev (d + 4) m_M_cupRow [.ref 331] (HS I L X) Q := by
  unfold FO_M_cupRow at q
  refine ev_start (d := d + 3) rfl rfl rfl (Nat.le_of_ble_eq_true rfl) ?_
  show Wp (Ev (d + 3)) cd_M_cupRow (0, 0) (some .int) _ _ Q 0 [(0, .ref 331)] [] (HS I L X)
  refine w_iconst (Ev.cm _) rfl ?_
  refine w_istore_n (ls2 := [(0, .ref 331), (1, .int 0)]) (Ev.cm _) rfl rfl ?_
  refine w_iconst (Ev.cm _) rfl ?_
  refine w_istore_n (ls2 := [(0, .ref 331), (1, .int 0), (2, .int 0)]) (Ev.cm _) rfl rfl ?_
  refine w_iconst (Ev.cm _) rfl ?_
  refine w_istore_n (ls2 := [(0, .ref 331), (1, .int 0), (2, .int 0), (3, .int 1)]) (Ev.cm _) rfl rfl ?_
  show Wp _ _ _ _ _ _ _ 6 [(0, .ref 331), (1, .int 0), (2, .int 0), (3, .int 1)] [] (HS I L X)
  refine Wp.sub [0, 1, 2, 3] (ls2 := [(0, .ref 331), (1, .int 0), (2, .int 0), (3, .int 1)]) rfl ?_
  exact lo_M_cupRow_6 g fu _ _ _ _ _ q
def FO_M_change (fu : Nat) (p0 : Int32) (p1 : Int32) (p2 : Int32) (I : Nat → Nat → Int32) (L : Nat → Nat → Int64) : Option (Int32 × (Nat → Nat → Int32) × (Nat → Nat → Int64)) := if 0 ≤ p0 ∧ p0 ≤ 2 then (if 0 ≤ p1 ∧ p1 ≤ 2 then (if (0 : Int32) ≤ p2 ∧ p2 ≤ (9 : Int32) then (if 0 ≤ ((42 : Int32) + ((3 : Int32) * p0)) + p1 ∧ ((42 : Int32) + ((3 : Int32) * p0)) + p1 < 1541 then (some (1, sI I 332 ((((42 : Int32) + ((3 : Int32) * p0)) + p1).toNatClampNeg) p2, L)) else none) else (some (0, I, L))) else (some (0, I, L))) else (some (0, I, L))
set_option maxHeartbeats 20000000 in
set_option maxRecDepth 20000 in
theorem eo_M_change {d fu : Nat} {p0 : Int32} {p1 : Int32} {p2 : Int32} {I : Nat → Nat → Int32} {L : Nat → Nat → Int64} {X : Nat × (Nat → Int32)} {Q : PQ} {res : Int32 × (Nat → Nat → Int32) × (Nat → Nat → Int64)}  (g : Q (some (.int res.1)) (HS res.2.1 res.2.2 X)) (q : FO_M_change fu p0 p1 p2 I L = some res) : Ev (d + 3) m_M_change [.ref 331, .int p0, .int p1, .int p2] (HS I L X) Q := by
  unfold FO_M_change at q
  refine ev_start (d := d + 2) rfl rfl rfl (Nat.le_of_ble_eq_true rfl) ?_
  show Wp (Ev (d + 2)) cd_M_change (0, 0) (some .boolean) _ _ Q 0 [(0, .ref 331), (1, .int p0), (2, .int p1), (3, .int p2)] [] (HS I L X)
  refine w_iload_n (Ev.cm _) rfl rfl ?_
  refine w_cstat (as := [.int p0]) (st := []) (Ev.cm _) rfl rfl rfl (Nat.le_of_ble_eq_true rfl) (Nat.le_of_ble_eq_true rfl) (m_isThree ?_)
  show Wp _ _ _ _ _ _ _ 4 [(0, .ref 331), (1, .int p0), (2, .int p1), (3, .int p2)] [.int (bI (0 ≤ p0 ∧ p0 ≤ 2))] (HS I L X)
  refine w_if_eq (Ev.cm _) rfl (fun c1 => ?_) (fun c1 => ?_)
  · have c1 : ¬ (0 ≤ p0 ∧ p0 ≤ 2) := bI_0.mp c1
    rw [if_neg c1] at q
    refine w_iconst (Ev.cm _) rfl ?_
    refine w_ireturn (Ev.cm _) rfl (by first | exact rok_0 | exact rok_1 | exact rok_b) rf0 ?_
    cases q
    exact g
  · have c1 : 0 ≤ p0 ∧ p0 ≤ 2 := bI_1.mp c1
    rw [if_pos c1] at q
    refine w_iload_n (Ev.cm _) rfl rfl ?_
    refine w_cstat (as := [.int p1]) (st := []) (Ev.cm _) rfl rfl rfl (Nat.le_of_ble_eq_true rfl) (Nat.le_of_ble_eq_true rfl) (m_isThree ?_)
    show Wp _ _ _ _ _ _ _ 11 [(0, .ref 331), (1, .int p0), (2, .int p1), (3, .int p2)] [.int (bI (0 ≤ p1 ∧ p1 ≤ 2))] (HS I L X)
    refine w_if_eq (Ev.cm _) rfl (fun c2 => ?_) (fun c2 => ?_)
    · have c2 : ¬ (0 ≤ p1 ∧ p1 ≤ 2) := bI_0.mp c2
      rw [if_neg c2] at q
      refine w_iconst (Ev.cm _) rfl ?_
      refine w_ireturn (Ev.cm _) rfl (by first | exact rok_0 | exact rok_1 | exact rok_b) rf0 ?_
      cases q
      exact g
    · have c2 : 0 ≤ p1 ∧ p1 ≤ 2 := bI_1.mp c2
      rw [if_pos c2] at q
      refine w_iload_n (Ev.cm _) rfl rfl ?_
      refine w_iconst (Ev.cm _) rfl ?_
      refine w_bipush (Ev.cm _) rfl ?_
      refine w_cstat (as := [.int p2, .int 0, .int 9]) (st := []) (Ev.cm _) rfl rfl rfl (Nat.le_of_ble_eq_true rfl) (Nat.le_of_ble_eq_true rfl) (m_isIn ?_)
      show Wp _ _ _ _ _ _ _ 21 [(0, .ref 331), (1, .int p0), (2, .int p1), (3, .int p2)] [.int (bI ((0 : Int32) ≤ p2 ∧ p2 ≤ (9 : Int32)))] (HS I L X)
      refine w_if_ne (Ev.cm _) rfl (fun c3 => ?_) (fun c3 => ?_)
      · have c3 : (0 : Int32) ≤ p2 ∧ p2 ≤ (9 : Int32) := bI_1.mp c3
        rw [if_pos c3] at q
        refine w_aload_n (Ev.cm _) rfl rfl ?_
        refine w_getR (q := 332) (Ev.cm _) rfl (Nat.le_of_ble_eq_true rfl) rfl rfl ?_
        refine w_bipush (Ev.cm _) rfl ?_
        refine w_iconst (Ev.cm _) rfl ?_
        refine w_iload_n (Ev.cm _) rfl rfl ?_
        refine w_imul (Ev.cm _) rfl ?_
        refine w_iadd (Ev.cm _) rfl ?_
        refine w_iload_n (Ev.cm _) rfl rfl ?_
        refine w_iadd (Ev.cm _) rfl ?_
        refine w_iload_n (Ev.cm _) rfl rfl ?_
        obtain ⟨b1, q⟩ := ois q
        refine w_iast (Ev.cm _) rfl (Nat.le_of_ble_eq_true rfl) rfl (show vp_in (((42 : Int32) + ((3 : Int32) * p0)) + p1) 1541 from vpI 1541 (by decide) b1.1 b1.2) ?_
        refine w_iconst (Ev.cm _) rfl ?_
        refine w_ireturn (Ev.cm _) rfl (by first | exact rok_0 | exact rok_1 | exact rok_b) rf0 ?_
        cases q
        exact g
      · have c3 : ¬ ((0 : Int32) ≤ p2 ∧ p2 ≤ (9 : Int32)) := bI_0.mp c3
        rw [if_neg c3] at q
        refine w_iconst (Ev.cm _) rfl ?_
        refine w_ireturn (Ev.cm _) rfl (by first | exact rok_0 | exact rok_1 | exact rok_b) rf0 ?_
        cases q
        exact g
def FO_M_sound (fu : Nat) (p0 : Int32) (p1 : Int32) (p2 : Int32) (I : Nat → Nat → Int32) (L : Nat → Nat → Int64) : Option (Int32 × (Nat → Nat → Int32) × (Nat → Nat → Int64)) := if 0 ≤ p0 ∧ p0 ≤ 2 then (if 0 ≤ p1 ∧ p1 ≤ 2 then (if (0 : Int32) ≤ p2 ∧ p2 ≤ (9 : Int32) then (if 0 ≤ ((51 : Int32) + ((3 : Int32) * p0)) + p1 ∧ ((51 : Int32) + ((3 : Int32) * p0)) + p1 < 1541 then (some (1, sI I 332 ((((51 : Int32) + ((3 : Int32) * p0)) + p1).toNatClampNeg) p2, L)) else none) else (some (0, I, L))) else (some (0, I, L))) else (some (0, I, L))
set_option maxHeartbeats 20000000 in
set_option maxRecDepth 20000 in
theorem eo_M_sound {d fu : Nat} {p0 : Int32} {p1 : Int32} {p2 : Int32} {I : Nat → Nat → Int32} {L : Nat → Nat → Int64} {X : Nat × (Nat → Int32)} {Q : PQ} {res : Int32 × (Nat → Nat → Int32) × (Nat → Nat → Int64)}  (g : Q (some (.int res.1)) (HS res.2.1 res.2.2 X)) (q : FO_M_sound fu p0 p1 p2 I L = some res) : Ev (d + 3) m_M_sound [.ref 331, .int p0, .int p1, .int p2] (HS I L X) Q := by
  unfold FO_M_sound at q
  refine ev_start (d := d + 2) rfl rfl rfl (Nat.le_of_ble_eq_true rfl) ?_
  show Wp (Ev (d + 2)) cd_M_sound (0, 0) (some .boolean) _ _ Q 0 [(0, .ref 331), (1, .int p0), (2, .int p1), (3, .int p2)] [] (HS I L X)
  refine w_iload_n (Ev.cm _) rfl rfl ?_
  refine w_cstat (as := [.int p0]) (st := []) (Ev.cm _) rfl rfl rfl (Nat.le_of_ble_eq_true rfl) (Nat.le_of_ble_eq_true rfl) (m_isThree ?_)
  show Wp _ _ _ _ _ _ _ 4 [(0, .ref 331), (1, .int p0), (2, .int p1), (3, .int p2)] [.int (bI (0 ≤ p0 ∧ p0 ≤ 2))] (HS I L X)
  refine w_if_eq (Ev.cm _) rfl (fun c1 => ?_) (fun c1 => ?_)
  · have c1 : ¬ (0 ≤ p0 ∧ p0 ≤ 2) := bI_0.mp c1
    rw [if_neg c1] at q
    refine w_iconst (Ev.cm _) rfl ?_
    refine w_ireturn (Ev.cm _) rfl (by first | exact rok_0 | exact rok_1 | exact rok_b) rf0 ?_
    cases q
    exact g
  · have c1 : 0 ≤ p0 ∧ p0 ≤ 2 := bI_1.mp c1
    rw [if_pos c1] at q
    refine w_iload_n (Ev.cm _) rfl rfl ?_
    refine w_cstat (as := [.int p1]) (st := []) (Ev.cm _) rfl rfl rfl (Nat.le_of_ble_eq_true rfl) (Nat.le_of_ble_eq_true rfl) (m_isThree ?_)
    show Wp _ _ _ _ _ _ _ 11 [(0, .ref 331), (1, .int p0), (2, .int p1), (3, .int p2)] [.int (bI (0 ≤ p1 ∧ p1 ≤ 2))] (HS I L X)
    refine w_if_eq (Ev.cm _) rfl (fun c2 => ?_) (fun c2 => ?_)
    · have c2 : ¬ (0 ≤ p1 ∧ p1 ≤ 2) := bI_0.mp c2
      rw [if_neg c2] at q
      refine w_iconst (Ev.cm _) rfl ?_
      refine w_ireturn (Ev.cm _) rfl (by first | exact rok_0 | exact rok_1 | exact rok_b) rf0 ?_
      cases q
      exact g
    · have c2 : 0 ≤ p1 ∧ p1 ≤ 2 := bI_1.mp c2
      rw [if_pos c2] at q
      refine w_iload_n (Ev.cm _) rfl rfl ?_
      refine w_iconst (Ev.cm _) rfl ?_
      refine w_bipush (Ev.cm _) rfl ?_
      refine w_cstat (as := [.int p2, .int 0, .int 9]) (st := []) (Ev.cm _) rfl rfl rfl (Nat.le_of_ble_eq_true rfl) (Nat.le_of_ble_eq_true rfl) (m_isIn ?_)
      show Wp _ _ _ _ _ _ _ 21 [(0, .ref 331), (1, .int p0), (2, .int p1), (3, .int p2)] [.int (bI ((0 : Int32) ≤ p2 ∧ p2 ≤ (9 : Int32)))] (HS I L X)
      refine w_if_ne (Ev.cm _) rfl (fun c3 => ?_) (fun c3 => ?_)
      · have c3 : (0 : Int32) ≤ p2 ∧ p2 ≤ (9 : Int32) := bI_1.mp c3
        rw [if_pos c3] at q
        refine w_aload_n (Ev.cm _) rfl rfl ?_
        refine w_getR (q := 332) (Ev.cm _) rfl (Nat.le_of_ble_eq_true rfl) rfl rfl ?_
        refine w_bipush (Ev.cm _) rfl ?_
        refine w_iconst (Ev.cm _) rfl ?_
        refine w_iload_n (Ev.cm _) rfl rfl ?_
        refine w_imul (Ev.cm _) rfl ?_
        refine w_iadd (Ev.cm _) rfl ?_
        refine w_iload_n (Ev.cm _) rfl rfl ?_
        refine w_iadd (Ev.cm _) rfl ?_
        refine w_iload_n (Ev.cm _) rfl rfl ?_
        obtain ⟨b1, q⟩ := ois q
        refine w_iast (Ev.cm _) rfl (Nat.le_of_ble_eq_true rfl) rfl (show vp_in (((51 : Int32) + ((3 : Int32) * p0)) + p1) 1541 from vpI 1541 (by decide) b1.1 b1.2) ?_
        refine w_iconst (Ev.cm _) rfl ?_
        refine w_ireturn (Ev.cm _) rfl (by first | exact rok_0 | exact rok_1 | exact rok_b) rf0 ?_
        cases q
        exact g
      · have c3 : ¬ ((0 : Int32) ≤ p2 ∧ p2 ≤ (9 : Int32)) := bI_0.mp c3
        rw [if_neg c3] at q
        refine w_iconst (Ev.cm _) rfl ?_
        refine w_ireturn (Ev.cm _) rfl (by first | exact rok_0 | exact rok_1 | exact rok_b) rf0 ?_
        cases q
        exact g
def FO_M_listen (fu : Nat) (p0 : Int32) (I : Nat → Nat → Int32) (L : Nat → Nat → Int64) : Option (Int32 × (Nat → Nat → Int32) × (Nat → Nat → Int64)) := if p0 = (-1) then (some (0, sI I 332 4 0, L)) else (if 0 ≤ p0 ∧ p0 ≤ 2 then (if I 332 4 = 6 then (some ((-2), I, L)) else (if 0 ≤ (60 : Int32) + (I 332 4) ∧ (60 : Int32) + (I 332 4) < 1541 then (some (((sI I 332 (((60 : Int32) + (I 332 4)).toNatClampNeg) p0) 332 4) + 1, sI (sI I 332 (((60 : Int32) + (I 332 4)).toNatClampNeg) p0) 332 4 (((sI I 332 (((60 : Int32) + (I 332 4)).toNatClampNeg) p0) 332 4) + 1), L)) else none)) else (some ((-2), I, L)))
set_option maxHeartbeats 20000000 in
set_option maxRecDepth 20000 in
theorem eo_M_listen {d fu : Nat} {p0 : Int32} {I : Nat → Nat → Int32} {L : Nat → Nat → Int64} {X : Nat × (Nat → Int32)} {Q : PQ} {res : Int32 × (Nat → Nat → Int32) × (Nat → Nat → Int64)}  (g : Q (some (.int res.1)) (HS res.2.1 res.2.2 X)) (q : FO_M_listen fu p0 I L = some res) : Ev (d + 3) m_M_listen [.ref 331, .int p0] (HS I L X) Q := by
  unfold FO_M_listen at q
  refine ev_start (d := d + 2) rfl rfl rfl (Nat.le_of_ble_eq_true rfl) ?_
  show Wp (Ev (d + 2)) cd_M_listen (0, 0) (some .int) _ _ Q 0 [(0, .ref 331), (1, .int p0)] [] (HS I L X)
  refine w_iload_n (Ev.cm _) rfl rfl ?_
  refine w_iconst (Ev.cm _) rfl ?_
  refine w_icmp_ne (Ev.cm _) rfl (fun c1 => ?_) (fun c1 => ?_)
  · have c1 : ¬ (p0 = (-1)) := c1
    rw [if_neg c1] at q
    refine w_iload_n (Ev.cm _) rfl rfl ?_
    refine w_cstat (as := [.int p0]) (st := []) (Ev.cm _) rfl rfl rfl (Nat.le_of_ble_eq_true rfl) (Nat.le_of_ble_eq_true rfl) (m_isThree ?_)
    show Wp _ _ _ _ _ _ _ 18 [(0, .ref 331), (1, .int p0)] [.int (bI (0 ≤ p0 ∧ p0 ≤ 2))] (HS I L X)
    refine w_if_eq (Ev.cm _) rfl (fun c2 => ?_) (fun c2 => ?_)
    · have c2 : ¬ (0 ≤ p0 ∧ p0 ≤ 2) := bI_0.mp c2
      rw [if_neg c2] at q
      refine w_bipush (Ev.cm _) rfl ?_
      refine w_ireturn (Ev.cm _) rfl trivial rf0 ?_
      cases q
      exact g
    · have c2 : 0 ≤ p0 ∧ p0 ≤ 2 := bI_1.mp c2
      rw [if_pos c2] at q
      refine w_aload_n (Ev.cm _) rfl rfl ?_
      refine w_getR (q := 332) (Ev.cm _) rfl (Nat.le_of_ble_eq_true rfl) rfl rfl ?_
      refine w_iconst (Ev.cm _) rfl ?_
      refine w_iald (Ev.cm _) rfl (Nat.le_of_ble_eq_true rfl) rfl (show vp_in 4 1541 from vpI 1541 (by decide) (by decide) (by decide)) ?_
      refine w_bipush (Ev.cm _) rfl ?_
      refine w_icmp_ne (Ev.cm _) rfl (fun c3 => ?_) (fun c3 => ?_)
      · have c3 : ¬ (I 332 4 = 6) := c3
        rw [if_neg c3] at q
        refine w_aload_n (Ev.cm _) rfl rfl ?_
        refine w_getR (q := 332) (Ev.cm _) rfl (Nat.le_of_ble_eq_true rfl) rfl rfl ?_
        refine w_bipush (Ev.cm _) rfl ?_
        refine w_aload_n (Ev.cm _) rfl rfl ?_
        refine w_getR (q := 332) (Ev.cm _) rfl (Nat.le_of_ble_eq_true rfl) rfl rfl ?_
        refine w_iconst (Ev.cm _) rfl ?_
        refine w_iald (Ev.cm _) rfl (Nat.le_of_ble_eq_true rfl) rfl (show vp_in 4 1541 from vpI 1541 (by decide) (by decide) (by decide)) ?_
        refine w_iadd (Ev.cm _) rfl ?_
        refine w_iload_n (Ev.cm _) rfl rfl ?_
        obtain ⟨b1, q⟩ := ois q
        refine w_iast (Ev.cm _) rfl (Nat.le_of_ble_eq_true rfl) rfl (show vp_in ((60 : Int32) + (I 332 4)) 1541 from vpI 1541 (by decide) b1.1 b1.2) ?_
        refine w_aload_n (Ev.cm _) rfl rfl ?_
        refine w_getR (q := 332) (Ev.cm _) rfl (Nat.le_of_ble_eq_true rfl) rfl rfl ?_
        refine w_iconst (Ev.cm _) rfl ?_
        refine w_dup2 (Ev.cm _) rfl rfl rfl ?_
        refine w_iald (Ev.cm _) rfl (Nat.le_of_ble_eq_true rfl) rfl (show vp_in 4 1541 from vpI 1541 (by decide) (by decide) (by decide)) ?_
        refine w_iconst (Ev.cm _) rfl ?_
        refine w_iadd (Ev.cm _) rfl ?_
        refine w_iast (Ev.cm _) rfl (Nat.le_of_ble_eq_true rfl) rfl (show vp_in 4 1541 from vpI 1541 (by decide) (by decide) (by decide)) ?_
        refine w_aload_n (Ev.cm _) rfl rfl ?_
        refine w_getR (q := 332) (Ev.cm _) rfl (Nat.le_of_ble_eq_true rfl) rfl rfl ?_
        refine w_iconst (Ev.cm _) rfl ?_
        refine w_iald (Ev.cm _) rfl (Nat.le_of_ble_eq_true rfl) rfl (show vp_in 4 1541 from vpI 1541 (by decide) (by decide) (by decide)) ?_
        refine w_ireturn (Ev.cm _) rfl trivial rf0 ?_
        cases q
        exact g
      · have c3 : I 332 4 = 6 := c3
        rw [if_pos c3] at q
        refine w_bipush (Ev.cm _) rfl ?_
        refine w_ireturn (Ev.cm _) rfl trivial rf0 ?_
        cases q
        exact g
  · have c1 : p0 = (-1) := c1
    rw [if_pos c1] at q
    refine w_aload_n (Ev.cm _) rfl rfl ?_
    refine w_getR (q := 332) (Ev.cm _) rfl (Nat.le_of_ble_eq_true rfl) rfl rfl ?_
    refine w_iconst (Ev.cm _) rfl ?_
    refine w_iconst (Ev.cm _) rfl ?_
    refine w_iast (Ev.cm _) rfl (Nat.le_of_ble_eq_true rfl) rfl (show vp_in 4 1541 from vpI 1541 (by decide) (by decide) (by decide)) ?_
    refine w_iconst (Ev.cm _) rfl ?_
    refine w_ireturn (Ev.cm _) rfl trivial rf0 ?_
    cases q
    exact g
def FO_M_soundOf (fu : Nat) (p0 : Int32) (p1 : Int32) (I : Nat → Nat → Int32) (L : Nat → Nat → Int64) : Option (Int32 × (Nat → Nat → Int32) × (Nat → Nat → Int64)) := if 0 ≤ (60 : Int32) + p0 ∧ (60 : Int32) + p0 < 1541 then (if 0 ≤ ((51 : Int32) + ((3 : Int32) * p1)) + (I 332 (((60 : Int32) + p0).toNatClampNeg)) ∧ ((51 : Int32) + ((3 : Int32) * p1)) + (I 332 (((60 : Int32) + p0).toNatClampNeg)) < 1541 then (some (I 332 ((((51 : Int32) + ((3 : Int32) * p1)) + (I 332 (((60 : Int32) + p0).toNatClampNeg))).toNatClampNeg), I, L)) else none) else none
set_option maxHeartbeats 20000000 in
set_option maxRecDepth 20000 in
theorem eo_M_soundOf {d fu : Nat} {p0 : Int32} {p1 : Int32} {I : Nat → Nat → Int32} {L : Nat → Nat → Int64} {X : Nat × (Nat → Int32)} {Q : PQ} {res : Int32 × (Nat → Nat → Int32) × (Nat → Nat → Int64)}  (g : Q (some (.int res.1)) (HS res.2.1 res.2.2 X)) (q : FO_M_soundOf fu p0 p1 I L = some res) : Ev (d + 1) m_M_soundOf [.ref 331, .int p0, .int p1] (HS I L X) Q := by
  unfold FO_M_soundOf at q
  refine ev_start (d := d + 0) rfl rfl rfl (Nat.le_of_ble_eq_true rfl) ?_
  show Wp (Ev (d + 0)) cd_M_soundOf (0, 0) (some .int) _ _ Q 0 [(0, .ref 331), (1, .int p0), (2, .int p1)] [] (HS I L X)
  refine w_aload_n (Ev.cm _) rfl rfl ?_
  refine w_getR (q := 332) (Ev.cm _) rfl (Nat.le_of_ble_eq_true rfl) rfl rfl ?_
  refine w_bipush (Ev.cm _) rfl ?_
  refine w_iconst (Ev.cm _) rfl ?_
  refine w_iload_n (Ev.cm _) rfl rfl ?_
  refine w_imul (Ev.cm _) rfl ?_
  refine w_iadd (Ev.cm _) rfl ?_
  refine w_aload_n (Ev.cm _) rfl rfl ?_
  refine w_getR (q := 332) (Ev.cm _) rfl (Nat.le_of_ble_eq_true rfl) rfl rfl ?_
  refine w_bipush (Ev.cm _) rfl ?_
  refine w_iload_n (Ev.cm _) rfl rfl ?_
  refine w_iadd (Ev.cm _) rfl ?_
  obtain ⟨b1, q⟩ := ois q
  refine w_iald (Ev.cm _) rfl (Nat.le_of_ble_eq_true rfl) rfl (show vp_in ((60 : Int32) + p0) 1541 from vpI 1541 (by decide) b1.1 b1.2) ?_
  refine w_iadd (Ev.cm _) rfl ?_
  obtain ⟨b2, q⟩ := ois q
  refine w_iald (Ev.cm _) rfl (Nat.le_of_ble_eq_true rfl) rfl (show vp_in (((51 : Int32) + ((3 : Int32) * p1)) + (I 332 (((60 : Int32) + p0).toNatClampNeg))) 1541 from vpI 1541 (by decide) b2.1 b2.2) ?_
  refine w_ireturn (Ev.cm _) rfl trivial rf0 ?_
  cases q
  exact g
def FO_M_changeOf (fu : Nat) (p0 : Int32) (p1 : Int32) (I : Nat → Nat → Int32) (L : Nat → Nat → Int64) : Option (Int32 × (Nat → Nat → Int32) × (Nat → Nat → Int64)) := if 0 ≤ ((42 : Int32) + ((3 : Int32) * p0)) + p1 ∧ ((42 : Int32) + ((3 : Int32) * p0)) + p1 < 1541 then (some (I 332 ((((42 : Int32) + ((3 : Int32) * p0)) + p1).toNatClampNeg), I, L)) else none
set_option maxHeartbeats 20000000 in
set_option maxRecDepth 20000 in
theorem eo_M_changeOf {d fu : Nat} {p0 : Int32} {p1 : Int32} {I : Nat → Nat → Int32} {L : Nat → Nat → Int64} {X : Nat × (Nat → Int32)} {Q : PQ} {res : Int32 × (Nat → Nat → Int32) × (Nat → Nat → Int64)}  (g : Q (some (.int res.1)) (HS res.2.1 res.2.2 X)) (q : FO_M_changeOf fu p0 p1 I L = some res) : Ev (d + 1) m_M_changeOf [.ref 331, .int p0, .int p1] (HS I L X) Q := by
  unfold FO_M_changeOf at q
  refine ev_start (d := d + 0) rfl rfl rfl (Nat.le_of_ble_eq_true rfl) ?_
  show Wp (Ev (d + 0)) cd_M_changeOf (0, 0) (some .int) _ _ Q 0 [(0, .ref 331), (1, .int p0), (2, .int p1)] [] (HS I L X)
  refine w_aload_n (Ev.cm _) rfl rfl ?_
  refine w_getR (q := 332) (Ev.cm _) rfl (Nat.le_of_ble_eq_true rfl) rfl rfl ?_
  refine w_bipush (Ev.cm _) rfl ?_
  refine w_iconst (Ev.cm _) rfl ?_
  refine w_iload_n (Ev.cm _) rfl rfl ?_
  refine w_imul (Ev.cm _) rfl ?_
  refine w_iadd (Ev.cm _) rfl ?_
  refine w_iload_n (Ev.cm _) rfl rfl ?_
  refine w_iadd (Ev.cm _) rfl ?_
  obtain ⟨b1, q⟩ := ois q
  refine w_iald (Ev.cm _) rfl (Nat.le_of_ble_eq_true rfl) rfl (show vp_in (((42 : Int32) + ((3 : Int32) * p0)) + p1) 1541 from vpI 1541 (by decide) b1.1 b1.2) ?_
  refine w_ireturn (Ev.cm _) rfl trivial rf0 ?_
  cases q
  exact g
def LO_M_layMoods_172 (fu : Nat) (k_114 : Int32 → Int32 → (Nat → Nat → Int32) → (Nat → Nat → Int64) → Option (Unit × (Nat → Nat → Int32) × (Nat → Nat → Int64))) (k_120 : Int32 → Int32 → Int32 → (Nat → Nat → Int32) → (Nat → Nat → Int64) → Option (Unit × (Nat → Nat → Int32) × (Nat → Nat → Int64))) : Nat → Int32 → Int32 → Int32 → Int32 → (Nat → Nat → Int32) → (Nat → Nat → Int64) → Option (Unit × (Nat → Nat → Int32) × (Nat → Nat → Int64))
  | 0, _, _, _, _, _, _ => none
  | n + 1, x1, x2, x3, x4, I, L => if 3 ≤ x4 then (k_120 x1 x2 (x3 + 1) I L) else (if x1 - 1 ≤ x2 then (k_120 x1 x2 (x3 + 1) I L) else ((FO_M_changeOf fu x3 x4 I L).bind (fun u1 => let r1 := u1.1; let I1 := u1.2.1; let L1 := u1.2.2; (FO_M_soundOf fu (x2 + 1) x4 I1 L1).bind (fun u2 => let r2 := u2.1; let I2 := u2.2.1; let L2 := u2.2.2; if 0 ≤ ((3 : Int32) * x2) + x3 ∧ ((3 : Int32) * x2) + x3 < 18 then (if 0 ≤ (((3 : Int32) * x2) + 3) + x4 ∧ (((3 : Int32) * x2) + 3) + x4 < 18 then (if 0 ≤ ((3 : Int32) * x2) + x3 ∧ ((3 : Int32) * x2) + x3 < 18 then (if 0 ≤ (((3 : Int32) * x2) + 3) + x4 ∧ (((3 : Int32) * x2) + 3) + x4 < 18 then (if 0 ≤ ((3 : Int32) * x2) + x3 ∧ ((3 : Int32) * x2) + x3 < 18 then (if lg_cmp ((((r1 * r2) : Int32).toInt64) * (L2 345 (((((3 : Int32) * x2) + 3) + x4).toNatClampNeg))) (L2 345 ((((3 : Int32) * x2) + x3).toNatClampNeg)) ≤ 0 then (LO_M_layMoods_172 fu k_114 k_120 n x1 x2 x3 (x4 + 1) I2 (sL L2 344 ((((3 : Int32) * x2) + x3).toNatClampNeg) ((L2 344 ((((3 : Int32) * x2) + x3).toNatClampNeg)) + ((((r1 * r2) : Int32).toInt64) * (L2 344 (((((3 : Int32) * x2) + 3) + x4).toNatClampNeg)))))) else (if 0 ≤ (((3 : Int32) * x2) + 3) + x4 ∧ (((3 : Int32) * x2) + 3) + x4 < 18 then (if 0 ≤ ((3 : Int32) * x2) + x3 ∧ ((3 : Int32) * x2) + x3 < 18 then (LO_M_layMoods_172 fu k_114 k_120 n x1 x2 x3 (x4 + 1) I2 (sL (sL L2 344 ((((3 : Int32) * x2) + x3).toNatClampNeg) ((L2 344 ((((3 : Int32) * x2) + x3).toNatClampNeg)) + ((((r1 * r2) : Int32).toInt64) * (L2 344 (((((3 : Int32) * x2) + 3) + x4).toNatClampNeg))))) 345 ((((3 : Int32) * x2) + x3).toNatClampNeg) ((((r1 * r2) : Int32).toInt64) * (L2 345 (((((3 : Int32) * x2) + 3) + x4).toNatClampNeg))))) else none) else none)) else none) else none) else none) else none) else none))))
set_option maxHeartbeats 20000000 in
set_option maxRecDepth 20000 in
theorem lo_M_layMoods_172 {d fu n0 s0 : Nat} {X : Nat × (Nat → Int32)} {Q : PQ} {k_114 : Int32 → Int32 → (Nat → Nat → Int32) → (Nat → Nat → Int64) → Option (Unit × (Nat → Nat → Int32) × (Nat → Nat → Int64))} {k_120 : Int32 → Int32 → Int32 → (Nat → Nat → Int32) → (Nat → Nat → Int64) → Option (Unit × (Nat → Nat → Int32) × (Nat → Nat → Int64))} {res : Unit × (Nat → Nat → Int32) × (Nat → Nat → Int64)}  (g : Q none (HS res.2.1 res.2.2 X)) (hk_114 : ∀ (x1 : Int32) (x2 : Int32) (I : Nat → Nat → Int32) (L : Nat → Nat → Int64), k_114 x1 x2 I L = some res → Wp (Ev (d + 1)) cd_M_layMoods (0, 0) none n0 s0 Q 114 [(0, .ref 331), (1, .int x1), (2, .int x2)] [] (HS I L X)) (hk_120 : ∀ (x1 : Int32) (x2 : Int32) (x3 : Int32) (I : Nat → Nat → Int32) (L : Nat → Nat → Int64), k_120 x1 x2 x3 I L = some res → Wp (Ev (d + 1)) cd_M_layMoods (0, 0) none n0 s0 Q 120 [(0, .ref 331), (1, .int x1), (2, .int x2), (3, .int x3)] [] (HS I L X)) : ∀ (n : Nat) (x1 : Int32) (x2 : Int32) (x3 : Int32) (x4 : Int32) (I : Nat → Nat → Int32) (L : Nat → Nat → Int64), LO_M_layMoods_172 fu k_114 k_120 n x1 x2 x3 x4 I L = some res → Wp (Ev (d + 1)) cd_M_layMoods (0, 0) none n0 s0 Q 172 [(0, .ref 331), (1, .int x1), (2, .int x2), (3, .int x3), (4, .int x4)] [] (HS I L X) := by
  intro n
  induction n with
  | zero => intro _ _ _ _ _ _ q; cases q
  | succ n ih =>
    intro x1 x2 x3 x4 I L q
    unfold LO_M_layMoods_172 at q
    refine w_iload (Ev.cm _) rfl rfl ?_
    refine w_iconst (Ev.cm _) rfl ?_
    refine w_icmp_ge (Ev.cm _) rfl (fun c1 => ?_) (fun c1 => ?_)
    · have c1 : 3 ≤ x4 := c1
      rw [if_pos c1] at q
      refine w_iinc (ls2 := [(0, .ref 331), (1, .int x1), (2, .int x2), (3, .int (x3 + 1)), (4, .int x4)]) (Ev.cm _) rfl rfl rfl ?_
      refine w_goto (Ev.cm _) rfl ?_
      show Wp _ _ _ _ _ _ _ 120 [(0, .ref 331), (1, .int x1), (2, .int x2), (3, .int (x3 + 1)), (4, .int x4)] [] (HS I L X)
      refine Wp.sub [0, 1, 2, 3] (ls2 := [(0, .ref 331), (1, .int x1), (2, .int x2), (3, .int (x3 + 1))]) rfl ?_
      exact hk_120 _ _ _ _ _ q
    · have c1 : ¬ (3 ≤ x4) := c1
      rw [if_neg c1] at q
      refine w_iload_n (Ev.cm _) rfl rfl ?_
      refine w_iload_n (Ev.cm _) rfl rfl ?_
      refine w_iconst (Ev.cm _) rfl ?_
      refine w_isub (Ev.cm _) rfl ?_
      refine w_icmp_ge (Ev.cm _) rfl (fun c2 => ?_) (fun c2 => ?_)
      · have c2 : x1 - 1 ≤ x2 := c2
        rw [if_pos c2] at q
        refine w_iinc (ls2 := [(0, .ref 331), (1, .int x1), (2, .int x2), (3, .int (x3 + 1)), (4, .int x4)]) (Ev.cm _) rfl rfl rfl ?_
        refine w_goto (Ev.cm _) rfl ?_
        show Wp _ _ _ _ _ _ _ 120 [(0, .ref 331), (1, .int x1), (2, .int x2), (3, .int (x3 + 1)), (4, .int x4)] [] (HS I L X)
        refine Wp.sub [0, 1, 2, 3] (ls2 := [(0, .ref 331), (1, .int x1), (2, .int x2), (3, .int (x3 + 1))]) rfl ?_
        exact hk_120 _ _ _ _ _ q
      · have c2 : ¬ (x1 - 1 ≤ x2) := c2
        rw [if_neg c2] at q
        refine w_aload_n (Ev.cm _) rfl rfl ?_
        refine w_iload_n (Ev.cm _) rfl rfl ?_
        refine w_iload (Ev.cm _) rfl rfl ?_
        obtain ⟨⟨r1, I1, L1⟩, e1, q⟩ := obs q
        dsimp only at q
        refine w_cvirt (o := 331) (as := [.int x3, .int x4]) (st := []) (Ev.cm _) rfl rfl rfl (Nat.le_of_ble_eq_true rfl) (Nat.le_of_ble_eq_true rfl) rfl (Nat.le_of_ble_eq_true rfl) (eo_M_changeOf (g := ?_) e1)
        show Wp _ _ _ _ _ _ _ 192 [(0, .ref 331), (1, .int x1), (2, .int x2), (3, .int x3), (4, .int x4)] [.int r1] (HS I1 L1 X)
        refine w_aload_n (Ev.cm _) rfl rfl ?_
        refine w_iload_n (Ev.cm _) rfl rfl ?_
        refine w_iconst (Ev.cm _) rfl ?_
        refine w_iadd (Ev.cm _) rfl ?_
        refine w_iload (Ev.cm _) rfl rfl ?_
        obtain ⟨⟨r2, I2, L2⟩, e2, q⟩ := obs q
        dsimp only at q
        refine w_cvirt (o := 331) (as := [.int (x2 + 1), .int x4]) (st := [.int r1]) (Ev.cm _) rfl rfl rfl (Nat.le_of_ble_eq_true rfl) (Nat.le_of_ble_eq_true rfl) rfl (Nat.le_of_ble_eq_true rfl) (eo_M_soundOf (g := ?_) e2)
        show Wp _ _ _ _ _ _ _ 201 [(0, .ref 331), (1, .int x1), (2, .int x2), (3, .int x3), (4, .int x4)] [.int r2, .int r1] (HS I2 L2 X)
        refine w_imul (Ev.cm _) rfl ?_
        refine w_i2l (Ev.cm _) rfl ?_
        refine w_lstore (ls2 := [(0, .ref 331), (1, .int x1), (2, .int x2), (3, .int x3), (4, .int x4), (5, .long (((r1 * r2) : Int32).toInt64))]) (Ev.cm _) rfl rfl ?_
        refine w_aload_n (Ev.cm _) rfl rfl ?_
        refine w_getR (q := 344) (Ev.cm _) rfl (Nat.le_of_ble_eq_true rfl) rfl rfl ?_
        refine w_iconst (Ev.cm _) rfl ?_
        refine w_iload_n (Ev.cm _) rfl rfl ?_
        refine w_imul (Ev.cm _) rfl ?_
        refine w_iload_n (Ev.cm _) rfl rfl ?_
        refine w_iadd (Ev.cm _) rfl ?_
        refine w_dup2 (Ev.cm _) rfl rfl rfl ?_
        obtain ⟨b3, q⟩ := ois q
        refine w_lald (Ev.cm _) rfl (Nat.le_of_ble_eq_true rfl) rfl (show vp_in (((3 : Int32) * x2) + x3) 18 from vpI 18 (by decide) b3.1 b3.2) ?_
        refine w_lload (Ev.cm _) rfl rfl ?_
        refine w_aload_n (Ev.cm _) rfl rfl ?_
        refine w_getR (q := 344) (Ev.cm _) rfl (Nat.le_of_ble_eq_true rfl) rfl rfl ?_
        refine w_iconst (Ev.cm _) rfl ?_
        refine w_iload_n (Ev.cm _) rfl rfl ?_
        refine w_imul (Ev.cm _) rfl ?_
        refine w_iconst (Ev.cm _) rfl ?_
        refine w_iadd (Ev.cm _) rfl ?_
        refine w_iload (Ev.cm _) rfl rfl ?_
        refine w_iadd (Ev.cm _) rfl ?_
        obtain ⟨b4, q⟩ := ois q
        refine w_lald (Ev.cm _) rfl (Nat.le_of_ble_eq_true rfl) rfl (show vp_in ((((3 : Int32) * x2) + 3) + x4) 18 from vpI 18 (by decide) b4.1 b4.2) ?_
        refine w_lmul (Ev.cm _) rfl ?_
        refine w_ladd (Ev.cm _) rfl ?_
        obtain ⟨b5, q⟩ := ois q
        refine w_last (Ev.cm _) rfl (Nat.le_of_ble_eq_true rfl) rfl (show vp_in (((3 : Int32) * x2) + x3) 18 from vpI 18 (by decide) b5.1 b5.2) ?_
        refine w_lload (Ev.cm _) rfl rfl ?_
        refine w_aload_n (Ev.cm _) rfl rfl ?_
        refine w_getR (q := 345) (Ev.cm _) rfl (Nat.le_of_ble_eq_true rfl) rfl rfl ?_
        refine w_iconst (Ev.cm _) rfl ?_
        refine w_iload_n (Ev.cm _) rfl rfl ?_
        refine w_imul (Ev.cm _) rfl ?_
        refine w_iconst (Ev.cm _) rfl ?_
        refine w_iadd (Ev.cm _) rfl ?_
        refine w_iload (Ev.cm _) rfl rfl ?_
        refine w_iadd (Ev.cm _) rfl ?_
        obtain ⟨b6, q⟩ := ois q
        refine w_lald (Ev.cm _) rfl (Nat.le_of_ble_eq_true rfl) rfl (show vp_in ((((3 : Int32) * x2) + 3) + x4) 18 from vpI 18 (by decide) b6.1 b6.2) ?_
        refine w_lmul (Ev.cm _) rfl ?_
        refine w_aload_n (Ev.cm _) rfl rfl ?_
        refine w_getR (q := 345) (Ev.cm _) rfl (Nat.le_of_ble_eq_true rfl) rfl rfl ?_
        refine w_iconst (Ev.cm _) rfl ?_
        refine w_iload_n (Ev.cm _) rfl rfl ?_
        refine w_imul (Ev.cm _) rfl ?_
        refine w_iload_n (Ev.cm _) rfl rfl ?_
        refine w_iadd (Ev.cm _) rfl ?_
        obtain ⟨b7, q⟩ := ois q
        refine w_lald (Ev.cm _) rfl (Nat.le_of_ble_eq_true rfl) rfl (show vp_in (((3 : Int32) * x2) + x3) 18 from vpI 18 (by decide) b7.1 b7.2) ?_
        refine w_lcmp (Ev.cm _) rfl ?_
        refine w_if_le (Ev.cm _) rfl (fun c3 => ?_) (fun c3 => ?_)
        · have c3 : lg_cmp ((((r1 * r2) : Int32).toInt64) * (L2 345 (((((3 : Int32) * x2) + 3) + x4).toNatClampNeg))) (L2 345 ((((3 : Int32) * x2) + x3).toNatClampNeg)) ≤ 0 := c3
          rw [if_pos c3] at q
          refine w_iinc (ls2 := [(0, .ref 331), (1, .int x1), (2, .int x2), (3, .int x3), (4, .int (x4 + 1)), (5, .long (((r1 * r2) : Int32).toInt64))]) (Ev.cm _) rfl rfl rfl ?_
          refine w_goto (Ev.cm _) rfl ?_
          show Wp _ _ _ _ _ _ _ 172 [(0, .ref 331), (1, .int x1), (2, .int x2), (3, .int x3), (4, .int (x4 + 1)), (5, .long (((r1 * r2) : Int32).toInt64))] [] (HS I2 (sL L2 344 ((((3 : Int32) * x2) + x3).toNatClampNeg) ((L2 344 ((((3 : Int32) * x2) + x3).toNatClampNeg)) + ((((r1 * r2) : Int32).toInt64) * (L2 344 (((((3 : Int32) * x2) + 3) + x4).toNatClampNeg))))) X)
          refine Wp.sub [0, 1, 2, 3, 4] (ls2 := [(0, .ref 331), (1, .int x1), (2, .int x2), (3, .int x3), (4, .int (x4 + 1))]) rfl ?_
          exact ih _ _ _ _ _ _ q
        · have c3 : ¬ (lg_cmp ((((r1 * r2) : Int32).toInt64) * (L2 345 (((((3 : Int32) * x2) + 3) + x4).toNatClampNeg))) (L2 345 ((((3 : Int32) * x2) + x3).toNatClampNeg)) ≤ 0) := c3
          rw [if_neg c3] at q
          refine w_aload_n (Ev.cm _) rfl rfl ?_
          refine w_getR (q := 345) (Ev.cm _) rfl (Nat.le_of_ble_eq_true rfl) rfl rfl ?_
          refine w_iconst (Ev.cm _) rfl ?_
          refine w_iload_n (Ev.cm _) rfl rfl ?_
          refine w_imul (Ev.cm _) rfl ?_
          refine w_iload_n (Ev.cm _) rfl rfl ?_
          refine w_iadd (Ev.cm _) rfl ?_
          refine w_lload (Ev.cm _) rfl rfl ?_
          refine w_aload_n (Ev.cm _) rfl rfl ?_
          refine w_getR (q := 345) (Ev.cm _) rfl (Nat.le_of_ble_eq_true rfl) rfl rfl ?_
          refine w_iconst (Ev.cm _) rfl ?_
          refine w_iload_n (Ev.cm _) rfl rfl ?_
          refine w_imul (Ev.cm _) rfl ?_
          refine w_iconst (Ev.cm _) rfl ?_
          refine w_iadd (Ev.cm _) rfl ?_
          refine w_iload (Ev.cm _) rfl rfl ?_
          refine w_iadd (Ev.cm _) rfl ?_
          obtain ⟨b8, q⟩ := ois q
          refine w_lald (Ev.cm _) rfl (Nat.le_of_ble_eq_true rfl) rfl (show vp_in ((((3 : Int32) * x2) + 3) + x4) 18 from vpI 18 (by decide) b8.1 b8.2) ?_
          refine w_lmul (Ev.cm _) rfl ?_
          obtain ⟨b9, q⟩ := ois q
          refine w_last (Ev.cm _) rfl (Nat.le_of_ble_eq_true rfl) rfl (show vp_in (((3 : Int32) * x2) + x3) 18 from vpI 18 (by decide) b9.1 b9.2) ?_
          refine w_iinc (ls2 := [(0, .ref 331), (1, .int x1), (2, .int x2), (3, .int x3), (4, .int (x4 + 1)), (5, .long (((r1 * r2) : Int32).toInt64))]) (Ev.cm _) rfl rfl rfl ?_
          refine w_goto (Ev.cm _) rfl ?_
          show Wp _ _ _ _ _ _ _ 172 [(0, .ref 331), (1, .int x1), (2, .int x2), (3, .int x3), (4, .int (x4 + 1)), (5, .long (((r1 * r2) : Int32).toInt64))] [] (HS I2 (sL (sL L2 344 ((((3 : Int32) * x2) + x3).toNatClampNeg) ((L2 344 ((((3 : Int32) * x2) + x3).toNatClampNeg)) + ((((r1 * r2) : Int32).toInt64) * (L2 344 (((((3 : Int32) * x2) + 3) + x4).toNatClampNeg))))) 345 ((((3 : Int32) * x2) + x3).toNatClampNeg) ((((r1 * r2) : Int32).toInt64) * (L2 345 (((((3 : Int32) * x2) + 3) + x4).toNatClampNeg)))) X)
          refine Wp.sub [0, 1, 2, 3, 4] (ls2 := [(0, .ref 331), (1, .int x1), (2, .int x2), (3, .int x3), (4, .int (x4 + 1))]) rfl ?_
          exact ih _ _ _ _ _ _ q
def LO_M_layMoods_120 (fu : Nat) (k_114 : Int32 → Int32 → (Nat → Nat → Int32) → (Nat → Nat → Int64) → Option (Unit × (Nat → Nat → Int32) × (Nat → Nat → Int64))) : Nat → Int32 → Int32 → Int32 → (Nat → Nat → Int32) → (Nat → Nat → Int64) → Option (Unit × (Nat → Nat → Int32) × (Nat → Nat → Int64))
  | 0, _, _, _, _, _ => none
  | n + 1, x1, x2, x3, I, L => if 3 ≤ x3 then (k_114 x1 (x2 + (-1)) I L) else (if x2 = x1 - 1 then (if 0 ≤ ((3 : Int32) * x2) + x3 ∧ ((3 : Int32) * x2) + x3 < 18 then (if x2 = x1 - 1 then (if 0 ≤ ((3 : Int32) * x2) + x3 ∧ ((3 : Int32) * x2) + x3 < 18 then (LO_M_layMoods_172 fu k_114 (fun x1 x2 x3 I L => LO_M_layMoods_120 fu k_114 n x1 x2 x3 I L) fu x1 x2 x3 0 I (sL (sL L 344 ((((3 : Int32) * x2) + x3).toNatClampNeg) 1) 345 ((((3 : Int32) * x2) + x3).toNatClampNeg) 1)) else none) else (if 0 ≤ ((3 : Int32) * x2) + x3 ∧ ((3 : Int32) * x2) + x3 < 18 then (LO_M_layMoods_172 fu k_114 (fun x1 x2 x3 I L => LO_M_layMoods_120 fu k_114 n x1 x2 x3 I L) fu x1 x2 x3 0 I (sL (sL L 344 ((((3 : Int32) * x2) + x3).toNatClampNeg) 1) 345 ((((3 : Int32) * x2) + x3).toNatClampNeg) 0)) else none)) else none) else (if 0 ≤ ((3 : Int32) * x2) + x3 ∧ ((3 : Int32) * x2) + x3 < 18 then (if x2 = x1 - 1 then (if 0 ≤ ((3 : Int32) * x2) + x3 ∧ ((3 : Int32) * x2) + x3 < 18 then (LO_M_layMoods_172 fu k_114 (fun x1 x2 x3 I L => LO_M_layMoods_120 fu k_114 n x1 x2 x3 I L) fu x1 x2 x3 0 I (sL (sL L 344 ((((3 : Int32) * x2) + x3).toNatClampNeg) 0) 345 ((((3 : Int32) * x2) + x3).toNatClampNeg) 1)) else none) else (if 0 ≤ ((3 : Int32) * x2) + x3 ∧ ((3 : Int32) * x2) + x3 < 18 then (LO_M_layMoods_172 fu k_114 (fun x1 x2 x3 I L => LO_M_layMoods_120 fu k_114 n x1 x2 x3 I L) fu x1 x2 x3 0 I (sL (sL L 344 ((((3 : Int32) * x2) + x3).toNatClampNeg) 0) 345 ((((3 : Int32) * x2) + x3).toNatClampNeg) 0)) else none)) else none))
set_option maxHeartbeats 20000000 in
set_option maxRecDepth 20000 in
theorem lo_M_layMoods_120 {d fu n0 s0 : Nat} {X : Nat × (Nat → Int32)} {Q : PQ} {k_114 : Int32 → Int32 → (Nat → Nat → Int32) → (Nat → Nat → Int64) → Option (Unit × (Nat → Nat → Int32) × (Nat → Nat → Int64))} {res : Unit × (Nat → Nat → Int32) × (Nat → Nat → Int64)}  (g : Q none (HS res.2.1 res.2.2 X)) (hk_114 : ∀ (x1 : Int32) (x2 : Int32) (I : Nat → Nat → Int32) (L : Nat → Nat → Int64), k_114 x1 x2 I L = some res → Wp (Ev (d + 1)) cd_M_layMoods (0, 0) none n0 s0 Q 114 [(0, .ref 331), (1, .int x1), (2, .int x2)] [] (HS I L X)) : ∀ (n : Nat) (x1 : Int32) (x2 : Int32) (x3 : Int32) (I : Nat → Nat → Int32) (L : Nat → Nat → Int64), LO_M_layMoods_120 fu k_114 n x1 x2 x3 I L = some res → Wp (Ev (d + 1)) cd_M_layMoods (0, 0) none n0 s0 Q 120 [(0, .ref 331), (1, .int x1), (2, .int x2), (3, .int x3)] [] (HS I L X) := by
  intro n
  induction n with
  | zero => intro _ _ _ _ _ q; cases q
  | succ n ih =>
    intro x1 x2 x3 I L q
    unfold LO_M_layMoods_120 at q
    refine w_iload_n (Ev.cm _) rfl rfl ?_
    refine w_iconst (Ev.cm _) rfl ?_
    refine w_icmp_ge (Ev.cm _) rfl (fun c1 => ?_) (fun c1 => ?_)
    · have c1 : 3 ≤ x3 := c1
      rw [if_pos c1] at q
      refine w_iinc (ls2 := [(0, .ref 331), (1, .int x1), (2, .int (x2 + (-1))), (3, .int x3)]) (Ev.cm _) rfl rfl rfl ?_
      refine w_goto (Ev.cm _) rfl ?_
      show Wp _ _ _ _ _ _ _ 114 [(0, .ref 331), (1, .int x1), (2, .int (x2 + (-1))), (3, .int x3)] [] (HS I L X)
      refine Wp.sub [0, 1, 2] (ls2 := [(0, .ref 331), (1, .int x1), (2, .int (x2 + (-1)))]) rfl ?_
      exact hk_114 _ _ _ _ q
    · have c1 : ¬ (3 ≤ x3) := c1
      rw [if_neg c1] at q
      refine w_aload_n (Ev.cm _) rfl rfl ?_
      refine w_getR (q := 344) (Ev.cm _) rfl (Nat.le_of_ble_eq_true rfl) rfl rfl ?_
      refine w_iconst (Ev.cm _) rfl ?_
      refine w_iload_n (Ev.cm _) rfl rfl ?_
      refine w_imul (Ev.cm _) rfl ?_
      refine w_iload_n (Ev.cm _) rfl rfl ?_
      refine w_iadd (Ev.cm _) rfl ?_
      refine w_iload_n (Ev.cm _) rfl rfl ?_
      refine w_iload_n (Ev.cm _) rfl rfl ?_
      refine w_iconst (Ev.cm _) rfl ?_
      refine w_isub (Ev.cm _) rfl ?_
      refine w_icmp_ne (Ev.cm _) rfl (fun c2 => ?_) (fun c2 => ?_)
      · have c2 : ¬ (x2 = x1 - 1) := c2
        rw [if_neg c2] at q
        refine w_lconst (Ev.cm _) rfl ?_
        obtain ⟨b1, q⟩ := ois q
        refine w_last (Ev.cm _) rfl (Nat.le_of_ble_eq_true rfl) rfl (show vp_in (((3 : Int32) * x2) + x3) 18 from vpI 18 (by decide) b1.1 b1.2) ?_
        refine w_aload_n (Ev.cm _) rfl rfl ?_
        refine w_getR (q := 345) (Ev.cm _) rfl (Nat.le_of_ble_eq_true rfl) rfl rfl ?_
        refine w_iconst (Ev.cm _) rfl ?_
        refine w_iload_n (Ev.cm _) rfl rfl ?_
        refine w_imul (Ev.cm _) rfl ?_
        refine w_iload_n (Ev.cm _) rfl rfl ?_
        refine w_iadd (Ev.cm _) rfl ?_
        refine w_iload_n (Ev.cm _) rfl rfl ?_
        refine w_iload_n (Ev.cm _) rfl rfl ?_
        refine w_iconst (Ev.cm _) rfl ?_
        refine w_isub (Ev.cm _) rfl ?_
        refine w_icmp_ne (Ev.cm _) rfl (fun c3 => ?_) (fun c3 => ?_)
        · have c3 : ¬ (x2 = x1 - 1) := c3
          rw [if_neg c3] at q
          refine w_lconst (Ev.cm _) rfl ?_
          obtain ⟨b2, q⟩ := ois q
          refine w_last (Ev.cm _) rfl (Nat.le_of_ble_eq_true rfl) rfl (show vp_in (((3 : Int32) * x2) + x3) 18 from vpI 18 (by decide) b2.1 b2.2) ?_
          refine w_iconst (Ev.cm _) rfl ?_
          refine w_istore (ls2 := [(0, .ref 331), (1, .int x1), (2, .int x2), (3, .int x3), (4, .int 0)]) (Ev.cm _) rfl rfl ?_
          show Wp _ _ _ _ _ _ _ 172 [(0, .ref 331), (1, .int x1), (2, .int x2), (3, .int x3), (4, .int 0)] [] (HS I (sL (sL L 344 ((((3 : Int32) * x2) + x3).toNatClampNeg) 0) 345 ((((3 : Int32) * x2) + x3).toNatClampNeg) 0) X)
          refine Wp.sub [0, 1, 2, 3, 4] (ls2 := [(0, .ref 331), (1, .int x1), (2, .int x2), (3, .int x3), (4, .int 0)]) rfl ?_
          exact lo_M_layMoods_172 g hk_114 (fun x1 x2 x3 I L q => ih x1 x2 x3 I L q) fu _ _ _ _ _ _ q
        · have c3 : x2 = x1 - 1 := c3
          rw [if_pos c3] at q
          refine w_lconst (Ev.cm _) rfl ?_
          refine w_goto (Ev.cm _) rfl ?_
          obtain ⟨b3, q⟩ := ois q
          refine w_last (Ev.cm _) rfl (Nat.le_of_ble_eq_true rfl) rfl (show vp_in (((3 : Int32) * x2) + x3) 18 from vpI 18 (by decide) b3.1 b3.2) ?_
          refine w_iconst (Ev.cm _) rfl ?_
          refine w_istore (ls2 := [(0, .ref 331), (1, .int x1), (2, .int x2), (3, .int x3), (4, .int 0)]) (Ev.cm _) rfl rfl ?_
          show Wp _ _ _ _ _ _ _ 172 [(0, .ref 331), (1, .int x1), (2, .int x2), (3, .int x3), (4, .int 0)] [] (HS I (sL (sL L 344 ((((3 : Int32) * x2) + x3).toNatClampNeg) 0) 345 ((((3 : Int32) * x2) + x3).toNatClampNeg) 1) X)
          refine Wp.sub [0, 1, 2, 3, 4] (ls2 := [(0, .ref 331), (1, .int x1), (2, .int x2), (3, .int x3), (4, .int 0)]) rfl ?_
          exact lo_M_layMoods_172 g hk_114 (fun x1 x2 x3 I L q => ih x1 x2 x3 I L q) fu _ _ _ _ _ _ q
      · have c2 : x2 = x1 - 1 := c2
        rw [if_pos c2] at q
        refine w_lconst (Ev.cm _) rfl ?_
        refine w_goto (Ev.cm _) rfl ?_
        obtain ⟨b4, q⟩ := ois q
        refine w_last (Ev.cm _) rfl (Nat.le_of_ble_eq_true rfl) rfl (show vp_in (((3 : Int32) * x2) + x3) 18 from vpI 18 (by decide) b4.1 b4.2) ?_
        refine w_aload_n (Ev.cm _) rfl rfl ?_
        refine w_getR (q := 345) (Ev.cm _) rfl (Nat.le_of_ble_eq_true rfl) rfl rfl ?_
        refine w_iconst (Ev.cm _) rfl ?_
        refine w_iload_n (Ev.cm _) rfl rfl ?_
        refine w_imul (Ev.cm _) rfl ?_
        refine w_iload_n (Ev.cm _) rfl rfl ?_
        refine w_iadd (Ev.cm _) rfl ?_
        refine w_iload_n (Ev.cm _) rfl rfl ?_
        refine w_iload_n (Ev.cm _) rfl rfl ?_
        refine w_iconst (Ev.cm _) rfl ?_
        refine w_isub (Ev.cm _) rfl ?_
        refine w_icmp_ne (Ev.cm _) rfl (fun c4 => ?_) (fun c4 => ?_)
        · have c4 : ¬ (x2 = x1 - 1) := c4
          rw [if_neg c4] at q
          refine w_lconst (Ev.cm _) rfl ?_
          obtain ⟨b5, q⟩ := ois q
          refine w_last (Ev.cm _) rfl (Nat.le_of_ble_eq_true rfl) rfl (show vp_in (((3 : Int32) * x2) + x3) 18 from vpI 18 (by decide) b5.1 b5.2) ?_
          refine w_iconst (Ev.cm _) rfl ?_
          refine w_istore (ls2 := [(0, .ref 331), (1, .int x1), (2, .int x2), (3, .int x3), (4, .int 0)]) (Ev.cm _) rfl rfl ?_
          show Wp _ _ _ _ _ _ _ 172 [(0, .ref 331), (1, .int x1), (2, .int x2), (3, .int x3), (4, .int 0)] [] (HS I (sL (sL L 344 ((((3 : Int32) * x2) + x3).toNatClampNeg) 1) 345 ((((3 : Int32) * x2) + x3).toNatClampNeg) 0) X)
          refine Wp.sub [0, 1, 2, 3, 4] (ls2 := [(0, .ref 331), (1, .int x1), (2, .int x2), (3, .int x3), (4, .int 0)]) rfl ?_
          exact lo_M_layMoods_172 g hk_114 (fun x1 x2 x3 I L q => ih x1 x2 x3 I L q) fu _ _ _ _ _ _ q
        · have c4 : x2 = x1 - 1 := c4
          rw [if_pos c4] at q
          refine w_lconst (Ev.cm _) rfl ?_
          refine w_goto (Ev.cm _) rfl ?_
          obtain ⟨b6, q⟩ := ois q
          refine w_last (Ev.cm _) rfl (Nat.le_of_ble_eq_true rfl) rfl (show vp_in (((3 : Int32) * x2) + x3) 18 from vpI 18 (by decide) b6.1 b6.2) ?_
          refine w_iconst (Ev.cm _) rfl ?_
          refine w_istore (ls2 := [(0, .ref 331), (1, .int x1), (2, .int x2), (3, .int x3), (4, .int 0)]) (Ev.cm _) rfl rfl ?_
          show Wp _ _ _ _ _ _ _ 172 [(0, .ref 331), (1, .int x1), (2, .int x2), (3, .int x3), (4, .int 0)] [] (HS I (sL (sL L 344 ((((3 : Int32) * x2) + x3).toNatClampNeg) 1) 345 ((((3 : Int32) * x2) + x3).toNatClampNeg) 1) X)
          refine Wp.sub [0, 1, 2, 3, 4] (ls2 := [(0, .ref 331), (1, .int x1), (2, .int x2), (3, .int x3), (4, .int 0)]) rfl ?_
          exact lo_M_layMoods_172 g hk_114 (fun x1 x2 x3 I L q => ih x1 x2 x3 I L q) fu _ _ _ _ _ _ q
def LO_M_layMoods_114 (fu : Nat) : Nat → Int32 → Int32 → (Nat → Nat → Int32) → (Nat → Nat → Int64) → Option (Unit × (Nat → Nat → Int32) × (Nat → Nat → Int64))
  | 0, _, _, _, _ => none
  | n + 1, x1, x2, I, L => if x2 < 0 then (some ((), I, L)) else (LO_M_layMoods_120 fu (fun x1 x2 I L => LO_M_layMoods_114 fu n x1 x2 I L) fu x1 x2 0 I L)
set_option maxHeartbeats 20000000 in
set_option maxRecDepth 20000 in
theorem lo_M_layMoods_114 {d fu n0 s0 : Nat} {X : Nat × (Nat → Int32)} {Q : PQ} {res : Unit × (Nat → Nat → Int32) × (Nat → Nat → Int64)}  (g : Q none (HS res.2.1 res.2.2 X)) : ∀ (n : Nat) (x1 : Int32) (x2 : Int32) (I : Nat → Nat → Int32) (L : Nat → Nat → Int64), LO_M_layMoods_114 fu n x1 x2 I L = some res → Wp (Ev (d + 1)) cd_M_layMoods (0, 0) none n0 s0 Q 114 [(0, .ref 331), (1, .int x1), (2, .int x2)] [] (HS I L X) := by
  intro n
  induction n with
  | zero => intro _ _ _ _ q; cases q
  | succ n ih =>
    intro x1 x2 I L q
    unfold LO_M_layMoods_114 at q
    refine w_iload_n (Ev.cm _) rfl rfl ?_
    refine w_if_lt (Ev.cm _) rfl (fun c1 => ?_) (fun c1 => ?_)
    · have c1 : x2 < 0 := c1
      rw [if_pos c1] at q
      refine w_return (Ev.cm _) rfl rfl rf0 ?_
      cases q
      exact g
    · have c1 : ¬ (x2 < 0) := c1
      rw [if_neg c1] at q
      refine w_iconst (Ev.cm _) rfl ?_
      refine w_istore_n (ls2 := [(0, .ref 331), (1, .int x1), (2, .int x2), (3, .int 0)]) (Ev.cm _) rfl rfl ?_
      show Wp _ _ _ _ _ _ _ 120 [(0, .ref 331), (1, .int x1), (2, .int x2), (3, .int 0)] [] (HS I L X)
      refine Wp.sub [0, 1, 2, 3] (ls2 := [(0, .ref 331), (1, .int x1), (2, .int x2), (3, .int 0)]) rfl ?_
      exact lo_M_layMoods_120 g (fun x1 x2 I L q => ih x1 x2 I L q) fu _ _ _ _ _ q
def LO_M_layMoods_35 (fu : Nat) (k_9 : Int32 → Int32 → (Nat → Nat → Int32) → (Nat → Nat → Int64) → Option (Unit × (Nat → Nat → Int32) × (Nat → Nat → Int64))) (k_16 : Int32 → Int32 → Int32 → (Nat → Nat → Int32) → (Nat → Nat → Int64) → Option (Unit × (Nat → Nat → Int32) × (Nat → Nat → Int64))) : Nat → Int32 → Int32 → Int32 → Int64 → Int32 → (Nat → Nat → Int32) → (Nat → Nat → Int64) → Option (Unit × (Nat → Nat → Int32) × (Nat → Nat → Int64))
  | 0, _, _, _, _, _, _, _ => none
  | n + 1, x1, x2, x3, x4, x6, I, L => if 3 ≤ x6 then ((FO_M_soundOf fu x2 x3 I L).bind (fun u1 => let r1 := u1.1; let I1 := u1.2.1; let L1 := u1.2.2; if 0 ≤ ((3 : Int32) * x2) + x3 ∧ ((3 : Int32) * x2) + x3 < 18 then (k_16 x1 x2 (x3 + 1) I1 (sL L1 343 ((((3 : Int32) * x2) + x3).toNatClampNeg) (x4 * ((r1 : Int32).toInt64)))) else none)) else (if x2 ≤ 0 then ((FO_M_soundOf fu x2 x3 I L).bind (fun u3 => let r3 := u3.1; let I3 := u3.2.1; let L3 := u3.2.2; if 0 ≤ ((3 : Int32) * x2) + x3 ∧ ((3 : Int32) * x2) + x3 < 18 then (k_16 x1 x2 (x3 + 1) I3 (sL L3 343 ((((3 : Int32) * x2) + x3).toNatClampNeg) (x4 * ((r3 : Int32).toInt64)))) else none)) else (if 0 ≤ (((3 : Int32) * x2) - 3) + x6 ∧ (((3 : Int32) * x2) - 3) + x6 < 18 then ((FO_M_changeOf fu x6 x3 I L).bind (fun u6 => let r6 := u6.1; let I6 := u6.2.1; let L6 := u6.2.2; LO_M_layMoods_35 fu k_9 k_16 n x1 x2 x3 (x4 + ((L 343 (((((3 : Int32) * x2) - 3) + x6).toNatClampNeg)) * ((r6 : Int32).toInt64))) (x6 + 1) I6 L6)) else none))
set_option maxHeartbeats 20000000 in
set_option maxRecDepth 20000 in
theorem lo_M_layMoods_35 {d fu n0 s0 : Nat} {X : Nat × (Nat → Int32)} {Q : PQ} {k_9 : Int32 → Int32 → (Nat → Nat → Int32) → (Nat → Nat → Int64) → Option (Unit × (Nat → Nat → Int32) × (Nat → Nat → Int64))} {k_16 : Int32 → Int32 → Int32 → (Nat → Nat → Int32) → (Nat → Nat → Int64) → Option (Unit × (Nat → Nat → Int32) × (Nat → Nat → Int64))} {res : Unit × (Nat → Nat → Int32) × (Nat → Nat → Int64)}  (g : Q none (HS res.2.1 res.2.2 X)) (hk_9 : ∀ (x1 : Int32) (x2 : Int32) (I : Nat → Nat → Int32) (L : Nat → Nat → Int64), k_9 x1 x2 I L = some res → Wp (Ev (d + 1)) cd_M_layMoods (0, 0) none n0 s0 Q 9 [(0, .ref 331), (1, .int x1), (2, .int x2)] [] (HS I L X)) (hk_16 : ∀ (x1 : Int32) (x2 : Int32) (x3 : Int32) (I : Nat → Nat → Int32) (L : Nat → Nat → Int64), k_16 x1 x2 x3 I L = some res → Wp (Ev (d + 1)) cd_M_layMoods (0, 0) none n0 s0 Q 16 [(0, .ref 331), (1, .int x1), (2, .int x2), (3, .int x3)] [] (HS I L X)) : ∀ (n : Nat) (x1 : Int32) (x2 : Int32) (x3 : Int32) (x4 : Int64) (x6 : Int32) (I : Nat → Nat → Int32) (L : Nat → Nat → Int64), LO_M_layMoods_35 fu k_9 k_16 n x1 x2 x3 x4 x6 I L = some res → Wp (Ev (d + 1)) cd_M_layMoods (0, 0) none n0 s0 Q 35 [(0, .ref 331), (1, .int x1), (2, .int x2), (3, .int x3), (4, .long x4), (6, .int x6)] [] (HS I L X) := by
  intro n
  induction n with
  | zero => intro _ _ _ _ _ _ _ q; cases q
  | succ n ih =>
    intro x1 x2 x3 x4 x6 I L q
    unfold LO_M_layMoods_35 at q
    refine w_iload (Ev.cm _) rfl rfl ?_
    refine w_iconst (Ev.cm _) rfl ?_
    refine w_icmp_ge (Ev.cm _) rfl (fun c1 => ?_) (fun c1 => ?_)
    · have c1 : 3 ≤ x6 := c1
      rw [if_pos c1] at q
      refine w_aload_n (Ev.cm _) rfl rfl ?_
      refine w_getR (q := 343) (Ev.cm _) rfl (Nat.le_of_ble_eq_true rfl) rfl rfl ?_
      refine w_iconst (Ev.cm _) rfl ?_
      refine w_iload_n (Ev.cm _) rfl rfl ?_
      refine w_imul (Ev.cm _) rfl ?_
      refine w_iload_n (Ev.cm _) rfl rfl ?_
      refine w_iadd (Ev.cm _) rfl ?_
      refine w_lload (Ev.cm _) rfl rfl ?_
      refine w_aload_n (Ev.cm _) rfl rfl ?_
      refine w_iload_n (Ev.cm _) rfl rfl ?_
      refine w_iload_n (Ev.cm _) rfl rfl ?_
      obtain ⟨⟨r1, I1, L1⟩, e1, q⟩ := obs q
      dsimp only at q
      refine w_cvirt (o := 331) (as := [.int x2, .int x3]) (st := [.long x4, .int (((3 : Int32) * x2) + x3), .ref 343]) (Ev.cm _) rfl rfl rfl (Nat.le_of_ble_eq_true rfl) (Nat.le_of_ble_eq_true rfl) rfl (Nat.le_of_ble_eq_true rfl) (eo_M_soundOf (g := ?_) e1)
      show Wp _ _ _ _ _ _ _ 95 [(0, .ref 331), (1, .int x1), (2, .int x2), (3, .int x3), (4, .long x4), (6, .int x6)] [.int r1, .long x4, .int (((3 : Int32) * x2) + x3), .ref 343] (HS I1 L1 X)
      refine w_i2l (Ev.cm _) rfl ?_
      refine w_lmul (Ev.cm _) rfl ?_
      obtain ⟨b2, q⟩ := ois q
      refine w_last (Ev.cm _) rfl (Nat.le_of_ble_eq_true rfl) rfl (show vp_in (((3 : Int32) * x2) + x3) 18 from vpI 18 (by decide) b2.1 b2.2) ?_
      refine w_iinc (ls2 := [(0, .ref 331), (1, .int x1), (2, .int x2), (3, .int (x3 + 1)), (4, .long x4), (6, .int x6)]) (Ev.cm _) rfl rfl rfl ?_
      refine w_goto (Ev.cm _) rfl ?_
      show Wp _ _ _ _ _ _ _ 16 [(0, .ref 331), (1, .int x1), (2, .int x2), (3, .int (x3 + 1)), (4, .long x4), (6, .int x6)] [] (HS I1 (sL L1 343 ((((3 : Int32) * x2) + x3).toNatClampNeg) (x4 * ((r1 : Int32).toInt64))) X)
      refine Wp.sub [0, 1, 2, 3] (ls2 := [(0, .ref 331), (1, .int x1), (2, .int x2), (3, .int (x3 + 1))]) rfl ?_
      exact hk_16 _ _ _ _ _ q
    · have c1 : ¬ (3 ≤ x6) := c1
      rw [if_neg c1] at q
      refine w_iload_n (Ev.cm _) rfl rfl ?_
      refine w_if_le (Ev.cm _) rfl (fun c2 => ?_) (fun c2 => ?_)
      · have c2 : x2 ≤ 0 := c2
        rw [if_pos c2] at q
        refine w_aload_n (Ev.cm _) rfl rfl ?_
        refine w_getR (q := 343) (Ev.cm _) rfl (Nat.le_of_ble_eq_true rfl) rfl rfl ?_
        refine w_iconst (Ev.cm _) rfl ?_
        refine w_iload_n (Ev.cm _) rfl rfl ?_
        refine w_imul (Ev.cm _) rfl ?_
        refine w_iload_n (Ev.cm _) rfl rfl ?_
        refine w_iadd (Ev.cm _) rfl ?_
        refine w_lload (Ev.cm _) rfl rfl ?_
        refine w_aload_n (Ev.cm _) rfl rfl ?_
        refine w_iload_n (Ev.cm _) rfl rfl ?_
        refine w_iload_n (Ev.cm _) rfl rfl ?_
        obtain ⟨⟨r3, I3, L3⟩, e3, q⟩ := obs q
        dsimp only at q
        refine w_cvirt (o := 331) (as := [.int x2, .int x3]) (st := [.long x4, .int (((3 : Int32) * x2) + x3), .ref 343]) (Ev.cm _) rfl rfl rfl (Nat.le_of_ble_eq_true rfl) (Nat.le_of_ble_eq_true rfl) rfl (Nat.le_of_ble_eq_true rfl) (eo_M_soundOf (g := ?_) e3)
        show Wp _ _ _ _ _ _ _ 95 [(0, .ref 331), (1, .int x1), (2, .int x2), (3, .int x3), (4, .long x4), (6, .int x6)] [.int r3, .long x4, .int (((3 : Int32) * x2) + x3), .ref 343] (HS I3 L3 X)
        refine w_i2l (Ev.cm _) rfl ?_
        refine w_lmul (Ev.cm _) rfl ?_
        obtain ⟨b4, q⟩ := ois q
        refine w_last (Ev.cm _) rfl (Nat.le_of_ble_eq_true rfl) rfl (show vp_in (((3 : Int32) * x2) + x3) 18 from vpI 18 (by decide) b4.1 b4.2) ?_
        refine w_iinc (ls2 := [(0, .ref 331), (1, .int x1), (2, .int x2), (3, .int (x3 + 1)), (4, .long x4), (6, .int x6)]) (Ev.cm _) rfl rfl rfl ?_
        refine w_goto (Ev.cm _) rfl ?_
        show Wp _ _ _ _ _ _ _ 16 [(0, .ref 331), (1, .int x1), (2, .int x2), (3, .int (x3 + 1)), (4, .long x4), (6, .int x6)] [] (HS I3 (sL L3 343 ((((3 : Int32) * x2) + x3).toNatClampNeg) (x4 * ((r3 : Int32).toInt64))) X)
        refine Wp.sub [0, 1, 2, 3] (ls2 := [(0, .ref 331), (1, .int x1), (2, .int x2), (3, .int (x3 + 1))]) rfl ?_
        exact hk_16 _ _ _ _ _ q
      · have c2 : ¬ (x2 ≤ 0) := c2
        rw [if_neg c2] at q
        refine w_lload (Ev.cm _) rfl rfl ?_
        refine w_aload_n (Ev.cm _) rfl rfl ?_
        refine w_getR (q := 343) (Ev.cm _) rfl (Nat.le_of_ble_eq_true rfl) rfl rfl ?_
        refine w_iconst (Ev.cm _) rfl ?_
        refine w_iload_n (Ev.cm _) rfl rfl ?_
        refine w_imul (Ev.cm _) rfl ?_
        refine w_iconst (Ev.cm _) rfl ?_
        refine w_isub (Ev.cm _) rfl ?_
        refine w_iload (Ev.cm _) rfl rfl ?_
        refine w_iadd (Ev.cm _) rfl ?_
        obtain ⟨b5, q⟩ := ois q
        refine w_lald (Ev.cm _) rfl (Nat.le_of_ble_eq_true rfl) rfl (show vp_in ((((3 : Int32) * x2) - 3) + x6) 18 from vpI 18 (by decide) b5.1 b5.2) ?_
        refine w_aload_n (Ev.cm _) rfl rfl ?_
        refine w_iload (Ev.cm _) rfl rfl ?_
        refine w_iload_n (Ev.cm _) rfl rfl ?_
        obtain ⟨⟨r6, I6, L6⟩, e6, q⟩ := obs q
        dsimp only at q
        refine w_cvirt (o := 331) (as := [.int x6, .int x3]) (st := [.long (L 343 (((((3 : Int32) * x2) - 3) + x6).toNatClampNeg)), .long x4]) (Ev.cm _) rfl rfl rfl (Nat.le_of_ble_eq_true rfl) (Nat.le_of_ble_eq_true rfl) rfl (Nat.le_of_ble_eq_true rfl) (eo_M_changeOf (g := ?_) e6)
        show Wp _ _ _ _ _ _ _ 67 [(0, .ref 331), (1, .int x1), (2, .int x2), (3, .int x3), (4, .long x4), (6, .int x6)] [.int r6, .long (L 343 (((((3 : Int32) * x2) - 3) + x6).toNatClampNeg)), .long x4] (HS I6 L6 X)
        refine w_i2l (Ev.cm _) rfl ?_
        refine w_lmul (Ev.cm _) rfl ?_
        refine w_ladd (Ev.cm _) rfl ?_
        refine w_lstore (ls2 := [(0, .ref 331), (1, .int x1), (2, .int x2), (3, .int x3), (4, .long (x4 + ((L 343 (((((3 : Int32) * x2) - 3) + x6).toNatClampNeg)) * ((r6 : Int32).toInt64)))), (6, .int x6)]) (Ev.cm _) rfl rfl ?_
        refine w_iinc (ls2 := [(0, .ref 331), (1, .int x1), (2, .int x2), (3, .int x3), (4, .long (x4 + ((L 343 (((((3 : Int32) * x2) - 3) + x6).toNatClampNeg)) * ((r6 : Int32).toInt64)))), (6, .int (x6 + 1))]) (Ev.cm _) rfl rfl rfl ?_
        refine w_goto (Ev.cm _) rfl ?_
        show Wp _ _ _ _ _ _ _ 35 [(0, .ref 331), (1, .int x1), (2, .int x2), (3, .int x3), (4, .long (x4 + ((L 343 (((((3 : Int32) * x2) - 3) + x6).toNatClampNeg)) * ((r6 : Int32).toInt64)))), (6, .int (x6 + 1))] [] (HS I6 L6 X)
        refine Wp.sub [0, 1, 2, 3, 4, 5] (ls2 := [(0, .ref 331), (1, .int x1), (2, .int x2), (3, .int x3), (4, .long (x4 + ((L 343 (((((3 : Int32) * x2) - 3) + x6).toNatClampNeg)) * ((r6 : Int32).toInt64)))), (6, .int (x6 + 1))]) rfl ?_
        exact ih _ _ _ _ _ _ _ q
def LO_M_layMoods_16 (fu : Nat) (k_9 : Int32 → Int32 → (Nat → Nat → Int32) → (Nat → Nat → Int64) → Option (Unit × (Nat → Nat → Int32) × (Nat → Nat → Int64))) : Nat → Int32 → Int32 → Int32 → (Nat → Nat → Int32) → (Nat → Nat → Int64) → Option (Unit × (Nat → Nat → Int32) × (Nat → Nat → Int64))
  | 0, _, _, _, _, _ => none
  | n + 1, x1, x2, x3, I, L => if 3 ≤ x3 then (k_9 x1 (x2 + 1) I L) else (if x2 = 0 then (LO_M_layMoods_35 fu k_9 (fun x1 x2 x3 I L => LO_M_layMoods_16 fu k_9 n x1 x2 x3 I L) fu x1 x2 x3 1 0 I L) else (LO_M_layMoods_35 fu k_9 (fun x1 x2 x3 I L => LO_M_layMoods_16 fu k_9 n x1 x2 x3 I L) fu x1 x2 x3 0 0 I L))
set_option maxHeartbeats 20000000 in
set_option maxRecDepth 20000 in
theorem lo_M_layMoods_16 {d fu n0 s0 : Nat} {X : Nat × (Nat → Int32)} {Q : PQ} {k_9 : Int32 → Int32 → (Nat → Nat → Int32) → (Nat → Nat → Int64) → Option (Unit × (Nat → Nat → Int32) × (Nat → Nat → Int64))} {res : Unit × (Nat → Nat → Int32) × (Nat → Nat → Int64)}  (g : Q none (HS res.2.1 res.2.2 X)) (hk_9 : ∀ (x1 : Int32) (x2 : Int32) (I : Nat → Nat → Int32) (L : Nat → Nat → Int64), k_9 x1 x2 I L = some res → Wp (Ev (d + 1)) cd_M_layMoods (0, 0) none n0 s0 Q 9 [(0, .ref 331), (1, .int x1), (2, .int x2)] [] (HS I L X)) : ∀ (n : Nat) (x1 : Int32) (x2 : Int32) (x3 : Int32) (I : Nat → Nat → Int32) (L : Nat → Nat → Int64), LO_M_layMoods_16 fu k_9 n x1 x2 x3 I L = some res → Wp (Ev (d + 1)) cd_M_layMoods (0, 0) none n0 s0 Q 16 [(0, .ref 331), (1, .int x1), (2, .int x2), (3, .int x3)] [] (HS I L X) := by
  intro n
  induction n with
  | zero => intro _ _ _ _ _ q; cases q
  | succ n ih =>
    intro x1 x2 x3 I L q
    unfold LO_M_layMoods_16 at q
    refine w_iload_n (Ev.cm _) rfl rfl ?_
    refine w_iconst (Ev.cm _) rfl ?_
    refine w_icmp_ge (Ev.cm _) rfl (fun c1 => ?_) (fun c1 => ?_)
    · have c1 : 3 ≤ x3 := c1
      rw [if_pos c1] at q
      refine w_iinc (ls2 := [(0, .ref 331), (1, .int x1), (2, .int (x2 + 1)), (3, .int x3)]) (Ev.cm _) rfl rfl rfl ?_
      refine w_goto (Ev.cm _) rfl ?_
      show Wp _ _ _ _ _ _ _ 9 [(0, .ref 331), (1, .int x1), (2, .int (x2 + 1)), (3, .int x3)] [] (HS I L X)
      refine Wp.sub [0, 1, 2] (ls2 := [(0, .ref 331), (1, .int x1), (2, .int (x2 + 1))]) rfl ?_
      exact hk_9 _ _ _ _ q
    · have c1 : ¬ (3 ≤ x3) := c1
      rw [if_neg c1] at q
      refine w_iload_n (Ev.cm _) rfl rfl ?_
      refine w_if_ne (Ev.cm _) rfl (fun c2 => ?_) (fun c2 => ?_)
      · have c2 : ¬ (x2 = 0) := c2
        rw [if_neg c2] at q
        refine w_lconst (Ev.cm _) rfl ?_
        refine w_lstore (ls2 := [(0, .ref 331), (1, .int x1), (2, .int x2), (3, .int x3), (4, .long 0)]) (Ev.cm _) rfl rfl ?_
        refine w_iconst (Ev.cm _) rfl ?_
        refine w_istore (ls2 := [(0, .ref 331), (1, .int x1), (2, .int x2), (3, .int x3), (4, .long 0), (6, .int 0)]) (Ev.cm _) rfl rfl ?_
        show Wp _ _ _ _ _ _ _ 35 [(0, .ref 331), (1, .int x1), (2, .int x2), (3, .int x3), (4, .long 0), (6, .int 0)] [] (HS I L X)
        refine Wp.sub [0, 1, 2, 3, 4, 5] (ls2 := [(0, .ref 331), (1, .int x1), (2, .int x2), (3, .int x3), (4, .long 0), (6, .int 0)]) rfl ?_
        exact lo_M_layMoods_35 g hk_9 (fun x1 x2 x3 I L q => ih x1 x2 x3 I L q) fu _ _ _ _ _ _ _ q
      · have c2 : x2 = 0 := c2
        rw [if_pos c2] at q
        refine w_lconst (Ev.cm _) rfl ?_
        refine w_goto (Ev.cm _) rfl ?_
        refine w_lstore (ls2 := [(0, .ref 331), (1, .int x1), (2, .int x2), (3, .int x3), (4, .long 1)]) (Ev.cm _) rfl rfl ?_
        refine w_iconst (Ev.cm _) rfl ?_
        refine w_istore (ls2 := [(0, .ref 331), (1, .int x1), (2, .int x2), (3, .int x3), (4, .long 1), (6, .int 0)]) (Ev.cm _) rfl rfl ?_
        show Wp _ _ _ _ _ _ _ 35 [(0, .ref 331), (1, .int x1), (2, .int x2), (3, .int x3), (4, .long 1), (6, .int 0)] [] (HS I L X)
        refine Wp.sub [0, 1, 2, 3, 4, 5] (ls2 := [(0, .ref 331), (1, .int x1), (2, .int x2), (3, .int x3), (4, .long 1), (6, .int 0)]) rfl ?_
        exact lo_M_layMoods_35 g hk_9 (fun x1 x2 x3 I L q => ih x1 x2 x3 I L q) fu _ _ _ _ _ _ _ q
def LO_M_layMoods_9 (fu : Nat) : Nat → Int32 → Int32 → (Nat → Nat → Int32) → (Nat → Nat → Int64) → Option (Unit × (Nat → Nat → Int32) × (Nat → Nat → Int64))
  | 0, _, _, _, _ => none
  | n + 1, x1, x2, I, L => if x1 ≤ x2 then (LO_M_layMoods_114 fu fu x1 (x1 - 1) I L) else (LO_M_layMoods_16 fu (fun x1 x2 I L => LO_M_layMoods_9 fu n x1 x2 I L) fu x1 x2 0 I L)
set_option maxHeartbeats 20000000 in
set_option maxRecDepth 20000 in
theorem lo_M_layMoods_9 {d fu n0 s0 : Nat} {X : Nat × (Nat → Int32)} {Q : PQ} {res : Unit × (Nat → Nat → Int32) × (Nat → Nat → Int64)}  (g : Q none (HS res.2.1 res.2.2 X)) : ∀ (n : Nat) (x1 : Int32) (x2 : Int32) (I : Nat → Nat → Int32) (L : Nat → Nat → Int64), LO_M_layMoods_9 fu n x1 x2 I L = some res → Wp (Ev (d + 1)) cd_M_layMoods (0, 0) none n0 s0 Q 9 [(0, .ref 331), (1, .int x1), (2, .int x2)] [] (HS I L X) := by
  intro n
  induction n with
  | zero => intro _ _ _ _ q; cases q
  | succ n ih =>
    intro x1 x2 I L q
    unfold LO_M_layMoods_9 at q
    refine w_iload_n (Ev.cm _) rfl rfl ?_
    refine w_iload_n (Ev.cm _) rfl rfl ?_
    refine w_icmp_ge (Ev.cm _) rfl (fun c1 => ?_) (fun c1 => ?_)
    · have c1 : x1 ≤ x2 := c1
      rw [if_pos c1] at q
      refine w_iload_n (Ev.cm _) rfl rfl ?_
      refine w_iconst (Ev.cm _) rfl ?_
      refine w_isub (Ev.cm _) rfl ?_
      refine w_istore_n (ls2 := [(0, .ref 331), (1, .int x1), (2, .int (x1 - 1))]) (Ev.cm _) rfl rfl ?_
      show Wp _ _ _ _ _ _ _ 114 [(0, .ref 331), (1, .int x1), (2, .int (x1 - 1))] [] (HS I L X)
      refine Wp.sub [0, 1, 2] (ls2 := [(0, .ref 331), (1, .int x1), (2, .int (x1 - 1))]) rfl ?_
      exact lo_M_layMoods_114 g fu _ _ _ _ q
    · have c1 : ¬ (x1 ≤ x2) := c1
      rw [if_neg c1] at q
      refine w_iconst (Ev.cm _) rfl ?_
      refine w_istore_n (ls2 := [(0, .ref 331), (1, .int x1), (2, .int x2), (3, .int 0)]) (Ev.cm _) rfl rfl ?_
      show Wp _ _ _ _ _ _ _ 16 [(0, .ref 331), (1, .int x1), (2, .int x2), (3, .int 0)] [] (HS I L X)
      refine Wp.sub [0, 1, 2, 3] (ls2 := [(0, .ref 331), (1, .int x1), (2, .int x2), (3, .int 0)]) rfl ?_
      exact lo_M_layMoods_16 g (fun x1 x2 I L q => ih x1 x2 I L q) fu _ _ _ _ _ q
def FO_M_layMoods (fu : Nat) (I : Nat → Nat → Int32) (L : Nat → Nat → Int64) : Option (Unit × (Nat → Nat → Int32) × (Nat → Nat → Int64)) := LO_M_layMoods_9 fu fu (I 332 4) 0 I L
set_option maxHeartbeats 20000000 in
set_option maxRecDepth 20000 in
theorem eo_M_layMoods {d fu : Nat} {I : Nat → Nat → Int32} {L : Nat → Nat → Int64} {X : Nat × (Nat → Int32)} {Q : PQ} {res : Unit × (Nat → Nat → Int32) × (Nat → Nat → Int64)}  (g : Q none (HS res.2.1 res.2.2 X)) (q : FO_M_layMoods fu  I L = some res) : Ev (d + 2) m_M_layMoods [.ref 331] (HS I L X) Q := by
  unfold FO_M_layMoods at q
  refine ev_start (d := d + 1) rfl rfl rfl (Nat.le_of_ble_eq_true rfl) ?_
  show Wp (Ev (d + 1)) cd_M_layMoods (0, 0) none _ _ Q 0 [(0, .ref 331)] [] (HS I L X)
  refine w_aload_n (Ev.cm _) rfl rfl ?_
  refine w_getR (q := 332) (Ev.cm _) rfl (Nat.le_of_ble_eq_true rfl) rfl rfl ?_
  refine w_iconst (Ev.cm _) rfl ?_
  refine w_iald (Ev.cm _) rfl (Nat.le_of_ble_eq_true rfl) rfl (show vp_in 4 1541 from vpI 1541 (by decide) (by decide) (by decide)) ?_
  refine w_istore_n (ls2 := [(0, .ref 331), (1, .int (I 332 4))]) (Ev.cm _) rfl rfl ?_
  refine w_iconst (Ev.cm _) rfl ?_
  refine w_istore_n (ls2 := [(0, .ref 331), (1, .int (I 332 4)), (2, .int 0)]) (Ev.cm _) rfl rfl ?_
  show Wp _ _ _ _ _ _ _ 9 [(0, .ref 331), (1, .int (I 332 4)), (2, .int 0)] [] (HS I L X)
  refine Wp.sub [0, 1, 2] (ls2 := [(0, .ref 331), (1, .int (I 332 4)), (2, .int 0)]) rfl ?_
  exact lo_M_layMoods_9 g fu _ _ _ _ q
def LO_M_allRows_19 (fu : Nat) : Nat → Int64 → Int32 → (Nat → Nat → Int32) → (Nat → Nat → Int64) → Option (Int64 × (Nat → Nat → Int32) × (Nat → Nat → Int64))
  | 0, _, _, _, _ => none
  | n + 1, x1, x3, I, L => if 3 ≤ x3 then (some (x1, I, L)) else (if 0 ≤ x3 ∧ x3 < 18 then (if 0 ≤ x3 ∧ x3 < 18 then (LO_M_allRows_19 fu n (x1 + ((L 343 x3.toNatClampNeg) * (L 344 x3.toNatClampNeg))) (x3 + 1) I L) else none) else none)
set_option maxHeartbeats 20000000 in
set_option maxRecDepth 20000 in
theorem lo_M_allRows_19 {d fu n0 s0 : Nat} {X : Nat × (Nat → Int32)} {Q : PQ} {res : Int64 × (Nat → Nat → Int32) × (Nat → Nat → Int64)}  (g : Q (some (.long res.1)) (HS res.2.1 res.2.2 X)) : ∀ (n : Nat) (x1 : Int64) (x3 : Int32) (I : Nat → Nat → Int32) (L : Nat → Nat → Int64), LO_M_allRows_19 fu n x1 x3 I L = some res → Wp (Ev (d + 2)) cd_M_allRows (0, 0) (some .long) n0 s0 Q 19 [(0, .ref 331), (1, .long x1), (3, .int x3)] [] (HS I L X) := by
  intro n
  induction n with
  | zero => intro _ _ _ _ q; cases q
  | succ n ih =>
    intro x1 x3 I L q
    unfold LO_M_allRows_19 at q
    refine w_iload_n (Ev.cm _) rfl rfl ?_
    refine w_iconst (Ev.cm _) rfl ?_
    refine w_icmp_ge (Ev.cm _) rfl (fun c1 => ?_) (fun c1 => ?_)
    · have c1 : 3 ≤ x3 := c1
      rw [if_pos c1] at q
      refine w_lload_n (Ev.cm _) rfl rfl ?_
      refine w_lreturn (Ev.cm _) rfl rfl rf0 ?_
      cases q
      exact g
    · have c1 : ¬ (3 ≤ x3) := c1
      rw [if_neg c1] at q
      refine w_lload_n (Ev.cm _) rfl rfl ?_
      refine w_aload_n (Ev.cm _) rfl rfl ?_
      refine w_getR (q := 343) (Ev.cm _) rfl (Nat.le_of_ble_eq_true rfl) rfl rfl ?_
      refine w_iload_n (Ev.cm _) rfl rfl ?_
      obtain ⟨b1, q⟩ := ois q
      refine w_lald (Ev.cm _) rfl (Nat.le_of_ble_eq_true rfl) rfl (show vp_in x3 18 from vpI 18 (by decide) b1.1 b1.2) ?_
      refine w_aload_n (Ev.cm _) rfl rfl ?_
      refine w_getR (q := 344) (Ev.cm _) rfl (Nat.le_of_ble_eq_true rfl) rfl rfl ?_
      refine w_iload_n (Ev.cm _) rfl rfl ?_
      obtain ⟨b2, q⟩ := ois q
      refine w_lald (Ev.cm _) rfl (Nat.le_of_ble_eq_true rfl) rfl (show vp_in x3 18 from vpI 18 (by decide) b2.1 b2.2) ?_
      refine w_lmul (Ev.cm _) rfl ?_
      refine w_ladd (Ev.cm _) rfl ?_
      refine w_lstore_n (ls2 := [(0, .ref 331), (1, .long (x1 + ((L 343 x3.toNatClampNeg) * (L 344 x3.toNatClampNeg)))), (3, .int x3)]) (Ev.cm _) rfl rfl ?_
      refine w_iinc (ls2 := [(0, .ref 331), (1, .long (x1 + ((L 343 x3.toNatClampNeg) * (L 344 x3.toNatClampNeg)))), (3, .int (x3 + 1))]) (Ev.cm _) rfl rfl rfl ?_
      refine w_goto (Ev.cm _) rfl ?_
      show Wp _ _ _ _ _ _ _ 19 [(0, .ref 331), (1, .long (x1 + ((L 343 x3.toNatClampNeg) * (L 344 x3.toNatClampNeg)))), (3, .int (x3 + 1))] [] (HS I L X)
      refine Wp.sub [0, 1, 2] (ls2 := [(0, .ref 331), (1, .long (x1 + ((L 343 x3.toNatClampNeg) * (L 344 x3.toNatClampNeg)))), (3, .int (x3 + 1))]) rfl ?_
      exact ih _ _ _ _ q
def FO_M_allRows (fu : Nat) (I : Nat → Nat → Int32) (L : Nat → Nat → Int64) : Option (Int64 × (Nat → Nat → Int32) × (Nat → Nat → Int64)) := (FO_M_layMoods fu  I L).bind (fun u1 => let r1 := u1.1; let I1 := u1.2.1; let L1 := u1.2.2; if I1 332 4 = 0 then (some (1, I1, L1)) else (LO_M_allRows_19 fu fu 0 0 I1 L1))
set_option maxHeartbeats 20000000 in
set_option maxRecDepth 20000 in
theorem eo_M_allRows {d fu : Nat} {I : Nat → Nat → Int32} {L : Nat → Nat → Int64} {X : Nat × (Nat → Int32)} {Q : PQ} {res : Int64 × (Nat → Nat → Int32) × (Nat → Nat → Int64)}  (g : Q (some (.long res.1)) (HS res.2.1 res.2.2 X)) (q : FO_M_allRows fu  I L = some res) : Ev (d + 3) m_M_allRows [.ref 331] (HS I L X) Q := by
  unfold FO_M_allRows at q
  refine ev_start (d := d + 2) rfl rfl rfl (Nat.le_of_ble_eq_true rfl) ?_
  show Wp (Ev (d + 2)) cd_M_allRows (0, 0) (some .long) _ _ Q 0 [(0, .ref 331)] [] (HS I L X)
  refine w_aload_n (Ev.cm _) rfl rfl ?_
  obtain ⟨⟨r1, I1, L1⟩, e1, q⟩ := obs q
  dsimp only at q
  refine w_cvirt (o := 331) (as := []) (st := []) (Ev.cm _) rfl rfl rfl (Nat.le_of_ble_eq_true rfl) (Nat.le_of_ble_eq_true rfl) rfl (Nat.le_of_ble_eq_true rfl) (eo_M_layMoods (g := ?_) e1)
  show Wp _ _ _ _ _ _ _ 4 [(0, .ref 331)] [] (HS I1 L1 X)
  refine w_aload_n (Ev.cm _) rfl rfl ?_
  refine w_getR (q := 332) (Ev.cm _) rfl (Nat.le_of_ble_eq_true rfl) rfl rfl ?_
  refine w_iconst (Ev.cm _) rfl ?_
  refine w_iald (Ev.cm _) rfl (Nat.le_of_ble_eq_true rfl) rfl (show vp_in 4 1541 from vpI 1541 (by decide) (by decide) (by decide)) ?_
  refine w_if_ne (Ev.cm _) rfl (fun c1 => ?_) (fun c1 => ?_)
  · have c1 : ¬ (I1 332 4 = 0) := c1
    rw [if_neg c1] at q
    refine w_lconst (Ev.cm _) rfl ?_
    refine w_lstore_n (ls2 := [(0, .ref 331), (1, .long 0)]) (Ev.cm _) rfl rfl ?_
    refine w_iconst (Ev.cm _) rfl ?_
    refine w_istore_n (ls2 := [(0, .ref 331), (1, .long 0), (3, .int 0)]) (Ev.cm _) rfl rfl ?_
    show Wp _ _ _ _ _ _ _ 19 [(0, .ref 331), (1, .long 0), (3, .int 0)] [] (HS I1 L1 X)
    refine Wp.sub [0, 1, 2] (ls2 := [(0, .ref 331), (1, .long 0), (3, .int 0)]) rfl ?_
    exact lo_M_allRows_19 g fu _ _ _ _ q
  · have c1 : I1 332 4 = 0 := c1
    rw [if_pos c1] at q
    refine w_lconst (Ev.cm _) rfl ?_
    refine w_lreturn (Ev.cm _) rfl rfl rf0 ?_
    cases q
    exact g
def FO_M_weighed (fu : Nat) (I : Nat → Nat → Int32) (L : Nat → Nat → Int64) : Option (Int64 × (Nat → Nat → Int32) × (Nat → Nat → Int64)) := (FO_M_allRows fu  I L).bind (fun u1 => let r1 := u1.1; let I1 := u1.2.1; let L1 := u1.2.2; some (r1, I1, L1))
set_option maxHeartbeats 20000000 in
set_option maxRecDepth 20000 in
theorem eo_M_weighed {d fu : Nat} {I : Nat → Nat → Int32} {L : Nat → Nat → Int64} {X : Nat × (Nat → Int32)} {Q : PQ} {res : Int64 × (Nat → Nat → Int32) × (Nat → Nat → Int64)}  (g : Q (some (.long res.1)) (HS res.2.1 res.2.2 X)) (q : FO_M_weighed fu  I L = some res) : Ev (d + 4) m_M_weighed [.ref 331] (HS I L X) Q := by
  unfold FO_M_weighed at q
  refine ev_start (d := d + 3) rfl rfl rfl (Nat.le_of_ble_eq_true rfl) ?_
  show Wp (Ev (d + 3)) cd_M_weighed (0, 0) (some .long) _ _ Q 0 [(0, .ref 331)] [] (HS I L X)
  refine w_aload_n (Ev.cm _) rfl rfl ?_
  obtain ⟨⟨r1, I1, L1⟩, e1, q⟩ := obs q
  dsimp only at q
  refine w_cvirt (o := 331) (as := []) (st := []) (Ev.cm _) rfl rfl rfl (Nat.le_of_ble_eq_true rfl) (Nat.le_of_ble_eq_true rfl) rfl (Nat.le_of_ble_eq_true rfl) (eo_M_allRows (g := ?_) e1)
  show Wp _ _ _ _ _ _ _ 4 [(0, .ref 331)] [.long r1] (HS I1 L1 X)
  refine w_lreturn (Ev.cm _) rfl rfl rf0 ?_
  cases q
  exact g
def LO_M_divisor_6 (fu : Nat) : Nat → Int64 → Int64 → Int64 → Int64 → (Nat → Nat → Int32) → (Nat → Nat → Int64) → Option (Int64 × (Nat → Nat → Int32) × (Nat → Nat → Int64))
  | 0, _, _, _, _, _, _ => none
  | n + 1, x0, x2, x4, x6, I, L => if lg_cmp x6 0 = 0 then (some (x4, I, L)) else (if ¬ x6 = 0 then (LO_M_divisor_6 fu n x0 x2 x6 (lR x4 x6) I L) else none)
set_option maxHeartbeats 20000000 in
set_option maxRecDepth 20000 in
theorem lo_M_divisor_6 {d fu n0 s0 : Nat} {X : Nat × (Nat → Int32)} {Q : PQ} {res : Int64 × (Nat → Nat → Int32) × (Nat → Nat → Int64)}  (g : Q (some (.long res.1)) (HS res.2.1 res.2.2 X)) : ∀ (n : Nat) (x0 : Int64) (x2 : Int64) (x4 : Int64) (x6 : Int64) (I : Nat → Nat → Int32) (L : Nat → Nat → Int64), LO_M_divisor_6 fu n x0 x2 x4 x6 I L = some res → Wp (Ev (d + 0)) cd_M_divisor (0, 0) (some .long) n0 s0 Q 6 [(0, .long x0), (2, .long x2), (4, .long x4), (6, .long x6)] [] (HS I L X) := by
  intro n
  induction n with
  | zero => intro _ _ _ _ _ _ q; cases q
  | succ n ih =>
    intro x0 x2 x4 x6 I L q
    unfold LO_M_divisor_6 at q
    refine w_lload (Ev.cm _) rfl rfl ?_
    refine w_lconst (Ev.cm _) rfl ?_
    refine w_lcmp (Ev.cm _) rfl ?_
    refine w_if_eq (Ev.cm _) rfl (fun c1 => ?_) (fun c1 => ?_)
    · have c1 : lg_cmp x6 0 = 0 := c1
      rw [if_pos c1] at q
      refine w_lload (Ev.cm _) rfl rfl ?_
      refine w_lreturn (Ev.cm _) rfl rfl rf0 ?_
      cases q
      exact g
    · have c1 : ¬ (lg_cmp x6 0 = 0) := c1
      rw [if_neg c1] at q
      refine w_lload (Ev.cm _) rfl rfl ?_
      refine w_lload (Ev.cm _) rfl rfl ?_
      obtain ⟨b1, q⟩ := ois q
      refine w_lrem (Ev.cm _) rfl b1 ?_
      refine w_lstore (ls2 := [(0, .long x0), (2, .long x2), (4, .long x4), (6, .long x6), (8, .long (lR x4 x6))]) (Ev.cm _) rfl rfl ?_
      refine w_lload (Ev.cm _) rfl rfl ?_
      refine w_lstore (ls2 := [(0, .long x0), (2, .long x2), (4, .long x6), (6, .long x6), (8, .long (lR x4 x6))]) (Ev.cm _) rfl rfl ?_
      refine w_lload (Ev.cm _) rfl rfl ?_
      refine w_lstore (ls2 := [(0, .long x0), (2, .long x2), (4, .long x6), (6, .long (lR x4 x6)), (8, .long (lR x4 x6))]) (Ev.cm _) rfl rfl ?_
      refine w_goto (Ev.cm _) rfl ?_
      show Wp _ _ _ _ _ _ _ 6 [(0, .long x0), (2, .long x2), (4, .long x6), (6, .long (lR x4 x6)), (8, .long (lR x4 x6))] [] (HS I L X)
      refine Wp.sub [0, 1, 2, 3] (ls2 := [(0, .long x0), (2, .long x2), (4, .long x6), (6, .long (lR x4 x6))]) rfl ?_
      exact ih _ _ _ _ _ _ q
def FO_M_divisor (fu : Nat) (p0 : Int64) (p1 : Int64) (I : Nat → Nat → Int32) (L : Nat → Nat → Int64) : Option (Int64 × (Nat → Nat → Int32) × (Nat → Nat → Int64)) := LO_M_divisor_6 fu fu p0 p1 p0 p1 I L
set_option maxHeartbeats 20000000 in
set_option maxRecDepth 20000 in
theorem eo_M_divisor {d fu : Nat} {p0 : Int64} {p1 : Int64} {I : Nat → Nat → Int32} {L : Nat → Nat → Int64} {X : Nat × (Nat → Int32)} {Q : PQ} {res : Int64 × (Nat → Nat → Int32) × (Nat → Nat → Int64)}  (g : Q (some (.long res.1)) (HS res.2.1 res.2.2 X)) (q : FO_M_divisor fu p0 p1 I L = some res) : Ev (d + 1) m_M_divisor [.long p0, .long p1] (HS I L X) Q := by
  unfold FO_M_divisor at q
  refine ev_start (d := d + 0) rfl rfl rfl (Nat.le_of_ble_eq_true rfl) ?_
  show Wp (Ev (d + 0)) cd_M_divisor (0, 0) (some .long) _ _ Q 0 [(0, .long p0), (2, .long p1)] [] (HS I L X)
  refine w_lload_n (Ev.cm _) rfl rfl ?_
  refine w_lstore (ls2 := [(0, .long p0), (2, .long p1), (4, .long p0)]) (Ev.cm _) rfl rfl ?_
  refine w_lload_n (Ev.cm _) rfl rfl ?_
  refine w_lstore (ls2 := [(0, .long p0), (2, .long p1), (4, .long p0), (6, .long p1)]) (Ev.cm _) rfl rfl ?_
  show Wp _ _ _ _ _ _ _ 6 [(0, .long p0), (2, .long p1), (4, .long p0), (6, .long p1)] [] (HS I L X)
  refine Wp.sub [0, 1, 2, 3] (ls2 := [(0, .long p0), (2, .long p1), (4, .long p0), (6, .long p1)]) rfl ?_
  exact lo_M_divisor_6 g fu _ _ _ _ _ _ q
def FO_M_isSound (fu : Nat) (p0 : Int32) (I : Nat → Nat → Int32) (L : Nat → Nat → Int64) : Option (Int32 × (Nat → Nat → Int32) × (Nat → Nat → Int64)) := some (bI ((0 : Int32) ≤ p0 ∧ p0 ≤ ((I 332 4) - 1)), I, L)
set_option maxHeartbeats 20000000 in
set_option maxRecDepth 20000 in
theorem eo_M_isSound {d fu : Nat} {p0 : Int32} {I : Nat → Nat → Int32} {L : Nat → Nat → Int64} {X : Nat × (Nat → Int32)} {Q : PQ} {res : Int32 × (Nat → Nat → Int32) × (Nat → Nat → Int64)}  (g : Q (some (.int res.1)) (HS res.2.1 res.2.2 X)) (q : FO_M_isSound fu p0 I L = some res) : Ev (d + 2) m_M_isSound [.ref 331, .int p0] (HS I L X) Q := by
  unfold FO_M_isSound at q
  refine ev_start (d := d + 1) rfl rfl rfl (Nat.le_of_ble_eq_true rfl) ?_
  show Wp (Ev (d + 1)) cd_M_isSound (0, 0) (some .boolean) _ _ Q 0 [(0, .ref 331), (1, .int p0)] [] (HS I L X)
  refine w_iload_n (Ev.cm _) rfl rfl ?_
  refine w_iconst (Ev.cm _) rfl ?_
  refine w_aload_n (Ev.cm _) rfl rfl ?_
  refine w_getR (q := 332) (Ev.cm _) rfl (Nat.le_of_ble_eq_true rfl) rfl rfl ?_
  refine w_iconst (Ev.cm _) rfl ?_
  refine w_iald (Ev.cm _) rfl (Nat.le_of_ble_eq_true rfl) rfl (show vp_in 4 1541 from vpI 1541 (by decide) (by decide) (by decide)) ?_
  refine w_iconst (Ev.cm _) rfl ?_
  refine w_isub (Ev.cm _) rfl ?_
  refine w_cstat (as := [.int p0, .int 0, .int ((I 332 4) - 1)]) (st := []) (Ev.cm _) rfl rfl rfl (Nat.le_of_ble_eq_true rfl) (Nat.le_of_ble_eq_true rfl) (m_isIn ?_)
  show Wp _ _ _ _ _ _ _ 13 [(0, .ref 331), (1, .int p0)] [.int (bI ((0 : Int32) ≤ p0 ∧ p0 ≤ ((I 332 4) - 1)))] (HS I L X)
  refine w_ireturn (Ev.cm _) rfl (by first | exact rok_0 | exact rok_1 | exact rok_b) rf0 ?_
  cases q
  exact g
def FO_M_mood (fu : Nat) (p0 : Int32) (p1 : Int32) (p2 : Int32) (I : Nat → Nat → Int32) (L : Nat → Nat → Int64) : Option (Int64 × (Nat → Nat → Int32) × (Nat → Nat → Int64)) := (FO_M_isSound fu p0 I L).bind (fun u1 => let r1 := u1.1; let I1 := u1.2.1; let L1 := u1.2.2; if r1 = 0 then (some ((-1), I1, L1)) else (if 0 ≤ p1 ∧ p1 ≤ 2 then ((FO_M_allRows fu  I1 L1).bind (fun u2 => let r2 := u2.1; let I2 := u2.2.1; let L2 := u2.2.2; if lg_cmp r2 0 = 0 then (some ((-1), I2, L2)) else ((FO_M_allRows fu  I2 L2).bind (fun u3 => let r3 := u3.1; let I3 := u3.2.1; let L3 := u3.2.2; if 0 ≤ ((3 : Int32) * p0) + p1 ∧ ((3 : Int32) * p0) + p1 < 18 then (if 0 ≤ ((3 : Int32) * p0) + p1 ∧ ((3 : Int32) * p0) + p1 < 18 then (if p2 = 0 then ((FO_M_divisor fu ((L3 343 ((((3 : Int32) * p0) + p1).toNatClampNeg)) * (L3 344 ((((3 : Int32) * p0) + p1).toNatClampNeg))) r3 I3 L3).bind (fun u6 => let r6 := u6.1; let I6 := u6.2.1; let L6 := u6.2.2; if ¬ r6 = 0 then (some (((L3 343 ((((3 : Int32) * p0) + p1).toNatClampNeg)) * (L3 344 ((((3 : Int32) * p0) + p1).toNatClampNeg))) / r6, I6, L6)) else none)) else ((FO_M_divisor fu ((L3 343 ((((3 : Int32) * p0) + p1).toNatClampNeg)) * (L3 344 ((((3 : Int32) * p0) + p1).toNatClampNeg))) r3 I3 L3).bind (fun u8 => let r8 := u8.1; let I8 := u8.2.1; let L8 := u8.2.2; if ¬ r8 = 0 then (some (r3 / r8, I8, L8)) else none))) else none) else none)))) else (some ((-1), I1, L1))))
set_option maxHeartbeats 20000000 in
set_option maxRecDepth 20000 in
theorem eo_M_mood {d fu : Nat} {p0 : Int32} {p1 : Int32} {p2 : Int32} {I : Nat → Nat → Int32} {L : Nat → Nat → Int64} {X : Nat × (Nat → Int32)} {Q : PQ} {res : Int64 × (Nat → Nat → Int32) × (Nat → Nat → Int64)}  (g : Q (some (.long res.1)) (HS res.2.1 res.2.2 X)) (q : FO_M_mood fu p0 p1 p2 I L = some res) : Ev (d + 4) m_M_mood [.ref 331, .int p0, .int p1, .int p2] (HS I L X) Q := by
  unfold FO_M_mood at q
  refine ev_start (d := d + 3) rfl rfl rfl (Nat.le_of_ble_eq_true rfl) ?_
  show Wp (Ev (d + 3)) cd_M_mood (0, 0) (some .long) _ _ Q 0 [(0, .ref 331), (1, .int p0), (2, .int p1), (3, .int p2)] [] (HS I L X)
  refine w_aload_n (Ev.cm _) rfl rfl ?_
  refine w_iload_n (Ev.cm _) rfl rfl ?_
  obtain ⟨⟨r1, I1, L1⟩, e1, q⟩ := obs q
  dsimp only at q
  refine w_cvirt (o := 331) (as := [.int p0]) (st := []) (Ev.cm _) rfl rfl rfl (Nat.le_of_ble_eq_true rfl) (Nat.le_of_ble_eq_true rfl) rfl (Nat.le_of_ble_eq_true rfl) (eo_M_isSound (g := ?_) e1)
  show Wp _ _ _ _ _ _ _ 5 [(0, .ref 331), (1, .int p0), (2, .int p1), (3, .int p2)] [.int r1] (HS I1 L1 X)
  refine w_if_eq (Ev.cm _) rfl (fun c1 => ?_) (fun c1 => ?_)
  · have c1 : r1 = 0 := c1
    rw [if_pos c1] at q
    refine w_ldc2_w (Ev.cm _) rfl ?_
    refine w_lreturn (Ev.cm _) rfl rfl rf0 ?_
    cases q
    exact g
  · have c1 : ¬ (r1 = 0) := c1
    rw [if_neg c1] at q
    refine w_iload_n (Ev.cm _) rfl rfl ?_
    refine w_cstat (as := [.int p1]) (st := []) (Ev.cm _) rfl rfl rfl (Nat.le_of_ble_eq_true rfl) (Nat.le_of_ble_eq_true rfl) (m_isThree ?_)
    show Wp _ _ _ _ _ _ _ 12 [(0, .ref 331), (1, .int p0), (2, .int p1), (3, .int p2)] [.int (bI (0 ≤ p1 ∧ p1 ≤ 2))] (HS I1 L1 X)
    refine w_if_eq (Ev.cm _) rfl (fun c2 => ?_) (fun c2 => ?_)
    · have c2 : ¬ (0 ≤ p1 ∧ p1 ≤ 2) := bI_0.mp c2
      rw [if_neg c2] at q
      refine w_ldc2_w (Ev.cm _) rfl ?_
      refine w_lreturn (Ev.cm _) rfl rfl rf0 ?_
      cases q
      exact g
    · have c2 : 0 ≤ p1 ∧ p1 ≤ 2 := bI_1.mp c2
      rw [if_pos c2] at q
      refine w_aload_n (Ev.cm _) rfl rfl ?_
      obtain ⟨⟨r2, I2, L2⟩, e2, q⟩ := obs q
      dsimp only at q
      refine w_cvirt (o := 331) (as := []) (st := []) (Ev.cm _) rfl rfl rfl (Nat.le_of_ble_eq_true rfl) (Nat.le_of_ble_eq_true rfl) rfl (Nat.le_of_ble_eq_true rfl) (eo_M_allRows (g := ?_) e2)
      show Wp _ _ _ _ _ _ _ 19 [(0, .ref 331), (1, .int p0), (2, .int p1), (3, .int p2)] [.long r2] (HS I2 L2 X)
      refine w_lconst (Ev.cm _) rfl ?_
      refine w_lcmp (Ev.cm _) rfl ?_
      refine w_if_ne (Ev.cm _) rfl (fun c3 => ?_) (fun c3 => ?_)
      · have c3 : ¬ (lg_cmp r2 0 = 0) := c3
        rw [if_neg c3] at q
        refine w_aload_n (Ev.cm _) rfl rfl ?_
        obtain ⟨⟨r3, I3, L3⟩, e3, q⟩ := obs q
        dsimp only at q
        refine w_cvirt (o := 331) (as := []) (st := []) (Ev.cm _) rfl rfl rfl (Nat.le_of_ble_eq_true rfl) (Nat.le_of_ble_eq_true rfl) rfl (Nat.le_of_ble_eq_true rfl) (eo_M_allRows (g := ?_) e3)
        show Wp _ _ _ _ _ _ _ 32 [(0, .ref 331), (1, .int p0), (2, .int p1), (3, .int p2)] [.long r3] (HS I3 L3 X)
        refine w_lstore (ls2 := [(0, .ref 331), (1, .int p0), (2, .int p1), (3, .int p2), (4, .long r3)]) (Ev.cm _) rfl rfl ?_
        refine w_aload_n (Ev.cm _) rfl rfl ?_
        refine w_getR (q := 343) (Ev.cm _) rfl (Nat.le_of_ble_eq_true rfl) rfl rfl ?_
        refine w_iconst (Ev.cm _) rfl ?_
        refine w_iload_n (Ev.cm _) rfl rfl ?_
        refine w_imul (Ev.cm _) rfl ?_
        refine w_iload_n (Ev.cm _) rfl rfl ?_
        refine w_iadd (Ev.cm _) rfl ?_
        obtain ⟨b4, q⟩ := ois q
        refine w_lald (Ev.cm _) rfl (Nat.le_of_ble_eq_true rfl) rfl (show vp_in (((3 : Int32) * p0) + p1) 18 from vpI 18 (by decide) b4.1 b4.2) ?_
        refine w_aload_n (Ev.cm _) rfl rfl ?_
        refine w_getR (q := 344) (Ev.cm _) rfl (Nat.le_of_ble_eq_true rfl) rfl rfl ?_
        refine w_iconst (Ev.cm _) rfl ?_
        refine w_iload_n (Ev.cm _) rfl rfl ?_
        refine w_imul (Ev.cm _) rfl ?_
        refine w_iload_n (Ev.cm _) rfl rfl ?_
        refine w_iadd (Ev.cm _) rfl ?_
        obtain ⟨b5, q⟩ := ois q
        refine w_lald (Ev.cm _) rfl (Nat.le_of_ble_eq_true rfl) rfl (show vp_in (((3 : Int32) * p0) + p1) 18 from vpI 18 (by decide) b5.1 b5.2) ?_
        refine w_lmul (Ev.cm _) rfl ?_
        refine w_lstore (ls2 := [(0, .ref 331), (1, .int p0), (2, .int p1), (3, .int p2), (4, .long r3), (6, .long ((L3 343 ((((3 : Int32) * p0) + p1).toNatClampNeg)) * (L3 344 ((((3 : Int32) * p0) + p1).toNatClampNeg))))]) (Ev.cm _) rfl rfl ?_
        refine w_iload_n (Ev.cm _) rfl rfl ?_
        refine w_if_eq (Ev.cm _) rfl (fun c4 => ?_) (fun c4 => ?_)
        · have c4 : p2 = 0 := c4
          rw [if_pos c4] at q
          refine w_lload (Ev.cm _) rfl rfl ?_
          refine w_lload (Ev.cm _) rfl rfl ?_
          refine w_lload (Ev.cm _) rfl rfl ?_
          obtain ⟨⟨r6, I6, L6⟩, e6, q⟩ := obs q
          dsimp only at q
          refine w_cstat (as := [.long ((L3 343 ((((3 : Int32) * p0) + p1).toNatClampNeg)) * (L3 344 ((((3 : Int32) * p0) + p1).toNatClampNeg))), .long r3]) (st := [.long ((L3 343 ((((3 : Int32) * p0) + p1).toNatClampNeg)) * (L3 344 ((((3 : Int32) * p0) + p1).toNatClampNeg)))]) (Ev.cm _) rfl rfl rfl (Nat.le_of_ble_eq_true rfl) (Nat.le_of_ble_eq_true rfl) (eo_M_divisor (g := ?_) e6)
          show Wp _ _ _ _ _ _ _ 75 [(0, .ref 331), (1, .int p0), (2, .int p1), (3, .int p2), (4, .long r3), (6, .long ((L3 343 ((((3 : Int32) * p0) + p1).toNatClampNeg)) * (L3 344 ((((3 : Int32) * p0) + p1).toNatClampNeg))))] [.long r6, .long ((L3 343 ((((3 : Int32) * p0) + p1).toNatClampNeg)) * (L3 344 ((((3 : Int32) * p0) + p1).toNatClampNeg)))] (HS I6 L6 X)
          obtain ⟨b7, q⟩ := ois q
          refine w_ldiv (Ev.cm _) rfl b7 ?_
          refine w_lreturn (Ev.cm _) rfl rfl rf0 ?_
          cases q
          exact g
        · have c4 : ¬ (p2 = 0) := c4
          rw [if_neg c4] at q
          refine w_lload (Ev.cm _) rfl rfl ?_
          refine w_goto (Ev.cm _) rfl ?_
          refine w_lload (Ev.cm _) rfl rfl ?_
          refine w_lload (Ev.cm _) rfl rfl ?_
          obtain ⟨⟨r8, I8, L8⟩, e8, q⟩ := obs q
          dsimp only at q
          refine w_cstat (as := [.long ((L3 343 ((((3 : Int32) * p0) + p1).toNatClampNeg)) * (L3 344 ((((3 : Int32) * p0) + p1).toNatClampNeg))), .long r3]) (st := [.long r3]) (Ev.cm _) rfl rfl rfl (Nat.le_of_ble_eq_true rfl) (Nat.le_of_ble_eq_true rfl) (eo_M_divisor (g := ?_) e8)
          show Wp _ _ _ _ _ _ _ 75 [(0, .ref 331), (1, .int p0), (2, .int p1), (3, .int p2), (4, .long r3), (6, .long ((L3 343 ((((3 : Int32) * p0) + p1).toNatClampNeg)) * (L3 344 ((((3 : Int32) * p0) + p1).toNatClampNeg))))] [.long r8, .long r3] (HS I8 L8 X)
          obtain ⟨b9, q⟩ := ois q
          refine w_ldiv (Ev.cm _) rfl b9 ?_
          refine w_lreturn (Ev.cm _) rfl rfl rf0 ?_
          cases q
          exact g
      · have c3 : lg_cmp r2 0 = 0 := c3
        rw [if_pos c3] at q
        refine w_ldc2_w (Ev.cm _) rfl ?_
        refine w_lreturn (Ev.cm _) rfl rfl rf0 ?_
        cases q
        exact g
def LO_M_moods_18 (fu : Nat) : Nat → Int32 → Int32 → Int32 → (Nat → Nat → Int32) → (Nat → Nat → Int64) → Option (Int32 × (Nat → Nat → Int32) × (Nat → Nat → Int64))
  | 0, _, _, _, _, _ => none
  | n + 1, x1, x2, x3, I, L => if 3 ≤ x3 then (some (x2, I, L)) else (if 0 ≤ ((3 : Int32) * x1) + x3 ∧ ((3 : Int32) * x1) + x3 < 18 then (if 0 ≤ ((3 : Int32) * x1) + x3 ∧ ((3 : Int32) * x1) + x3 < 18 then (if lg_cmp ((L 343 ((((3 : Int32) * x1) + x3).toNatClampNeg)) * (L 344 ((((3 : Int32) * x1) + x3).toNatClampNeg))) 0 ≤ 0 then (LO_M_moods_18 fu n x1 (x2 ||| 0) (x3 + 1) I L) else (LO_M_moods_18 fu n x1 (x2 ||| ((1 : Int32) <<< (x3 &&& 31))) (x3 + 1) I L)) else none) else none)
set_option maxHeartbeats 20000000 in
set_option maxRecDepth 20000 in
theorem lo_M_moods_18 {d fu n0 s0 : Nat} {X : Nat × (Nat → Int32)} {Q : PQ} {res : Int32 × (Nat → Nat → Int32) × (Nat → Nat → Int64)}  (g : Q (some (.int res.1)) (HS res.2.1 res.2.2 X)) : ∀ (n : Nat) (x1 : Int32) (x2 : Int32) (x3 : Int32) (I : Nat → Nat → Int32) (L : Nat → Nat → Int64), LO_M_moods_18 fu n x1 x2 x3 I L = some res → Wp (Ev (d + 2)) cd_M_moods (0, 0) (some .int) n0 s0 Q 18 [(0, .ref 331), (1, .int x1), (2, .int x2), (3, .int x3)] [] (HS I L X) := by
  intro n
  induction n with
  | zero => intro _ _ _ _ _ q; cases q
  | succ n ih =>
    intro x1 x2 x3 I L q
    unfold LO_M_moods_18 at q
    refine w_iload_n (Ev.cm _) rfl rfl ?_
    refine w_iconst (Ev.cm _) rfl ?_
    refine w_icmp_ge (Ev.cm _) rfl (fun c1 => ?_) (fun c1 => ?_)
    · have c1 : 3 ≤ x3 := c1
      rw [if_pos c1] at q
      refine w_iload_n (Ev.cm _) rfl rfl ?_
      refine w_ireturn (Ev.cm _) rfl trivial rf0 ?_
      cases q
      exact g
    · have c1 : ¬ (3 ≤ x3) := c1
      rw [if_neg c1] at q
      refine w_iload_n (Ev.cm _) rfl rfl ?_
      refine w_aload_n (Ev.cm _) rfl rfl ?_
      refine w_getR (q := 343) (Ev.cm _) rfl (Nat.le_of_ble_eq_true rfl) rfl rfl ?_
      refine w_iconst (Ev.cm _) rfl ?_
      refine w_iload_n (Ev.cm _) rfl rfl ?_
      refine w_imul (Ev.cm _) rfl ?_
      refine w_iload_n (Ev.cm _) rfl rfl ?_
      refine w_iadd (Ev.cm _) rfl ?_
      obtain ⟨b1, q⟩ := ois q
      refine w_lald (Ev.cm _) rfl (Nat.le_of_ble_eq_true rfl) rfl (show vp_in (((3 : Int32) * x1) + x3) 18 from vpI 18 (by decide) b1.1 b1.2) ?_
      refine w_aload_n (Ev.cm _) rfl rfl ?_
      refine w_getR (q := 344) (Ev.cm _) rfl (Nat.le_of_ble_eq_true rfl) rfl rfl ?_
      refine w_iconst (Ev.cm _) rfl ?_
      refine w_iload_n (Ev.cm _) rfl rfl ?_
      refine w_imul (Ev.cm _) rfl ?_
      refine w_iload_n (Ev.cm _) rfl rfl ?_
      refine w_iadd (Ev.cm _) rfl ?_
      obtain ⟨b2, q⟩ := ois q
      refine w_lald (Ev.cm _) rfl (Nat.le_of_ble_eq_true rfl) rfl (show vp_in (((3 : Int32) * x1) + x3) 18 from vpI 18 (by decide) b2.1 b2.2) ?_
      refine w_lmul (Ev.cm _) rfl ?_
      refine w_lconst (Ev.cm _) rfl ?_
      refine w_lcmp (Ev.cm _) rfl ?_
      refine w_if_le (Ev.cm _) rfl (fun c2 => ?_) (fun c2 => ?_)
      · have c2 : lg_cmp ((L 343 ((((3 : Int32) * x1) + x3).toNatClampNeg)) * (L 344 ((((3 : Int32) * x1) + x3).toNatClampNeg))) 0 ≤ 0 := c2
        rw [if_pos c2] at q
        refine w_iconst (Ev.cm _) rfl ?_
        refine w_ior (Ev.cm _) rfl ?_
        refine w_istore_n (ls2 := [(0, .ref 331), (1, .int x1), (2, .int (x2 ||| 0)), (3, .int x3)]) (Ev.cm _) rfl rfl ?_
        refine w_iinc (ls2 := [(0, .ref 331), (1, .int x1), (2, .int (x2 ||| 0)), (3, .int (x3 + 1))]) (Ev.cm _) rfl rfl rfl ?_
        refine w_goto (Ev.cm _) rfl ?_
        show Wp _ _ _ _ _ _ _ 18 [(0, .ref 331), (1, .int x1), (2, .int (x2 ||| 0)), (3, .int (x3 + 1))] [] (HS I L X)
        refine Wp.sub [0, 1, 2, 3] (ls2 := [(0, .ref 331), (1, .int x1), (2, .int (x2 ||| 0)), (3, .int (x3 + 1))]) rfl ?_
        exact ih _ _ _ _ _ q
      · have c2 : ¬ (lg_cmp ((L 343 ((((3 : Int32) * x1) + x3).toNatClampNeg)) * (L 344 ((((3 : Int32) * x1) + x3).toNatClampNeg))) 0 ≤ 0) := c2
        rw [if_neg c2] at q
        refine w_iconst (Ev.cm _) rfl ?_
        refine w_iload_n (Ev.cm _) rfl rfl ?_
        refine w_ishl (Ev.cm _) rfl ?_
        refine w_goto (Ev.cm _) rfl ?_
        refine w_ior (Ev.cm _) rfl ?_
        refine w_istore_n (ls2 := [(0, .ref 331), (1, .int x1), (2, .int (x2 ||| ((1 : Int32) <<< (x3 &&& 31)))), (3, .int x3)]) (Ev.cm _) rfl rfl ?_
        refine w_iinc (ls2 := [(0, .ref 331), (1, .int x1), (2, .int (x2 ||| ((1 : Int32) <<< (x3 &&& 31)))), (3, .int (x3 + 1))]) (Ev.cm _) rfl rfl rfl ?_
        refine w_goto (Ev.cm _) rfl ?_
        show Wp _ _ _ _ _ _ _ 18 [(0, .ref 331), (1, .int x1), (2, .int (x2 ||| ((1 : Int32) <<< (x3 &&& 31)))), (3, .int (x3 + 1))] [] (HS I L X)
        refine Wp.sub [0, 1, 2, 3] (ls2 := [(0, .ref 331), (1, .int x1), (2, .int (x2 ||| ((1 : Int32) <<< (x3 &&& 31)))), (3, .int (x3 + 1))]) rfl ?_
        exact ih _ _ _ _ _ q
def FO_M_moods (fu : Nat) (p0 : Int32) (I : Nat → Nat → Int32) (L : Nat → Nat → Int64) : Option (Int32 × (Nat → Nat → Int32) × (Nat → Nat → Int64)) := (FO_M_isSound fu p0 I L).bind (fun u1 => let r1 := u1.1; let I1 := u1.2.1; let L1 := u1.2.2; if r1 = 0 then (some ((-1), I1, L1)) else ((FO_M_layMoods fu  I1 L1).bind (fun u2 => let r2 := u2.1; let I2 := u2.2.1; let L2 := u2.2.2; LO_M_moods_18 fu fu p0 0 0 I2 L2)))
set_option maxHeartbeats 20000000 in
set_option maxRecDepth 20000 in
theorem eo_M_moods {d fu : Nat} {p0 : Int32} {I : Nat → Nat → Int32} {L : Nat → Nat → Int64} {X : Nat × (Nat → Int32)} {Q : PQ} {res : Int32 × (Nat → Nat → Int32) × (Nat → Nat → Int64)}  (g : Q (some (.int res.1)) (HS res.2.1 res.2.2 X)) (q : FO_M_moods fu p0 I L = some res) : Ev (d + 3) m_M_moods [.ref 331, .int p0] (HS I L X) Q := by
  unfold FO_M_moods at q
  refine ev_start (d := d + 2) rfl rfl rfl (Nat.le_of_ble_eq_true rfl) ?_
  show Wp (Ev (d + 2)) cd_M_moods (0, 0) (some .int) _ _ Q 0 [(0, .ref 331), (1, .int p0)] [] (HS I L X)
  refine w_aload_n (Ev.cm _) rfl rfl ?_
  refine w_iload_n (Ev.cm _) rfl rfl ?_
  obtain ⟨⟨r1, I1, L1⟩, e1, q⟩ := obs q
  dsimp only at q
  refine w_cvirt (o := 331) (as := [.int p0]) (st := []) (Ev.cm _) rfl rfl rfl (Nat.le_of_ble_eq_true rfl) (Nat.le_of_ble_eq_true rfl) rfl (Nat.le_of_ble_eq_true rfl) (eo_M_isSound (g := ?_) e1)
  show Wp _ _ _ _ _ _ _ 5 [(0, .ref 331), (1, .int p0)] [.int r1] (HS I1 L1 X)
  refine w_if_ne (Ev.cm _) rfl (fun c1 => ?_) (fun c1 => ?_)
  · have c1 : ¬ (r1 = 0) := c1
    rw [if_neg c1] at q
    refine w_aload_n (Ev.cm _) rfl rfl ?_
    obtain ⟨⟨r2, I2, L2⟩, e2, q⟩ := obs q
    dsimp only at q
    refine w_cvirt (o := 331) (as := []) (st := []) (Ev.cm _) rfl rfl rfl (Nat.le_of_ble_eq_true rfl) (Nat.le_of_ble_eq_true rfl) rfl (Nat.le_of_ble_eq_true rfl) (eo_M_layMoods (g := ?_) e2)
    show Wp _ _ _ _ _ _ _ 14 [(0, .ref 331), (1, .int p0)] [] (HS I2 L2 X)
    refine w_iconst (Ev.cm _) rfl ?_
    refine w_istore_n (ls2 := [(0, .ref 331), (1, .int p0), (2, .int 0)]) (Ev.cm _) rfl rfl ?_
    refine w_iconst (Ev.cm _) rfl ?_
    refine w_istore_n (ls2 := [(0, .ref 331), (1, .int p0), (2, .int 0), (3, .int 0)]) (Ev.cm _) rfl rfl ?_
    show Wp _ _ _ _ _ _ _ 18 [(0, .ref 331), (1, .int p0), (2, .int 0), (3, .int 0)] [] (HS I2 L2 X)
    refine Wp.sub [0, 1, 2, 3] (ls2 := [(0, .ref 331), (1, .int p0), (2, .int 0), (3, .int 0)]) rfl ?_
    exact lo_M_moods_18 g fu _ _ _ _ _ q
  · have c1 : r1 = 0 := c1
    rw [if_pos c1] at q
    refine w_iconst (Ev.cm _) rfl ?_
    refine w_ireturn (Ev.cm _) rfl trivial rf0 ?_
    cases q
    exact g
def LO_M_likeliest_37 (fu : Nat) (k_23 : Int32 → Int32 → Int32 → (Nat → Nat → Int32) → (Nat → Nat → Int64) → Option (Int32 × (Nat → Nat → Int32) × (Nat → Nat → Int64))) : Nat → Int32 → Int32 → Int32 → Int32 → Int64 → Int32 → (Nat → Nat → Int32) → (Nat → Nat → Int64) → Option (Int32 × (Nat → Nat → Int32) × (Nat → Nat → Int64))
  | 0, _, _, _, _, _, _, _, _ => none
  | n + 1, x1, x2, x3, x4, x5, x7, I, L => if 3 ≤ x7 then (k_23 x1 x4 (x3 + 1) I L) else (if x2 = (-1) then ((FO_M_soundOf fu x3 x7 I L).bind (fun u4 => let r4 := u4.1; let I4 := u4.2.1; let L4 := u4.2.2; if 0 ≤ ((3 : Int32) * x3) + x7 ∧ ((3 : Int32) * x3) + x7 < 18 then (if 0 < lg_cmp (((1 : Int64) * ((r4 : Int32).toInt64)) * (L4 345 ((((3 : Int32) * x3) + x7).toNatClampNeg))) x5 then (LO_M_likeliest_37 fu k_23 n x1 x2 x3 x7 (((1 : Int64) * ((r4 : Int32).toInt64)) * (L4 345 ((((3 : Int32) * x3) + x7).toNatClampNeg))) (x7 + 1) I4 L4) else (LO_M_likeliest_37 fu k_23 n x1 x2 x3 x4 x5 (x7 + 1) I4 L4)) else none)) else ((FO_M_changeOf fu x2 x7 I L).bind (fun u1 => let r1 := u1.1; let I1 := u1.2.1; let L1 := u1.2.2; (FO_M_soundOf fu x3 x7 I1 L1).bind (fun u2 => let r2 := u2.1; let I2 := u2.2.1; let L2 := u2.2.2; if 0 ≤ ((3 : Int32) * x3) + x7 ∧ ((3 : Int32) * x3) + x7 < 18 then (if 0 < lg_cmp ((((r1 : Int32).toInt64) * ((r2 : Int32).toInt64)) * (L2 345 ((((3 : Int32) * x3) + x7).toNatClampNeg))) x5 then (LO_M_likeliest_37 fu k_23 n x1 x2 x3 x7 ((((r1 : Int32).toInt64) * ((r2 : Int32).toInt64)) * (L2 345 ((((3 : Int32) * x3) + x7).toNatClampNeg))) (x7 + 1) I2 L2) else (LO_M_likeliest_37 fu k_23 n x1 x2 x3 x4 x5 (x7 + 1) I2 L2)) else none))))
set_option maxHeartbeats 20000000 in
set_option maxRecDepth 20000 in
theorem lo_M_likeliest_37 {d fu n0 s0 : Nat} {X : Nat × (Nat → Int32)} {Q : PQ} {k_23 : Int32 → Int32 → Int32 → (Nat → Nat → Int32) → (Nat → Nat → Int64) → Option (Int32 × (Nat → Nat → Int32) × (Nat → Nat → Int64))} {res : Int32 × (Nat → Nat → Int32) × (Nat → Nat → Int64)}  (g : Q (some (.int res.1)) (HS res.2.1 res.2.2 X)) (hk_23 : ∀ (x1 : Int32) (x2 : Int32) (x3 : Int32) (I : Nat → Nat → Int32) (L : Nat → Nat → Int64), k_23 x1 x2 x3 I L = some res → Wp (Ev (d + 3)) cd_M_likeliest (0, 0) (some .int) n0 s0 Q 23 [(0, .ref 331), (1, .int x1), (2, .int x2), (3, .int x3)] [] (HS I L X)) : ∀ (n : Nat) (x1 : Int32) (x2 : Int32) (x3 : Int32) (x4 : Int32) (x5 : Int64) (x7 : Int32) (I : Nat → Nat → Int32) (L : Nat → Nat → Int64), LO_M_likeliest_37 fu k_23 n x1 x2 x3 x4 x5 x7 I L = some res → Wp (Ev (d + 3)) cd_M_likeliest (0, 0) (some .int) n0 s0 Q 37 [(0, .ref 331), (1, .int x1), (2, .int x2), (3, .int x3), (4, .int x4), (5, .long x5), (7, .int x7)] [] (HS I L X) := by
  intro n
  induction n with
  | zero => intro _ _ _ _ _ _ _ _ q; cases q
  | succ n ih =>
    intro x1 x2 x3 x4 x5 x7 I L q
    unfold LO_M_likeliest_37 at q
    refine w_iload (Ev.cm _) rfl rfl ?_
    refine w_iconst (Ev.cm _) rfl ?_
    refine w_icmp_ge (Ev.cm _) rfl (fun c1 => ?_) (fun c1 => ?_)
    · have c1 : 3 ≤ x7 := c1
      rw [if_pos c1] at q
      refine w_iload (Ev.cm _) rfl rfl ?_
      refine w_istore_n (ls2 := [(0, .ref 331), (1, .int x1), (2, .int x4), (3, .int x3), (4, .int x4), (5, .long x5), (7, .int x7)]) (Ev.cm _) rfl rfl ?_
      refine w_iinc (ls2 := [(0, .ref 331), (1, .int x1), (2, .int x4), (3, .int (x3 + 1)), (4, .int x4), (5, .long x5), (7, .int x7)]) (Ev.cm _) rfl rfl rfl ?_
      refine w_goto (Ev.cm _) rfl ?_
      show Wp _ _ _ _ _ _ _ 23 [(0, .ref 331), (1, .int x1), (2, .int x4), (3, .int (x3 + 1)), (4, .int x4), (5, .long x5), (7, .int x7)] [] (HS I L X)
      refine Wp.sub [0, 1, 2, 3] (ls2 := [(0, .ref 331), (1, .int x1), (2, .int x4), (3, .int (x3 + 1))]) rfl ?_
      exact hk_23 _ _ _ _ _ q
    · have c1 : ¬ (3 ≤ x7) := c1
      rw [if_neg c1] at q
      refine w_iload_n (Ev.cm _) rfl rfl ?_
      refine w_iconst (Ev.cm _) rfl ?_
      refine w_icmp_ne (Ev.cm _) rfl (fun c2 => ?_) (fun c2 => ?_)
      · have c2 : ¬ (x2 = (-1)) := c2
        rw [if_neg c2] at q
        refine w_aload_n (Ev.cm _) rfl rfl ?_
        refine w_iload_n (Ev.cm _) rfl rfl ?_
        refine w_iload (Ev.cm _) rfl rfl ?_
        obtain ⟨⟨r1, I1, L1⟩, e1, q⟩ := obs q
        dsimp only at q
        refine w_cvirt (o := 331) (as := [.int x2, .int x7]) (st := []) (Ev.cm _) rfl rfl rfl (Nat.le_of_ble_eq_true rfl) (Nat.le_of_ble_eq_true rfl) rfl (Nat.le_of_ble_eq_true rfl) (eo_M_changeOf (g := ?_) e1)
        show Wp _ _ _ _ _ _ _ 59 [(0, .ref 331), (1, .int x1), (2, .int x2), (3, .int x3), (4, .int x4), (5, .long x5), (7, .int x7)] [.int r1] (HS I1 L1 X)
        refine w_i2l (Ev.cm _) rfl ?_
        refine w_aload_n (Ev.cm _) rfl rfl ?_
        refine w_iload_n (Ev.cm _) rfl rfl ?_
        refine w_iload (Ev.cm _) rfl rfl ?_
        obtain ⟨⟨r2, I2, L2⟩, e2, q⟩ := obs q
        dsimp only at q
        refine w_cvirt (o := 331) (as := [.int x3, .int x7]) (st := [.long ((r1 : Int32).toInt64)]) (Ev.cm _) rfl rfl rfl (Nat.le_of_ble_eq_true rfl) (Nat.le_of_ble_eq_true rfl) rfl (Nat.le_of_ble_eq_true rfl) (eo_M_soundOf (g := ?_) e2)
        show Wp _ _ _ _ _ _ _ 67 [(0, .ref 331), (1, .int x1), (2, .int x2), (3, .int x3), (4, .int x4), (5, .long x5), (7, .int x7)] [.int r2, .long ((r1 : Int32).toInt64)] (HS I2 L2 X)
        refine w_i2l (Ev.cm _) rfl ?_
        refine w_lmul (Ev.cm _) rfl ?_
        refine w_aload_n (Ev.cm _) rfl rfl ?_
        refine w_getR (q := 345) (Ev.cm _) rfl (Nat.le_of_ble_eq_true rfl) rfl rfl ?_
        refine w_iconst (Ev.cm _) rfl ?_
        refine w_iload_n (Ev.cm _) rfl rfl ?_
        refine w_imul (Ev.cm _) rfl ?_
        refine w_iload (Ev.cm _) rfl rfl ?_
        refine w_iadd (Ev.cm _) rfl ?_
        obtain ⟨b3, q⟩ := ois q
        refine w_lald (Ev.cm _) rfl (Nat.le_of_ble_eq_true rfl) rfl (show vp_in (((3 : Int32) * x3) + x7) 18 from vpI 18 (by decide) b3.1 b3.2) ?_
        refine w_lmul (Ev.cm _) rfl ?_
        refine w_lstore (ls2 := [(0, .ref 331), (1, .int x1), (2, .int x2), (3, .int x3), (4, .int x4), (5, .long x5), (7, .int x7), (8, .long ((((r1 : Int32).toInt64) * ((r2 : Int32).toInt64)) * (L2 345 ((((3 : Int32) * x3) + x7).toNatClampNeg))))]) (Ev.cm _) rfl rfl ?_
        refine w_lload (Ev.cm _) rfl rfl ?_
        refine w_lload (Ev.cm _) rfl rfl ?_
        refine w_lcmp (Ev.cm _) rfl ?_
        refine w_if_gt (Ev.cm _) rfl (fun c3 => ?_) (fun c3 => ?_)
        · have c3 : 0 < lg_cmp ((((r1 : Int32).toInt64) * ((r2 : Int32).toInt64)) * (L2 345 ((((3 : Int32) * x3) + x7).toNatClampNeg))) x5 := c3
          rw [if_pos c3] at q
          refine w_lload (Ev.cm _) rfl rfl ?_
          refine w_lstore (ls2 := [(0, .ref 331), (1, .int x1), (2, .int x2), (3, .int x3), (4, .int x4), (5, .long ((((r1 : Int32).toInt64) * ((r2 : Int32).toInt64)) * (L2 345 ((((3 : Int32) * x3) + x7).toNatClampNeg)))), (7, .int x7), (8, .long ((((r1 : Int32).toInt64) * ((r2 : Int32).toInt64)) * (L2 345 ((((3 : Int32) * x3) + x7).toNatClampNeg))))]) (Ev.cm _) rfl rfl ?_
          refine w_iload (Ev.cm _) rfl rfl ?_
          refine w_istore (ls2 := [(0, .ref 331), (1, .int x1), (2, .int x2), (3, .int x3), (4, .int x7), (5, .long ((((r1 : Int32).toInt64) * ((r2 : Int32).toInt64)) * (L2 345 ((((3 : Int32) * x3) + x7).toNatClampNeg)))), (7, .int x7), (8, .long ((((r1 : Int32).toInt64) * ((r2 : Int32).toInt64)) * (L2 345 ((((3 : Int32) * x3) + x7).toNatClampNeg))))]) (Ev.cm _) rfl rfl ?_
          refine w_iinc (ls2 := [(0, .ref 331), (1, .int x1), (2, .int x2), (3, .int x3), (4, .int x7), (5, .long ((((r1 : Int32).toInt64) * ((r2 : Int32).toInt64)) * (L2 345 ((((3 : Int32) * x3) + x7).toNatClampNeg)))), (7, .int (x7 + 1)), (8, .long ((((r1 : Int32).toInt64) * ((r2 : Int32).toInt64)) * (L2 345 ((((3 : Int32) * x3) + x7).toNatClampNeg))))]) (Ev.cm _) rfl rfl rfl ?_
          refine w_goto (Ev.cm _) rfl ?_
          show Wp _ _ _ _ _ _ _ 37 [(0, .ref 331), (1, .int x1), (2, .int x2), (3, .int x3), (4, .int x7), (5, .long ((((r1 : Int32).toInt64) * ((r2 : Int32).toInt64)) * (L2 345 ((((3 : Int32) * x3) + x7).toNatClampNeg)))), (7, .int (x7 + 1)), (8, .long ((((r1 : Int32).toInt64) * ((r2 : Int32).toInt64)) * (L2 345 ((((3 : Int32) * x3) + x7).toNatClampNeg))))] [] (HS I2 L2 X)
          refine Wp.sub [0, 1, 2, 3, 4, 5, 6] (ls2 := [(0, .ref 331), (1, .int x1), (2, .int x2), (3, .int x3), (4, .int x7), (5, .long ((((r1 : Int32).toInt64) * ((r2 : Int32).toInt64)) * (L2 345 ((((3 : Int32) * x3) + x7).toNatClampNeg)))), (7, .int (x7 + 1))]) rfl ?_
          exact ih _ _ _ _ _ _ _ _ q
        · have c3 : ¬ (0 < lg_cmp ((((r1 : Int32).toInt64) * ((r2 : Int32).toInt64)) * (L2 345 ((((3 : Int32) * x3) + x7).toNatClampNeg))) x5) := c3
          rw [if_neg c3] at q
          refine w_goto (Ev.cm _) rfl ?_
          refine w_iinc (ls2 := [(0, .ref 331), (1, .int x1), (2, .int x2), (3, .int x3), (4, .int x4), (5, .long x5), (7, .int (x7 + 1)), (8, .long ((((r1 : Int32).toInt64) * ((r2 : Int32).toInt64)) * (L2 345 ((((3 : Int32) * x3) + x7).toNatClampNeg))))]) (Ev.cm _) rfl rfl rfl ?_
          refine w_goto (Ev.cm _) rfl ?_
          show Wp _ _ _ _ _ _ _ 37 [(0, .ref 331), (1, .int x1), (2, .int x2), (3, .int x3), (4, .int x4), (5, .long x5), (7, .int (x7 + 1)), (8, .long ((((r1 : Int32).toInt64) * ((r2 : Int32).toInt64)) * (L2 345 ((((3 : Int32) * x3) + x7).toNatClampNeg))))] [] (HS I2 L2 X)
          refine Wp.sub [0, 1, 2, 3, 4, 5, 6] (ls2 := [(0, .ref 331), (1, .int x1), (2, .int x2), (3, .int x3), (4, .int x4), (5, .long x5), (7, .int (x7 + 1))]) rfl ?_
          exact ih _ _ _ _ _ _ _ _ q
      · have c2 : x2 = (-1) := c2
        rw [if_pos c2] at q
        refine w_lconst (Ev.cm _) rfl ?_
        refine w_goto (Ev.cm _) rfl ?_
        refine w_aload_n (Ev.cm _) rfl rfl ?_
        refine w_iload_n (Ev.cm _) rfl rfl ?_
        refine w_iload (Ev.cm _) rfl rfl ?_
        obtain ⟨⟨r4, I4, L4⟩, e4, q⟩ := obs q
        dsimp only at q
        refine w_cvirt (o := 331) (as := [.int x3, .int x7]) (st := [.long 1]) (Ev.cm _) rfl rfl rfl (Nat.le_of_ble_eq_true rfl) (Nat.le_of_ble_eq_true rfl) rfl (Nat.le_of_ble_eq_true rfl) (eo_M_soundOf (g := ?_) e4)
        show Wp _ _ _ _ _ _ _ 67 [(0, .ref 331), (1, .int x1), (2, .int x2), (3, .int x3), (4, .int x4), (5, .long x5), (7, .int x7)] [.int r4, .long 1] (HS I4 L4 X)
        refine w_i2l (Ev.cm _) rfl ?_
        refine w_lmul (Ev.cm _) rfl ?_
        refine w_aload_n (Ev.cm _) rfl rfl ?_
        refine w_getR (q := 345) (Ev.cm _) rfl (Nat.le_of_ble_eq_true rfl) rfl rfl ?_
        refine w_iconst (Ev.cm _) rfl ?_
        refine w_iload_n (Ev.cm _) rfl rfl ?_
        refine w_imul (Ev.cm _) rfl ?_
        refine w_iload (Ev.cm _) rfl rfl ?_
        refine w_iadd (Ev.cm _) rfl ?_
        obtain ⟨b5, q⟩ := ois q
        refine w_lald (Ev.cm _) rfl (Nat.le_of_ble_eq_true rfl) rfl (show vp_in (((3 : Int32) * x3) + x7) 18 from vpI 18 (by decide) b5.1 b5.2) ?_
        refine w_lmul (Ev.cm _) rfl ?_
        refine w_lstore (ls2 := [(0, .ref 331), (1, .int x1), (2, .int x2), (3, .int x3), (4, .int x4), (5, .long x5), (7, .int x7), (8, .long (((1 : Int64) * ((r4 : Int32).toInt64)) * (L4 345 ((((3 : Int32) * x3) + x7).toNatClampNeg))))]) (Ev.cm _) rfl rfl ?_
        refine w_lload (Ev.cm _) rfl rfl ?_
        refine w_lload (Ev.cm _) rfl rfl ?_
        refine w_lcmp (Ev.cm _) rfl ?_
        refine w_if_gt (Ev.cm _) rfl (fun c4 => ?_) (fun c4 => ?_)
        · have c4 : 0 < lg_cmp (((1 : Int64) * ((r4 : Int32).toInt64)) * (L4 345 ((((3 : Int32) * x3) + x7).toNatClampNeg))) x5 := c4
          rw [if_pos c4] at q
          refine w_lload (Ev.cm _) rfl rfl ?_
          refine w_lstore (ls2 := [(0, .ref 331), (1, .int x1), (2, .int x2), (3, .int x3), (4, .int x4), (5, .long (((1 : Int64) * ((r4 : Int32).toInt64)) * (L4 345 ((((3 : Int32) * x3) + x7).toNatClampNeg)))), (7, .int x7), (8, .long (((1 : Int64) * ((r4 : Int32).toInt64)) * (L4 345 ((((3 : Int32) * x3) + x7).toNatClampNeg))))]) (Ev.cm _) rfl rfl ?_
          refine w_iload (Ev.cm _) rfl rfl ?_
          refine w_istore (ls2 := [(0, .ref 331), (1, .int x1), (2, .int x2), (3, .int x3), (4, .int x7), (5, .long (((1 : Int64) * ((r4 : Int32).toInt64)) * (L4 345 ((((3 : Int32) * x3) + x7).toNatClampNeg)))), (7, .int x7), (8, .long (((1 : Int64) * ((r4 : Int32).toInt64)) * (L4 345 ((((3 : Int32) * x3) + x7).toNatClampNeg))))]) (Ev.cm _) rfl rfl ?_
          refine w_iinc (ls2 := [(0, .ref 331), (1, .int x1), (2, .int x2), (3, .int x3), (4, .int x7), (5, .long (((1 : Int64) * ((r4 : Int32).toInt64)) * (L4 345 ((((3 : Int32) * x3) + x7).toNatClampNeg)))), (7, .int (x7 + 1)), (8, .long (((1 : Int64) * ((r4 : Int32).toInt64)) * (L4 345 ((((3 : Int32) * x3) + x7).toNatClampNeg))))]) (Ev.cm _) rfl rfl rfl ?_
          refine w_goto (Ev.cm _) rfl ?_
          show Wp _ _ _ _ _ _ _ 37 [(0, .ref 331), (1, .int x1), (2, .int x2), (3, .int x3), (4, .int x7), (5, .long (((1 : Int64) * ((r4 : Int32).toInt64)) * (L4 345 ((((3 : Int32) * x3) + x7).toNatClampNeg)))), (7, .int (x7 + 1)), (8, .long (((1 : Int64) * ((r4 : Int32).toInt64)) * (L4 345 ((((3 : Int32) * x3) + x7).toNatClampNeg))))] [] (HS I4 L4 X)
          refine Wp.sub [0, 1, 2, 3, 4, 5, 6] (ls2 := [(0, .ref 331), (1, .int x1), (2, .int x2), (3, .int x3), (4, .int x7), (5, .long (((1 : Int64) * ((r4 : Int32).toInt64)) * (L4 345 ((((3 : Int32) * x3) + x7).toNatClampNeg)))), (7, .int (x7 + 1))]) rfl ?_
          exact ih _ _ _ _ _ _ _ _ q
        · have c4 : ¬ (0 < lg_cmp (((1 : Int64) * ((r4 : Int32).toInt64)) * (L4 345 ((((3 : Int32) * x3) + x7).toNatClampNeg))) x5) := c4
          rw [if_neg c4] at q
          refine w_goto (Ev.cm _) rfl ?_
          refine w_iinc (ls2 := [(0, .ref 331), (1, .int x1), (2, .int x2), (3, .int x3), (4, .int x4), (5, .long x5), (7, .int (x7 + 1)), (8, .long (((1 : Int64) * ((r4 : Int32).toInt64)) * (L4 345 ((((3 : Int32) * x3) + x7).toNatClampNeg))))]) (Ev.cm _) rfl rfl rfl ?_
          refine w_goto (Ev.cm _) rfl ?_
          show Wp _ _ _ _ _ _ _ 37 [(0, .ref 331), (1, .int x1), (2, .int x2), (3, .int x3), (4, .int x4), (5, .long x5), (7, .int (x7 + 1)), (8, .long (((1 : Int64) * ((r4 : Int32).toInt64)) * (L4 345 ((((3 : Int32) * x3) + x7).toNatClampNeg))))] [] (HS I4 L4 X)
          refine Wp.sub [0, 1, 2, 3, 4, 5, 6] (ls2 := [(0, .ref 331), (1, .int x1), (2, .int x2), (3, .int x3), (4, .int x4), (5, .long x5), (7, .int (x7 + 1))]) rfl ?_
          exact ih _ _ _ _ _ _ _ _ q
def LO_M_likeliest_23 (fu : Nat) : Nat → Int32 → Int32 → Int32 → (Nat → Nat → Int32) → (Nat → Nat → Int64) → Option (Int32 × (Nat → Nat → Int32) × (Nat → Nat → Int64))
  | 0, _, _, _, _, _ => none
  | n + 1, x1, x2, x3, I, L => if x1 < x3 then (some (x2, I, L)) else (LO_M_likeliest_37 fu (fun x1 x2 x3 I L => LO_M_likeliest_23 fu n x1 x2 x3 I L) fu x1 x2 x3 (-1) 0 0 I L)
set_option maxHeartbeats 20000000 in
set_option maxRecDepth 20000 in
theorem lo_M_likeliest_23 {d fu n0 s0 : Nat} {X : Nat × (Nat → Int32)} {Q : PQ} {res : Int32 × (Nat → Nat → Int32) × (Nat → Nat → Int64)}  (g : Q (some (.int res.1)) (HS res.2.1 res.2.2 X)) : ∀ (n : Nat) (x1 : Int32) (x2 : Int32) (x3 : Int32) (I : Nat → Nat → Int32) (L : Nat → Nat → Int64), LO_M_likeliest_23 fu n x1 x2 x3 I L = some res → Wp (Ev (d + 3)) cd_M_likeliest (0, 0) (some .int) n0 s0 Q 23 [(0, .ref 331), (1, .int x1), (2, .int x2), (3, .int x3)] [] (HS I L X) := by
  intro n
  induction n with
  | zero => intro _ _ _ _ _ q; cases q
  | succ n ih =>
    intro x1 x2 x3 I L q
    unfold LO_M_likeliest_23 at q
    refine w_iload_n (Ev.cm _) rfl rfl ?_
    refine w_iload_n (Ev.cm _) rfl rfl ?_
    refine w_icmp_gt (Ev.cm _) rfl (fun c1 => ?_) (fun c1 => ?_)
    · have c1 : x1 < x3 := c1
      rw [if_pos c1] at q
      refine w_iload_n (Ev.cm _) rfl rfl ?_
      refine w_ireturn (Ev.cm _) rfl trivial rf0 ?_
      cases q
      exact g
    · have c1 : ¬ (x1 < x3) := c1
      rw [if_neg c1] at q
      refine w_iconst (Ev.cm _) rfl ?_
      refine w_istore (ls2 := [(0, .ref 331), (1, .int x1), (2, .int x2), (3, .int x3), (4, .int (-1))]) (Ev.cm _) rfl rfl ?_
      refine w_lconst (Ev.cm _) rfl ?_
      refine w_lstore (ls2 := [(0, .ref 331), (1, .int x1), (2, .int x2), (3, .int x3), (4, .int (-1)), (5, .long 0)]) (Ev.cm _) rfl rfl ?_
      refine w_iconst (Ev.cm _) rfl ?_
      refine w_istore (ls2 := [(0, .ref 331), (1, .int x1), (2, .int x2), (3, .int x3), (4, .int (-1)), (5, .long 0), (7, .int 0)]) (Ev.cm _) rfl rfl ?_
      show Wp _ _ _ _ _ _ _ 37 [(0, .ref 331), (1, .int x1), (2, .int x2), (3, .int x3), (4, .int (-1)), (5, .long 0), (7, .int 0)] [] (HS I L X)
      refine Wp.sub [0, 1, 2, 3, 4, 5, 6] (ls2 := [(0, .ref 331), (1, .int x1), (2, .int x2), (3, .int x3), (4, .int (-1)), (5, .long 0), (7, .int 0)]) rfl ?_
      exact lo_M_likeliest_37 g (fun x1 x2 x3 I L q => ih x1 x2 x3 I L q) fu _ _ _ _ _ _ _ _ q
def FO_M_likeliest (fu : Nat) (p0 : Int32) (I : Nat → Nat → Int32) (L : Nat → Nat → Int64) : Option (Int32 × (Nat → Nat → Int32) × (Nat → Nat → Int64)) := (FO_M_isSound fu p0 I L).bind (fun u1 => let r1 := u1.1; let I1 := u1.2.1; let L1 := u1.2.2; if r1 = 0 then (some ((-1), I1, L1)) else ((FO_M_allRows fu  I1 L1).bind (fun u2 => let r2 := u2.1; let I2 := u2.2.1; let L2 := u2.2.2; if lg_cmp r2 0 = 0 then (some ((-1), I2, L2)) else (LO_M_likeliest_23 fu fu p0 (-1) 0 I2 L2))))
set_option maxHeartbeats 20000000 in
set_option maxRecDepth 20000 in
theorem eo_M_likeliest {d fu : Nat} {p0 : Int32} {I : Nat → Nat → Int32} {L : Nat → Nat → Int64} {X : Nat × (Nat → Int32)} {Q : PQ} {res : Int32 × (Nat → Nat → Int32) × (Nat → Nat → Int64)}  (g : Q (some (.int res.1)) (HS res.2.1 res.2.2 X)) (q : FO_M_likeliest fu p0 I L = some res) : Ev (d + 4) m_M_likeliest [.ref 331, .int p0] (HS I L X) Q := by
  unfold FO_M_likeliest at q
  refine ev_start (d := d + 3) rfl rfl rfl (Nat.le_of_ble_eq_true rfl) ?_
  show Wp (Ev (d + 3)) cd_M_likeliest (0, 0) (some .int) _ _ Q 0 [(0, .ref 331), (1, .int p0)] [] (HS I L X)
  refine w_aload_n (Ev.cm _) rfl rfl ?_
  refine w_iload_n (Ev.cm _) rfl rfl ?_
  obtain ⟨⟨r1, I1, L1⟩, e1, q⟩ := obs q
  dsimp only at q
  refine w_cvirt (o := 331) (as := [.int p0]) (st := []) (Ev.cm _) rfl rfl rfl (Nat.le_of_ble_eq_true rfl) (Nat.le_of_ble_eq_true rfl) rfl (Nat.le_of_ble_eq_true rfl) (eo_M_isSound (g := ?_) e1)
  show Wp _ _ _ _ _ _ _ 5 [(0, .ref 331), (1, .int p0)] [.int r1] (HS I1 L1 X)
  refine w_if_eq (Ev.cm _) rfl (fun c1 => ?_) (fun c1 => ?_)
  · have c1 : r1 = 0 := c1
    rw [if_pos c1] at q
    refine w_iconst (Ev.cm _) rfl ?_
    refine w_ireturn (Ev.cm _) rfl trivial rf0 ?_
    cases q
    exact g
  · have c1 : ¬ (r1 = 0) := c1
    rw [if_neg c1] at q
    refine w_aload_n (Ev.cm _) rfl rfl ?_
    obtain ⟨⟨r2, I2, L2⟩, e2, q⟩ := obs q
    dsimp only at q
    refine w_cvirt (o := 331) (as := []) (st := []) (Ev.cm _) rfl rfl rfl (Nat.le_of_ble_eq_true rfl) (Nat.le_of_ble_eq_true rfl) rfl (Nat.le_of_ble_eq_true rfl) (eo_M_allRows (g := ?_) e2)
    show Wp _ _ _ _ _ _ _ 12 [(0, .ref 331), (1, .int p0)] [.long r2] (HS I2 L2 X)
    refine w_lconst (Ev.cm _) rfl ?_
    refine w_lcmp (Ev.cm _) rfl ?_
    refine w_if_ne (Ev.cm _) rfl (fun c2 => ?_) (fun c2 => ?_)
    · have c2 : ¬ (lg_cmp r2 0 = 0) := c2
      rw [if_neg c2] at q
      refine w_iconst (Ev.cm _) rfl ?_
      refine w_istore_n (ls2 := [(0, .ref 331), (1, .int p0), (2, .int (-1))]) (Ev.cm _) rfl rfl ?_
      refine w_iconst (Ev.cm _) rfl ?_
      refine w_istore_n (ls2 := [(0, .ref 331), (1, .int p0), (2, .int (-1)), (3, .int 0)]) (Ev.cm _) rfl rfl ?_
      show Wp _ _ _ _ _ _ _ 23 [(0, .ref 331), (1, .int p0), (2, .int (-1)), (3, .int 0)] [] (HS I2 L2 X)
      refine Wp.sub [0, 1, 2, 3] (ls2 := [(0, .ref 331), (1, .int p0), (2, .int (-1)), (3, .int 0)]) rfl ?_
      exact lo_M_likeliest_23 g fu _ _ _ _ _ q
    · have c2 : lg_cmp r2 0 = 0 := c2
      rw [if_pos c2] at q
      refine w_iconst (Ev.cm _) rfl ?_
      refine w_ireturn (Ev.cm _) rfl trivial rf0 ?_
      cases q
      exact g
def LO_M_nextBy_32 (fu : Nat) (k_12 : Int32 → Int32 → Int64 → Int32 → (Nat → Nat → Int32) → (Nat → Nat → Int64) → Option (Int64 × (Nat → Nat → Int32) × (Nat → Nat → Int64))) : Nat → Int32 → Int32 → Int64 → Int32 → Int64 → Int32 → (Nat → Nat → Int32) → (Nat → Nat → Int64) → Option (Int64 × (Nat → Nat → Int32) × (Nat → Nat → Int64))
  | 0, _, _, _, _, _, _, _, _ => none
  | n + 1, x1, x2, x3, x5, x6, x8, I, L => if 3 ≤ x8 then (if 0 ≤ ((51 : Int32) + ((3 : Int32) * x5)) + x1 ∧ ((51 : Int32) + ((3 : Int32) * x5)) + x1 < 1541 then (k_12 x1 x2 (x3 + (x6 * (((I 332 ((((51 : Int32) + ((3 : Int32) * x5)) + x1).toNatClampNeg)) : Int32).toInt64))) (x5 + 1) I L) else none) else (if x2 ≤ 0 then (if 0 ≤ ((51 : Int32) + ((3 : Int32) * x5)) + x1 ∧ ((51 : Int32) + ((3 : Int32) * x5)) + x1 < 1541 then (k_12 x1 x2 (x3 + (x6 * (((I 332 ((((51 : Int32) + ((3 : Int32) * x5)) + x1).toNatClampNeg)) : Int32).toInt64))) (x5 + 1) I L) else none) else (if 0 ≤ (((3 : Int32) * x2) - 3) + x8 ∧ (((3 : Int32) * x2) - 3) + x8 < 18 then ((FO_M_changeOf fu x8 x5 I L).bind (fun u4 => let r4 := u4.1; let I4 := u4.2.1; let L4 := u4.2.2; LO_M_nextBy_32 fu k_12 n x1 x2 x3 x5 (x6 + ((L 343 (((((3 : Int32) * x2) - 3) + x8).toNatClampNeg)) * ((r4 : Int32).toInt64))) (x8 + 1) I4 L4)) else none))
set_option maxHeartbeats 20000000 in
set_option maxRecDepth 20000 in
theorem lo_M_nextBy_32 {d fu n0 s0 : Nat} {X : Nat × (Nat → Int32)} {Q : PQ} {k_12 : Int32 → Int32 → Int64 → Int32 → (Nat → Nat → Int32) → (Nat → Nat → Int64) → Option (Int64 × (Nat → Nat → Int32) × (Nat → Nat → Int64))} {res : Int64 × (Nat → Nat → Int32) × (Nat → Nat → Int64)}  (g : Q (some (.long res.1)) (HS res.2.1 res.2.2 X)) (hk_12 : ∀ (x1 : Int32) (x2 : Int32) (x3 : Int64) (x5 : Int32) (I : Nat → Nat → Int32) (L : Nat → Nat → Int64), k_12 x1 x2 x3 x5 I L = some res → Wp (Ev (d + 1)) cd_M_nextBy (0, 0) (some .long) n0 s0 Q 12 [(0, .ref 331), (1, .int x1), (2, .int x2), (3, .long x3), (5, .int x5)] [] (HS I L X)) : ∀ (n : Nat) (x1 : Int32) (x2 : Int32) (x3 : Int64) (x5 : Int32) (x6 : Int64) (x8 : Int32) (I : Nat → Nat → Int32) (L : Nat → Nat → Int64), LO_M_nextBy_32 fu k_12 n x1 x2 x3 x5 x6 x8 I L = some res → Wp (Ev (d + 1)) cd_M_nextBy (0, 0) (some .long) n0 s0 Q 32 [(0, .ref 331), (1, .int x1), (2, .int x2), (3, .long x3), (5, .int x5), (6, .long x6), (8, .int x8)] [] (HS I L X) := by
  intro n
  induction n with
  | zero => intro _ _ _ _ _ _ _ _ q; cases q
  | succ n ih =>
    intro x1 x2 x3 x5 x6 x8 I L q
    unfold LO_M_nextBy_32 at q
    refine w_iload (Ev.cm _) rfl rfl ?_
    refine w_iconst (Ev.cm _) rfl ?_
    refine w_icmp_ge (Ev.cm _) rfl (fun c1 => ?_) (fun c1 => ?_)
    · have c1 : 3 ≤ x8 := c1
      rw [if_pos c1] at q
      refine w_lload_n (Ev.cm _) rfl rfl ?_
      refine w_lload (Ev.cm _) rfl rfl ?_
      refine w_aload_n (Ev.cm _) rfl rfl ?_
      refine w_getR (q := 332) (Ev.cm _) rfl (Nat.le_of_ble_eq_true rfl) rfl rfl ?_
      refine w_bipush (Ev.cm _) rfl ?_
      refine w_iconst (Ev.cm _) rfl ?_
      refine w_iload (Ev.cm _) rfl rfl ?_
      refine w_imul (Ev.cm _) rfl ?_
      refine w_iadd (Ev.cm _) rfl ?_
      refine w_iload_n (Ev.cm _) rfl rfl ?_
      refine w_iadd (Ev.cm _) rfl ?_
      obtain ⟨b1, q⟩ := ois q
      refine w_iald (Ev.cm _) rfl (Nat.le_of_ble_eq_true rfl) rfl (show vp_in (((51 : Int32) + ((3 : Int32) * x5)) + x1) 1541 from vpI 1541 (by decide) b1.1 b1.2) ?_
      refine w_i2l (Ev.cm _) rfl ?_
      refine w_lmul (Ev.cm _) rfl ?_
      refine w_ladd (Ev.cm _) rfl ?_
      refine w_lstore_n (ls2 := [(0, .ref 331), (1, .int x1), (2, .int x2), (3, .long (x3 + (x6 * (((I 332 ((((51 : Int32) + ((3 : Int32) * x5)) + x1).toNatClampNeg)) : Int32).toInt64)))), (5, .int x5), (6, .long x6), (8, .int x8)]) (Ev.cm _) rfl rfl ?_
      refine w_iinc (ls2 := [(0, .ref 331), (1, .int x1), (2, .int x2), (3, .long (x3 + (x6 * (((I 332 ((((51 : Int32) + ((3 : Int32) * x5)) + x1).toNatClampNeg)) : Int32).toInt64)))), (5, .int (x5 + 1)), (6, .long x6), (8, .int x8)]) (Ev.cm _) rfl rfl rfl ?_
      refine w_goto (Ev.cm _) rfl ?_
      show Wp _ _ _ _ _ _ _ 12 [(0, .ref 331), (1, .int x1), (2, .int x2), (3, .long (x3 + (x6 * (((I 332 ((((51 : Int32) + ((3 : Int32) * x5)) + x1).toNatClampNeg)) : Int32).toInt64)))), (5, .int (x5 + 1)), (6, .long x6), (8, .int x8)] [] (HS I L X)
      refine Wp.sub [0, 1, 2, 3, 4] (ls2 := [(0, .ref 331), (1, .int x1), (2, .int x2), (3, .long (x3 + (x6 * (((I 332 ((((51 : Int32) + ((3 : Int32) * x5)) + x1).toNatClampNeg)) : Int32).toInt64)))), (5, .int (x5 + 1))]) rfl ?_
      exact hk_12 _ _ _ _ _ _ q
    · have c1 : ¬ (3 ≤ x8) := c1
      rw [if_neg c1] at q
      refine w_iload_n (Ev.cm _) rfl rfl ?_
      refine w_if_le (Ev.cm _) rfl (fun c2 => ?_) (fun c2 => ?_)
      · have c2 : x2 ≤ 0 := c2
        rw [if_pos c2] at q
        refine w_lload_n (Ev.cm _) rfl rfl ?_
        refine w_lload (Ev.cm _) rfl rfl ?_
        refine w_aload_n (Ev.cm _) rfl rfl ?_
        refine w_getR (q := 332) (Ev.cm _) rfl (Nat.le_of_ble_eq_true rfl) rfl rfl ?_
        refine w_bipush (Ev.cm _) rfl ?_
        refine w_iconst (Ev.cm _) rfl ?_
        refine w_iload (Ev.cm _) rfl rfl ?_
        refine w_imul (Ev.cm _) rfl ?_
        refine w_iadd (Ev.cm _) rfl ?_
        refine w_iload_n (Ev.cm _) rfl rfl ?_
        refine w_iadd (Ev.cm _) rfl ?_
        obtain ⟨b2, q⟩ := ois q
        refine w_iald (Ev.cm _) rfl (Nat.le_of_ble_eq_true rfl) rfl (show vp_in (((51 : Int32) + ((3 : Int32) * x5)) + x1) 1541 from vpI 1541 (by decide) b2.1 b2.2) ?_
        refine w_i2l (Ev.cm _) rfl ?_
        refine w_lmul (Ev.cm _) rfl ?_
        refine w_ladd (Ev.cm _) rfl ?_
        refine w_lstore_n (ls2 := [(0, .ref 331), (1, .int x1), (2, .int x2), (3, .long (x3 + (x6 * (((I 332 ((((51 : Int32) + ((3 : Int32) * x5)) + x1).toNatClampNeg)) : Int32).toInt64)))), (5, .int x5), (6, .long x6), (8, .int x8)]) (Ev.cm _) rfl rfl ?_
        refine w_iinc (ls2 := [(0, .ref 331), (1, .int x1), (2, .int x2), (3, .long (x3 + (x6 * (((I 332 ((((51 : Int32) + ((3 : Int32) * x5)) + x1).toNatClampNeg)) : Int32).toInt64)))), (5, .int (x5 + 1)), (6, .long x6), (8, .int x8)]) (Ev.cm _) rfl rfl rfl ?_
        refine w_goto (Ev.cm _) rfl ?_
        show Wp _ _ _ _ _ _ _ 12 [(0, .ref 331), (1, .int x1), (2, .int x2), (3, .long (x3 + (x6 * (((I 332 ((((51 : Int32) + ((3 : Int32) * x5)) + x1).toNatClampNeg)) : Int32).toInt64)))), (5, .int (x5 + 1)), (6, .long x6), (8, .int x8)] [] (HS I L X)
        refine Wp.sub [0, 1, 2, 3, 4] (ls2 := [(0, .ref 331), (1, .int x1), (2, .int x2), (3, .long (x3 + (x6 * (((I 332 ((((51 : Int32) + ((3 : Int32) * x5)) + x1).toNatClampNeg)) : Int32).toInt64)))), (5, .int (x5 + 1))]) rfl ?_
        exact hk_12 _ _ _ _ _ _ q
      · have c2 : ¬ (x2 ≤ 0) := c2
        rw [if_neg c2] at q
        refine w_lload (Ev.cm _) rfl rfl ?_
        refine w_aload_n (Ev.cm _) rfl rfl ?_
        refine w_getR (q := 343) (Ev.cm _) rfl (Nat.le_of_ble_eq_true rfl) rfl rfl ?_
        refine w_iconst (Ev.cm _) rfl ?_
        refine w_iload_n (Ev.cm _) rfl rfl ?_
        refine w_imul (Ev.cm _) rfl ?_
        refine w_iconst (Ev.cm _) rfl ?_
        refine w_isub (Ev.cm _) rfl ?_
        refine w_iload (Ev.cm _) rfl rfl ?_
        refine w_iadd (Ev.cm _) rfl ?_
        obtain ⟨b3, q⟩ := ois q
        refine w_lald (Ev.cm _) rfl (Nat.le_of_ble_eq_true rfl) rfl (show vp_in ((((3 : Int32) * x2) - 3) + x8) 18 from vpI 18 (by decide) b3.1 b3.2) ?_
        refine w_aload_n (Ev.cm _) rfl rfl ?_
        refine w_iload (Ev.cm _) rfl rfl ?_
        refine w_iload (Ev.cm _) rfl rfl ?_
        obtain ⟨⟨r4, I4, L4⟩, e4, q⟩ := obs q
        dsimp only at q
        refine w_cvirt (o := 331) (as := [.int x8, .int x5]) (st := [.long (L 343 (((((3 : Int32) * x2) - 3) + x8).toNatClampNeg)), .long x6]) (Ev.cm _) rfl rfl rfl (Nat.le_of_ble_eq_true rfl) (Nat.le_of_ble_eq_true rfl) rfl (Nat.le_of_ble_eq_true rfl) (eo_M_changeOf (g := ?_) e4)
        show Wp _ _ _ _ _ _ _ 65 [(0, .ref 331), (1, .int x1), (2, .int x2), (3, .long x3), (5, .int x5), (6, .long x6), (8, .int x8)] [.int r4, .long (L 343 (((((3 : Int32) * x2) - 3) + x8).toNatClampNeg)), .long x6] (HS I4 L4 X)
        refine w_i2l (Ev.cm _) rfl ?_
        refine w_lmul (Ev.cm _) rfl ?_
        refine w_ladd (Ev.cm _) rfl ?_
        refine w_lstore (ls2 := [(0, .ref 331), (1, .int x1), (2, .int x2), (3, .long x3), (5, .int x5), (6, .long (x6 + ((L 343 (((((3 : Int32) * x2) - 3) + x8).toNatClampNeg)) * ((r4 : Int32).toInt64)))), (8, .int x8)]) (Ev.cm _) rfl rfl ?_
        refine w_iinc (ls2 := [(0, .ref 331), (1, .int x1), (2, .int x2), (3, .long x3), (5, .int x5), (6, .long (x6 + ((L 343 (((((3 : Int32) * x2) - 3) + x8).toNatClampNeg)) * ((r4 : Int32).toInt64)))), (8, .int (x8 + 1))]) (Ev.cm _) rfl rfl rfl ?_
        refine w_goto (Ev.cm _) rfl ?_
        show Wp _ _ _ _ _ _ _ 32 [(0, .ref 331), (1, .int x1), (2, .int x2), (3, .long x3), (5, .int x5), (6, .long (x6 + ((L 343 (((((3 : Int32) * x2) - 3) + x8).toNatClampNeg)) * ((r4 : Int32).toInt64)))), (8, .int (x8 + 1))] [] (HS I4 L4 X)
        refine Wp.sub [0, 1, 2, 3, 4, 5, 6] (ls2 := [(0, .ref 331), (1, .int x1), (2, .int x2), (3, .long x3), (5, .int x5), (6, .long (x6 + ((L 343 (((((3 : Int32) * x2) - 3) + x8).toNatClampNeg)) * ((r4 : Int32).toInt64)))), (8, .int (x8 + 1))]) rfl ?_
        exact ih _ _ _ _ _ _ _ _ q
def LO_M_nextBy_12 (fu : Nat) : Nat → Int32 → Int32 → Int64 → Int32 → (Nat → Nat → Int32) → (Nat → Nat → Int64) → Option (Int64 × (Nat → Nat → Int32) × (Nat → Nat → Int64))
  | 0, _, _, _, _, _, _ => none
  | n + 1, x1, x2, x3, x5, I, L => if 3 ≤ x5 then (some (x3, I, L)) else (if x2 = 0 then (LO_M_nextBy_32 fu (fun x1 x2 x3 x5 I L => LO_M_nextBy_12 fu n x1 x2 x3 x5 I L) fu x1 x2 x3 x5 1 0 I L) else (LO_M_nextBy_32 fu (fun x1 x2 x3 x5 I L => LO_M_nextBy_12 fu n x1 x2 x3 x5 I L) fu x1 x2 x3 x5 0 0 I L))
set_option maxHeartbeats 20000000 in
set_option maxRecDepth 20000 in
theorem lo_M_nextBy_12 {d fu n0 s0 : Nat} {X : Nat × (Nat → Int32)} {Q : PQ} {res : Int64 × (Nat → Nat → Int32) × (Nat → Nat → Int64)}  (g : Q (some (.long res.1)) (HS res.2.1 res.2.2 X)) : ∀ (n : Nat) (x1 : Int32) (x2 : Int32) (x3 : Int64) (x5 : Int32) (I : Nat → Nat → Int32) (L : Nat → Nat → Int64), LO_M_nextBy_12 fu n x1 x2 x3 x5 I L = some res → Wp (Ev (d + 1)) cd_M_nextBy (0, 0) (some .long) n0 s0 Q 12 [(0, .ref 331), (1, .int x1), (2, .int x2), (3, .long x3), (5, .int x5)] [] (HS I L X) := by
  intro n
  induction n with
  | zero => intro _ _ _ _ _ _ q; cases q
  | succ n ih =>
    intro x1 x2 x3 x5 I L q
    unfold LO_M_nextBy_12 at q
    refine w_iload (Ev.cm _) rfl rfl ?_
    refine w_iconst (Ev.cm _) rfl ?_
    refine w_icmp_ge (Ev.cm _) rfl (fun c1 => ?_) (fun c1 => ?_)
    · have c1 : 3 ≤ x5 := c1
      rw [if_pos c1] at q
      refine w_lload_n (Ev.cm _) rfl rfl ?_
      refine w_lreturn (Ev.cm _) rfl rfl rf0 ?_
      cases q
      exact g
    · have c1 : ¬ (3 ≤ x5) := c1
      rw [if_neg c1] at q
      refine w_iload_n (Ev.cm _) rfl rfl ?_
      refine w_if_ne (Ev.cm _) rfl (fun c2 => ?_) (fun c2 => ?_)
      · have c2 : ¬ (x2 = 0) := c2
        rw [if_neg c2] at q
        refine w_lconst (Ev.cm _) rfl ?_
        refine w_lstore (ls2 := [(0, .ref 331), (1, .int x1), (2, .int x2), (3, .long x3), (5, .int x5), (6, .long 0)]) (Ev.cm _) rfl rfl ?_
        refine w_iconst (Ev.cm _) rfl ?_
        refine w_istore (ls2 := [(0, .ref 331), (1, .int x1), (2, .int x2), (3, .long x3), (5, .int x5), (6, .long 0), (8, .int 0)]) (Ev.cm _) rfl rfl ?_
        show Wp _ _ _ _ _ _ _ 32 [(0, .ref 331), (1, .int x1), (2, .int x2), (3, .long x3), (5, .int x5), (6, .long 0), (8, .int 0)] [] (HS I L X)
        refine Wp.sub [0, 1, 2, 3, 4, 5, 6] (ls2 := [(0, .ref 331), (1, .int x1), (2, .int x2), (3, .long x3), (5, .int x5), (6, .long 0), (8, .int 0)]) rfl ?_
        exact lo_M_nextBy_32 g (fun x1 x2 x3 x5 I L q => ih x1 x2 x3 x5 I L q) fu _ _ _ _ _ _ _ _ q
      · have c2 : x2 = 0 := c2
        rw [if_pos c2] at q
        refine w_lconst (Ev.cm _) rfl ?_
        refine w_goto (Ev.cm _) rfl ?_
        refine w_lstore (ls2 := [(0, .ref 331), (1, .int x1), (2, .int x2), (3, .long x3), (5, .int x5), (6, .long 1)]) (Ev.cm _) rfl rfl ?_
        refine w_iconst (Ev.cm _) rfl ?_
        refine w_istore (ls2 := [(0, .ref 331), (1, .int x1), (2, .int x2), (3, .long x3), (5, .int x5), (6, .long 1), (8, .int 0)]) (Ev.cm _) rfl rfl ?_
        show Wp _ _ _ _ _ _ _ 32 [(0, .ref 331), (1, .int x1), (2, .int x2), (3, .long x3), (5, .int x5), (6, .long 1), (8, .int 0)] [] (HS I L X)
        refine Wp.sub [0, 1, 2, 3, 4, 5, 6] (ls2 := [(0, .ref 331), (1, .int x1), (2, .int x2), (3, .long x3), (5, .int x5), (6, .long 1), (8, .int 0)]) rfl ?_
        exact lo_M_nextBy_32 g (fun x1 x2 x3 x5 I L q => ih x1 x2 x3 x5 I L q) fu _ _ _ _ _ _ _ _ q
def FO_M_nextBy (fu : Nat) (p0 : Int32) (I : Nat → Nat → Int32) (L : Nat → Nat → Int64) : Option (Int64 × (Nat → Nat → Int32) × (Nat → Nat → Int64)) := LO_M_nextBy_12 fu fu p0 (I 332 4) 0 0 I L
set_option maxHeartbeats 20000000 in
set_option maxRecDepth 20000 in
theorem eo_M_nextBy {d fu : Nat} {p0 : Int32} {I : Nat → Nat → Int32} {L : Nat → Nat → Int64} {X : Nat × (Nat → Int32)} {Q : PQ} {res : Int64 × (Nat → Nat → Int32) × (Nat → Nat → Int64)}  (g : Q (some (.long res.1)) (HS res.2.1 res.2.2 X)) (q : FO_M_nextBy fu p0 I L = some res) : Ev (d + 2) m_M_nextBy [.ref 331, .int p0] (HS I L X) Q := by
  unfold FO_M_nextBy at q
  refine ev_start (d := d + 1) rfl rfl rfl (Nat.le_of_ble_eq_true rfl) ?_
  show Wp (Ev (d + 1)) cd_M_nextBy (0, 0) (some .long) _ _ Q 0 [(0, .ref 331), (1, .int p0)] [] (HS I L X)
  refine w_aload_n (Ev.cm _) rfl rfl ?_
  refine w_getR (q := 332) (Ev.cm _) rfl (Nat.le_of_ble_eq_true rfl) rfl rfl ?_
  refine w_iconst (Ev.cm _) rfl ?_
  refine w_iald (Ev.cm _) rfl (Nat.le_of_ble_eq_true rfl) rfl (show vp_in 4 1541 from vpI 1541 (by decide) (by decide) (by decide)) ?_
  refine w_istore_n (ls2 := [(0, .ref 331), (1, .int p0), (2, .int (I 332 4))]) (Ev.cm _) rfl rfl ?_
  refine w_lconst (Ev.cm _) rfl ?_
  refine w_lstore_n (ls2 := [(0, .ref 331), (1, .int p0), (2, .int (I 332 4)), (3, .long 0)]) (Ev.cm _) rfl rfl ?_
  refine w_iconst (Ev.cm _) rfl ?_
  refine w_istore (ls2 := [(0, .ref 331), (1, .int p0), (2, .int (I 332 4)), (3, .long 0), (5, .int 0)]) (Ev.cm _) rfl rfl ?_
  show Wp _ _ _ _ _ _ _ 12 [(0, .ref 331), (1, .int p0), (2, .int (I 332 4)), (3, .long 0), (5, .int 0)] [] (HS I L X)
  refine Wp.sub [0, 1, 2, 3, 4] (ls2 := [(0, .ref 331), (1, .int p0), (2, .int (I 332 4)), (3, .long 0), (5, .int 0)]) rfl ?_
  exact lo_M_nextBy_12 g fu _ _ _ _ _ _ q
def FO_M_next (fu : Nat) (p0 : Int32) (p1 : Int32) (I : Nat → Nat → Int32) (L : Nat → Nat → Int64) : Option (Int64 × (Nat → Nat → Int32) × (Nat → Nat → Int64)) := if 0 ≤ p0 ∧ p0 ≤ 2 then ((FO_M_layMoods fu  I L).bind (fun u1 => let r1 := u1.1; let I1 := u1.2.1; let L1 := u1.2.2; (FO_M_nextBy fu 0 I1 L1).bind (fun u2 => let r2 := u2.1; let I2 := u2.2.1; let L2 := u2.2.2; (FO_M_nextBy fu 1 I2 L2).bind (fun u3 => let r3 := u3.1; let I3 := u3.2.1; let L3 := u3.2.2; (FO_M_nextBy fu 2 I3 L3).bind (fun u4 => let r4 := u4.1; let I4 := u4.2.1; let L4 := u4.2.2; if lg_cmp ((r2 + r3) + r4) 0 = 0 then (some ((-1), I4, L4)) else (if p1 = 0 then ((FO_M_nextBy fu p0 I4 L4).bind (fun u5 => let r5 := u5.1; let I5 := u5.2.1; let L5 := u5.2.2; (FO_M_nextBy fu p0 I5 L5).bind (fun u6 => let r6 := u6.1; let I6 := u6.2.1; let L6 := u6.2.2; (FO_M_divisor fu r6 ((r2 + r3) + r4) I6 L6).bind (fun u7 => let r7 := u7.1; let I7 := u7.2.1; let L7 := u7.2.2; if ¬ r7 = 0 then (some (r5 / r7, I7, L7)) else none)))) else ((FO_M_nextBy fu p0 I4 L4).bind (fun u9 => let r9 := u9.1; let I9 := u9.2.1; let L9 := u9.2.2; (FO_M_divisor fu r9 ((r2 + r3) + r4) I9 L9).bind (fun u10 => let r10 := u10.1; let I10 := u10.2.1; let L10 := u10.2.2; if ¬ r10 = 0 then (some (((r2 + r3) + r4) / r10, I10, L10)) else none))))))))) else (some ((-1), I, L))
set_option maxHeartbeats 20000000 in
set_option maxRecDepth 20000 in
theorem eo_M_next {d fu : Nat} {p0 : Int32} {p1 : Int32} {I : Nat → Nat → Int32} {L : Nat → Nat → Int64} {X : Nat × (Nat → Int32)} {Q : PQ} {res : Int64 × (Nat → Nat → Int32) × (Nat → Nat → Int64)}  (g : Q (some (.long res.1)) (HS res.2.1 res.2.2 X)) (q : FO_M_next fu p0 p1 I L = some res) : Ev (d + 3) m_M_next [.ref 331, .int p0, .int p1] (HS I L X) Q := by
  unfold FO_M_next at q
  refine ev_start (d := d + 2) rfl rfl rfl (Nat.le_of_ble_eq_true rfl) ?_
  show Wp (Ev (d + 2)) cd_M_next (0, 0) (some .long) _ _ Q 0 [(0, .ref 331), (1, .int p0), (2, .int p1)] [] (HS I L X)
  refine w_iload_n (Ev.cm _) rfl rfl ?_
  refine w_cstat (as := [.int p0]) (st := []) (Ev.cm _) rfl rfl rfl (Nat.le_of_ble_eq_true rfl) (Nat.le_of_ble_eq_true rfl) (m_isThree ?_)
  show Wp _ _ _ _ _ _ _ 4 [(0, .ref 331), (1, .int p0), (2, .int p1)] [.int (bI (0 ≤ p0 ∧ p0 ≤ 2))] (HS I L X)
  refine w_if_ne (Ev.cm _) rfl (fun c1 => ?_) (fun c1 => ?_)
  · have c1 : 0 ≤ p0 ∧ p0 ≤ 2 := bI_1.mp c1
    rw [if_pos c1] at q
    refine w_aload_n (Ev.cm _) rfl rfl ?_
    obtain ⟨⟨r1, I1, L1⟩, e1, q⟩ := obs q
    dsimp only at q
    refine w_cvirt (o := 331) (as := []) (st := []) (Ev.cm _) rfl rfl rfl (Nat.le_of_ble_eq_true rfl) (Nat.le_of_ble_eq_true rfl) rfl (Nat.le_of_ble_eq_true rfl) (eo_M_layMoods (g := ?_) e1)
    show Wp _ _ _ _ _ _ _ 15 [(0, .ref 331), (1, .int p0), (2, .int p1)] [] (HS I1 L1 X)
    refine w_aload_n (Ev.cm _) rfl rfl ?_
    refine w_iconst (Ev.cm _) rfl ?_
    obtain ⟨⟨r2, I2, L2⟩, e2, q⟩ := obs q
    dsimp only at q
    refine w_cvirt (o := 331) (as := [.int 0]) (st := []) (Ev.cm _) rfl rfl rfl (Nat.le_of_ble_eq_true rfl) (Nat.le_of_ble_eq_true rfl) rfl (Nat.le_of_ble_eq_true rfl) (eo_M_nextBy (g := ?_) e2)
    show Wp _ _ _ _ _ _ _ 20 [(0, .ref 331), (1, .int p0), (2, .int p1)] [.long r2] (HS I2 L2 X)
    refine w_aload_n (Ev.cm _) rfl rfl ?_
    refine w_iconst (Ev.cm _) rfl ?_
    obtain ⟨⟨r3, I3, L3⟩, e3, q⟩ := obs q
    dsimp only at q
    refine w_cvirt (o := 331) (as := [.int 1]) (st := [.long r2]) (Ev.cm _) rfl rfl rfl (Nat.le_of_ble_eq_true rfl) (Nat.le_of_ble_eq_true rfl) rfl (Nat.le_of_ble_eq_true rfl) (eo_M_nextBy (g := ?_) e3)
    show Wp _ _ _ _ _ _ _ 25 [(0, .ref 331), (1, .int p0), (2, .int p1)] [.long r3, .long r2] (HS I3 L3 X)
    refine w_ladd (Ev.cm _) rfl ?_
    refine w_aload_n (Ev.cm _) rfl rfl ?_
    refine w_iconst (Ev.cm _) rfl ?_
    obtain ⟨⟨r4, I4, L4⟩, e4, q⟩ := obs q
    dsimp only at q
    refine w_cvirt (o := 331) (as := [.int 2]) (st := [.long (r2 + r3)]) (Ev.cm _) rfl rfl rfl (Nat.le_of_ble_eq_true rfl) (Nat.le_of_ble_eq_true rfl) rfl (Nat.le_of_ble_eq_true rfl) (eo_M_nextBy (g := ?_) e4)
    show Wp _ _ _ _ _ _ _ 31 [(0, .ref 331), (1, .int p0), (2, .int p1)] [.long r4, .long (r2 + r3)] (HS I4 L4 X)
    refine w_ladd (Ev.cm _) rfl ?_
    refine w_lstore_n (ls2 := [(0, .ref 331), (1, .int p0), (2, .int p1), (3, .long ((r2 + r3) + r4))]) (Ev.cm _) rfl rfl ?_
    refine w_lload_n (Ev.cm _) rfl rfl ?_
    refine w_lconst (Ev.cm _) rfl ?_
    refine w_lcmp (Ev.cm _) rfl ?_
    refine w_if_ne (Ev.cm _) rfl (fun c2 => ?_) (fun c2 => ?_)
    · have c2 : ¬ (lg_cmp ((r2 + r3) + r4) 0 = 0) := c2
      rw [if_neg c2] at q
      refine w_iload_n (Ev.cm _) rfl rfl ?_
      refine w_if_eq (Ev.cm _) rfl (fun c3 => ?_) (fun c3 => ?_)
      · have c3 : p1 = 0 := c3
        rw [if_pos c3] at q
        refine w_aload_n (Ev.cm _) rfl rfl ?_
        refine w_iload_n (Ev.cm _) rfl rfl ?_
        obtain ⟨⟨r5, I5, L5⟩, e5, q⟩ := obs q
        dsimp only at q
        refine w_cvirt (o := 331) (as := [.int p0]) (st := []) (Ev.cm _) rfl rfl rfl (Nat.le_of_ble_eq_true rfl) (Nat.le_of_ble_eq_true rfl) rfl (Nat.le_of_ble_eq_true rfl) (eo_M_nextBy (g := ?_) e5)
        show Wp _ _ _ _ _ _ _ 56 [(0, .ref 331), (1, .int p0), (2, .int p1), (3, .long ((r2 + r3) + r4))] [.long r5] (HS I5 L5 X)
        refine w_aload_n (Ev.cm _) rfl rfl ?_
        refine w_iload_n (Ev.cm _) rfl rfl ?_
        obtain ⟨⟨r6, I6, L6⟩, e6, q⟩ := obs q
        dsimp only at q
        refine w_cvirt (o := 331) (as := [.int p0]) (st := [.long r5]) (Ev.cm _) rfl rfl rfl (Nat.le_of_ble_eq_true rfl) (Nat.le_of_ble_eq_true rfl) rfl (Nat.le_of_ble_eq_true rfl) (eo_M_nextBy (g := ?_) e6)
        show Wp _ _ _ _ _ _ _ 61 [(0, .ref 331), (1, .int p0), (2, .int p1), (3, .long ((r2 + r3) + r4))] [.long r6, .long r5] (HS I6 L6 X)
        refine w_lload_n (Ev.cm _) rfl rfl ?_
        obtain ⟨⟨r7, I7, L7⟩, e7, q⟩ := obs q
        dsimp only at q
        refine w_cstat (as := [.long r6, .long ((r2 + r3) + r4)]) (st := [.long r5]) (Ev.cm _) rfl rfl rfl (Nat.le_of_ble_eq_true rfl) (Nat.le_of_ble_eq_true rfl) (eo_M_divisor (g := ?_) e7)
        show Wp _ _ _ _ _ _ _ 65 [(0, .ref 331), (1, .int p0), (2, .int p1), (3, .long ((r2 + r3) + r4))] [.long r7, .long r5] (HS I7 L7 X)
        obtain ⟨b8, q⟩ := ois q
        refine w_ldiv (Ev.cm _) rfl b8 ?_
        refine w_lreturn (Ev.cm _) rfl rfl rf0 ?_
        cases q
        exact g
      · have c3 : ¬ (p1 = 0) := c3
        rw [if_neg c3] at q
        refine w_lload_n (Ev.cm _) rfl rfl ?_
        refine w_goto (Ev.cm _) rfl ?_
        refine w_aload_n (Ev.cm _) rfl rfl ?_
        refine w_iload_n (Ev.cm _) rfl rfl ?_
        obtain ⟨⟨r9, I9, L9⟩, e9, q⟩ := obs q
        dsimp only at q
        refine w_cvirt (o := 331) (as := [.int p0]) (st := [.long ((r2 + r3) + r4)]) (Ev.cm _) rfl rfl rfl (Nat.le_of_ble_eq_true rfl) (Nat.le_of_ble_eq_true rfl) rfl (Nat.le_of_ble_eq_true rfl) (eo_M_nextBy (g := ?_) e9)
        show Wp _ _ _ _ _ _ _ 61 [(0, .ref 331), (1, .int p0), (2, .int p1), (3, .long ((r2 + r3) + r4))] [.long r9, .long ((r2 + r3) + r4)] (HS I9 L9 X)
        refine w_lload_n (Ev.cm _) rfl rfl ?_
        obtain ⟨⟨r10, I10, L10⟩, e10, q⟩ := obs q
        dsimp only at q
        refine w_cstat (as := [.long r9, .long ((r2 + r3) + r4)]) (st := [.long ((r2 + r3) + r4)]) (Ev.cm _) rfl rfl rfl (Nat.le_of_ble_eq_true rfl) (Nat.le_of_ble_eq_true rfl) (eo_M_divisor (g := ?_) e10)
        show Wp _ _ _ _ _ _ _ 65 [(0, .ref 331), (1, .int p0), (2, .int p1), (3, .long ((r2 + r3) + r4))] [.long r10, .long ((r2 + r3) + r4)] (HS I10 L10 X)
        obtain ⟨b11, q⟩ := ois q
        refine w_ldiv (Ev.cm _) rfl b11 ?_
        refine w_lreturn (Ev.cm _) rfl rfl rf0 ?_
        cases q
        exact g
    · have c2 : lg_cmp ((r2 + r3) + r4) 0 = 0 := c2
      rw [if_pos c2] at q
      refine w_ldc2_w (Ev.cm _) rfl ?_
      refine w_lreturn (Ev.cm _) rfl rfl rf0 ?_
      cases q
      exact g
  · have c1 : ¬ (0 ≤ p0 ∧ p0 ≤ 2) := bI_0.mp c1
    rw [if_neg c1] at q
    refine w_ldc2_w (Ev.cm _) rfl ?_
    refine w_lreturn (Ev.cm _) rfl rfl rf0 ?_
    cases q
    exact g
def LO_M_twosOf_19 (fu : Nat) : Nat → Int32 → Int32 → Int32 → (Nat → Nat → Int32) → (Nat → Nat → Int64) → Option (Int32 × (Nat → Nat → Int32) × (Nat → Nat → Int64))
  | 0, _, _, _, _, _ => none
  | n + 1, x0, x1, x2, I, L => if x2 ≤ 0 then (some (x1, I, L)) else (if ¬ x2 = 0 then (if iR (x0 / x2) 10 < 1 then (some ((-1), I, L)) else (if iR (x0 / x2) 10 ≤ 2 then (LO_M_twosOf_19 fu n x0 ((((2 : Int32) * x1) + (iR (x0 / x2) 10)) - 1) (x2 / 10) I L) else (some ((-1), I, L)))) else none)
set_option maxHeartbeats 20000000 in
set_option maxRecDepth 20000 in
theorem lo_M_twosOf_19 {d fu n0 s0 : Nat} {X : Nat × (Nat → Int32)} {Q : PQ} {res : Int32 × (Nat → Nat → Int32) × (Nat → Nat → Int64)}  (g : Q (some (.int res.1)) (HS res.2.1 res.2.2 X)) : ∀ (n : Nat) (x0 : Int32) (x1 : Int32) (x2 : Int32) (I : Nat → Nat → Int32) (L : Nat → Nat → Int64), LO_M_twosOf_19 fu n x0 x1 x2 I L = some res → Wp (Ev (d + 0)) cd_M_twosOf (0, 0) (some .int) n0 s0 Q 19 [(0, .int x0), (1, .int x1), (2, .int x2)] [] (HS I L X) := by
  intro n
  induction n with
  | zero => intro _ _ _ _ _ q; cases q
  | succ n ih =>
    intro x0 x1 x2 I L q
    unfold LO_M_twosOf_19 at q
    refine w_iload_n (Ev.cm _) rfl rfl ?_
    refine w_if_le (Ev.cm _) rfl (fun c1 => ?_) (fun c1 => ?_)
    · have c1 : x2 ≤ 0 := c1
      rw [if_pos c1] at q
      refine w_iload_n (Ev.cm _) rfl rfl ?_
      refine w_ireturn (Ev.cm _) rfl trivial rf0 ?_
      cases q
      exact g
    · have c1 : ¬ (x2 ≤ 0) := c1
      rw [if_neg c1] at q
      refine w_iload_n (Ev.cm _) rfl rfl ?_
      refine w_iload_n (Ev.cm _) rfl rfl ?_
      obtain ⟨b1, q⟩ := ois q
      refine w_idiv (Ev.cm _) rfl b1 ?_
      refine w_bipush (Ev.cm _) rfl ?_
      refine w_irem (Ev.cm _) rfl (by decide) ?_
      refine w_istore_n (ls2 := [(0, .int x0), (1, .int x1), (2, .int x2), (3, .int (iR (x0 / x2) 10))]) (Ev.cm _) rfl rfl ?_
      refine w_iload_n (Ev.cm _) rfl rfl ?_
      refine w_iconst (Ev.cm _) rfl ?_
      refine w_icmp_lt (Ev.cm _) rfl (fun c2 => ?_) (fun c2 => ?_)
      · have c2 : iR (x0 / x2) 10 < 1 := c2
        rw [if_pos c2] at q
        refine w_iconst (Ev.cm _) rfl ?_
        refine w_ireturn (Ev.cm _) rfl trivial rf0 ?_
        cases q
        exact g
      · have c2 : ¬ (iR (x0 / x2) 10 < 1) := c2
        rw [if_neg c2] at q
        refine w_iload_n (Ev.cm _) rfl rfl ?_
        refine w_iconst (Ev.cm _) rfl ?_
        refine w_icmp_le (Ev.cm _) rfl (fun c3 => ?_) (fun c3 => ?_)
        · have c3 : iR (x0 / x2) 10 ≤ 2 := c3
          rw [if_pos c3] at q
          refine w_iconst (Ev.cm _) rfl ?_
          refine w_iload_n (Ev.cm _) rfl rfl ?_
          refine w_imul (Ev.cm _) rfl ?_
          refine w_iload_n (Ev.cm _) rfl rfl ?_
          refine w_iadd (Ev.cm _) rfl ?_
          refine w_iconst (Ev.cm _) rfl ?_
          refine w_isub (Ev.cm _) rfl ?_
          refine w_istore_n (ls2 := [(0, .int x0), (1, .int ((((2 : Int32) * x1) + (iR (x0 / x2) 10)) - 1)), (2, .int x2), (3, .int (iR (x0 / x2) 10))]) (Ev.cm _) rfl rfl ?_
          refine w_iload_n (Ev.cm _) rfl rfl ?_
          refine w_bipush (Ev.cm _) rfl ?_
          refine w_idiv (Ev.cm _) rfl (by decide) ?_
          refine w_istore_n (ls2 := [(0, .int x0), (1, .int ((((2 : Int32) * x1) + (iR (x0 / x2) 10)) - 1)), (2, .int (x2 / 10)), (3, .int (iR (x0 / x2) 10))]) (Ev.cm _) rfl rfl ?_
          refine w_goto (Ev.cm _) rfl ?_
          show Wp _ _ _ _ _ _ _ 19 [(0, .int x0), (1, .int ((((2 : Int32) * x1) + (iR (x0 / x2) 10)) - 1)), (2, .int (x2 / 10)), (3, .int (iR (x0 / x2) 10))] [] (HS I L X)
          refine Wp.sub [0, 1, 2] (ls2 := [(0, .int x0), (1, .int ((((2 : Int32) * x1) + (iR (x0 / x2) 10)) - 1)), (2, .int (x2 / 10))]) rfl ?_
          exact ih _ _ _ _ _ q
        · have c3 : ¬ (iR (x0 / x2) 10 ≤ 2) := c3
          rw [if_neg c3] at q
          refine w_iconst (Ev.cm _) rfl ?_
          refine w_ireturn (Ev.cm _) rfl trivial rf0 ?_
          cases q
          exact g
def LO_M_twosOf_6 (fu : Nat) : Nat → Int32 → Int32 → Int32 → (Nat → Nat → Int32) → (Nat → Nat → Int64) → Option (Int32 × (Nat → Nat → Int32) × (Nat → Nat → Int64))
  | 0, _, _, _, _, _ => none
  | n + 1, x0, x1, x2, I, L => if x2 ≤ x0 then (LO_M_twosOf_19 fu fu x0 x1 x2 I L) else (LO_M_twosOf_6 fu n x0 x1 (x2 / 10) I L)
set_option maxHeartbeats 20000000 in
set_option maxRecDepth 20000 in
theorem lo_M_twosOf_6 {d fu n0 s0 : Nat} {X : Nat × (Nat → Int32)} {Q : PQ} {res : Int32 × (Nat → Nat → Int32) × (Nat → Nat → Int64)}  (g : Q (some (.int res.1)) (HS res.2.1 res.2.2 X)) : ∀ (n : Nat) (x0 : Int32) (x1 : Int32) (x2 : Int32) (I : Nat → Nat → Int32) (L : Nat → Nat → Int64), LO_M_twosOf_6 fu n x0 x1 x2 I L = some res → Wp (Ev (d + 0)) cd_M_twosOf (0, 0) (some .int) n0 s0 Q 6 [(0, .int x0), (1, .int x1), (2, .int x2)] [] (HS I L X) := by
  intro n
  induction n with
  | zero => intro _ _ _ _ _ q; cases q
  | succ n ih =>
    intro x0 x1 x2 I L q
    unfold LO_M_twosOf_6 at q
    refine w_iload_n (Ev.cm _) rfl rfl ?_
    refine w_iload_n (Ev.cm _) rfl rfl ?_
    refine w_icmp_le (Ev.cm _) rfl (fun c1 => ?_) (fun c1 => ?_)
    · have c1 : x2 ≤ x0 := c1
      rw [if_pos c1] at q
      show Wp _ _ _ _ _ _ _ 19 [(0, .int x0), (1, .int x1), (2, .int x2)] [] (HS I L X)
      refine Wp.sub [0, 1, 2] (ls2 := [(0, .int x0), (1, .int x1), (2, .int x2)]) rfl ?_
      exact lo_M_twosOf_19 g fu _ _ _ _ _ q
    · have c1 : ¬ (x2 ≤ x0) := c1
      rw [if_neg c1] at q
      refine w_iload_n (Ev.cm _) rfl rfl ?_
      refine w_bipush (Ev.cm _) rfl ?_
      refine w_idiv (Ev.cm _) rfl (by decide) ?_
      refine w_istore_n (ls2 := [(0, .int x0), (1, .int x1), (2, .int (x2 / 10))]) (Ev.cm _) rfl rfl ?_
      refine w_goto (Ev.cm _) rfl ?_
      show Wp _ _ _ _ _ _ _ 6 [(0, .int x0), (1, .int x1), (2, .int (x2 / 10))] [] (HS I L X)
      refine Wp.sub [0, 1, 2] (ls2 := [(0, .int x0), (1, .int x1), (2, .int (x2 / 10))]) rfl ?_
      exact ih _ _ _ _ _ q
def FO_M_twosOf (fu : Nat) (p0 : Int32) (I : Nat → Nat → Int32) (L : Nat → Nat → Int64) : Option (Int32 × (Nat → Nat → Int32) × (Nat → Nat → Int64)) := LO_M_twosOf_6 fu fu p0 1 10000000 I L
set_option maxHeartbeats 20000000 in
set_option maxRecDepth 20000 in
theorem eo_M_twosOf {d fu : Nat} {p0 : Int32} {I : Nat → Nat → Int32} {L : Nat → Nat → Int64} {X : Nat × (Nat → Int32)} {Q : PQ} {res : Int32 × (Nat → Nat → Int32) × (Nat → Nat → Int64)}  (g : Q (some (.int res.1)) (HS res.2.1 res.2.2 X)) (q : FO_M_twosOf fu p0 I L = some res) : Ev (d + 1) m_M_twosOf [.int p0] (HS I L X) Q := by
  unfold FO_M_twosOf at q
  refine ev_start (d := d + 0) rfl rfl rfl (Nat.le_of_ble_eq_true rfl) ?_
  show Wp (Ev (d + 0)) cd_M_twosOf (0, 0) (some .int) _ _ Q 0 [(0, .int p0)] [] (HS I L X)
  refine w_iconst (Ev.cm _) rfl ?_
  refine w_istore_n (ls2 := [(0, .int p0), (1, .int 1)]) (Ev.cm _) rfl rfl ?_
  refine w_ldc_w (Ev.cm _) rfl ?_
  refine w_istore_n (ls2 := [(0, .int p0), (1, .int 1), (2, .int 10000000)]) (Ev.cm _) rfl rfl ?_
  show Wp _ _ _ _ _ _ _ 6 [(0, .int p0), (1, .int 1), (2, .int 10000000)] [] (HS I L X)
  refine Wp.sub [0, 1, 2] (ls2 := [(0, .int p0), (1, .int 1), (2, .int 10000000)]) rfl ?_
  exact lo_M_twosOf_6 g fu _ _ _ _ _ q
def LO_M_lengthOf_4 (fu : Nat) : Nat → Int32 → Int32 → Int32 → (Nat → Nat → Int32) → (Nat → Nat → Int64) → Option (Int32 × (Nat → Nat → Int32) × (Nat → Nat → Int64))
  | 0, _, _, _, _, _ => none
  | n + 1, x0, x1, x2, I, L => if x2 ≤ 1 then (some (x1, I, L)) else (LO_M_lengthOf_4 fu n x0 (x1 + 1) (x2 / 2) I L)
set_option maxHeartbeats 20000000 in
set_option maxRecDepth 20000 in
theorem lo_M_lengthOf_4 {d fu n0 s0 : Nat} {X : Nat × (Nat → Int32)} {Q : PQ} {res : Int32 × (Nat → Nat → Int32) × (Nat → Nat → Int64)}  (g : Q (some (.int res.1)) (HS res.2.1 res.2.2 X)) : ∀ (n : Nat) (x0 : Int32) (x1 : Int32) (x2 : Int32) (I : Nat → Nat → Int32) (L : Nat → Nat → Int64), LO_M_lengthOf_4 fu n x0 x1 x2 I L = some res → Wp (Ev (d + 0)) cd_M_lengthOf (0, 0) (some .int) n0 s0 Q 4 [(0, .int x0), (1, .int x1), (2, .int x2)] [] (HS I L X) := by
  intro n
  induction n with
  | zero => intro _ _ _ _ _ q; cases q
  | succ n ih =>
    intro x0 x1 x2 I L q
    unfold LO_M_lengthOf_4 at q
    refine w_iload_n (Ev.cm _) rfl rfl ?_
    refine w_iconst (Ev.cm _) rfl ?_
    refine w_icmp_le (Ev.cm _) rfl (fun c1 => ?_) (fun c1 => ?_)
    · have c1 : x2 ≤ 1 := c1
      rw [if_pos c1] at q
      refine w_iload_n (Ev.cm _) rfl rfl ?_
      refine w_ireturn (Ev.cm _) rfl trivial rf0 ?_
      cases q
      exact g
    · have c1 : ¬ (x2 ≤ 1) := c1
      rw [if_neg c1] at q
      refine w_iinc (ls2 := [(0, .int x0), (1, .int (x1 + 1)), (2, .int x2)]) (Ev.cm _) rfl rfl rfl ?_
      refine w_iload_n (Ev.cm _) rfl rfl ?_
      refine w_iconst (Ev.cm _) rfl ?_
      refine w_idiv (Ev.cm _) rfl (by decide) ?_
      refine w_istore_n (ls2 := [(0, .int x0), (1, .int (x1 + 1)), (2, .int (x2 / 2))]) (Ev.cm _) rfl rfl ?_
      refine w_goto (Ev.cm _) rfl ?_
      show Wp _ _ _ _ _ _ _ 4 [(0, .int x0), (1, .int (x1 + 1)), (2, .int (x2 / 2))] [] (HS I L X)
      refine Wp.sub [0, 1, 2] (ls2 := [(0, .int x0), (1, .int (x1 + 1)), (2, .int (x2 / 2))]) rfl ?_
      exact ih _ _ _ _ _ q
def FO_M_lengthOf (fu : Nat) (p0 : Int32) (I : Nat → Nat → Int32) (L : Nat → Nat → Int64) : Option (Int32 × (Nat → Nat → Int32) × (Nat → Nat → Int64)) := LO_M_lengthOf_4 fu fu p0 0 p0 I L
set_option maxHeartbeats 20000000 in
set_option maxRecDepth 20000 in
theorem eo_M_lengthOf {d fu : Nat} {p0 : Int32} {I : Nat → Nat → Int32} {L : Nat → Nat → Int64} {X : Nat × (Nat → Int32)} {Q : PQ} {res : Int32 × (Nat → Nat → Int32) × (Nat → Nat → Int64)}  (g : Q (some (.int res.1)) (HS res.2.1 res.2.2 X)) (q : FO_M_lengthOf fu p0 I L = some res) : Ev (d + 1) m_M_lengthOf [.int p0] (HS I L X) Q := by
  unfold FO_M_lengthOf at q
  refine ev_start (d := d + 0) rfl rfl rfl (Nat.le_of_ble_eq_true rfl) ?_
  show Wp (Ev (d + 0)) cd_M_lengthOf (0, 0) (some .int) _ _ Q 0 [(0, .int p0)] [] (HS I L X)
  refine w_iconst (Ev.cm _) rfl ?_
  refine w_istore_n (ls2 := [(0, .int p0), (1, .int 0)]) (Ev.cm _) rfl rfl ?_
  refine w_iload_n (Ev.cm _) rfl rfl ?_
  refine w_istore_n (ls2 := [(0, .int p0), (1, .int 0), (2, .int p0)]) (Ev.cm _) rfl rfl ?_
  show Wp _ _ _ _ _ _ _ 4 [(0, .int p0), (1, .int 0), (2, .int p0)] [] (HS I L X)
  refine Wp.sub [0, 1, 2] (ls2 := [(0, .int p0), (1, .int 0), (2, .int p0)]) rfl ?_
  exact lo_M_lengthOf_4 g fu _ _ _ _ _ q
def FO_M_restOf (fu : Nat) (p0 : Int32) (p1 : Int32) (I : Nat → Nat → Int32) (L : Nat → Nat → Int64) : Option (Int32 × (Nat → Nat → Int32) × (Nat → Nat → Int64)) := (FO_M_lengthOf fu p0 I L).bind (fun u1 => let r1 := u1.1; let I1 := u1.2.1; let L1 := u1.2.2; (FO_M_lengthOf fu p1 I1 L1).bind (fun u2 => let r2 := u2.1; let I2 := u2.2.1; let L2 := u2.2.2; if r1 - r2 < 0 then (some ((-1), I2, L2)) else (if p0 >>> ((r1 - r2) &&& 31) = p1 then (some (((1 : Int32) <<< ((r1 - r2) &&& 31)) ||| (p0 &&& (((1 : Int32) <<< ((r1 - r2) &&& 31)) - 1)), I2, L2)) else (some ((-1), I2, L2)))))
set_option maxHeartbeats 20000000 in
set_option maxRecDepth 20000 in
theorem eo_M_restOf {d fu : Nat} {p0 : Int32} {p1 : Int32} {I : Nat → Nat → Int32} {L : Nat → Nat → Int64} {X : Nat × (Nat → Int32)} {Q : PQ} {res : Int32 × (Nat → Nat → Int32) × (Nat → Nat → Int64)}  (g : Q (some (.int res.1)) (HS res.2.1 res.2.2 X)) (q : FO_M_restOf fu p0 p1 I L = some res) : Ev (d + 2) m_M_restOf [.int p0, .int p1] (HS I L X) Q := by
  unfold FO_M_restOf at q
  refine ev_start (d := d + 1) rfl rfl rfl (Nat.le_of_ble_eq_true rfl) ?_
  show Wp (Ev (d + 1)) cd_M_restOf (0, 0) (some .int) _ _ Q 0 [(0, .int p0), (1, .int p1)] [] (HS I L X)
  refine w_iload_n (Ev.cm _) rfl rfl ?_
  obtain ⟨⟨r1, I1, L1⟩, e1, q⟩ := obs q
  dsimp only at q
  refine w_cstat (as := [.int p0]) (st := []) (Ev.cm _) rfl rfl rfl (Nat.le_of_ble_eq_true rfl) (Nat.le_of_ble_eq_true rfl) (eo_M_lengthOf (g := ?_) e1)
  show Wp _ _ _ _ _ _ _ 4 [(0, .int p0), (1, .int p1)] [.int r1] (HS I1 L1 X)
  refine w_iload_n (Ev.cm _) rfl rfl ?_
  obtain ⟨⟨r2, I2, L2⟩, e2, q⟩ := obs q
  dsimp only at q
  refine w_cstat (as := [.int p1]) (st := [.int r1]) (Ev.cm _) rfl rfl rfl (Nat.le_of_ble_eq_true rfl) (Nat.le_of_ble_eq_true rfl) (eo_M_lengthOf (g := ?_) e2)
  show Wp _ _ _ _ _ _ _ 8 [(0, .int p0), (1, .int p1)] [.int r2, .int r1] (HS I2 L2 X)
  refine w_isub (Ev.cm _) rfl ?_
  refine w_istore_n (ls2 := [(0, .int p0), (1, .int p1), (2, .int (r1 - r2))]) (Ev.cm _) rfl rfl ?_
  refine w_iload_n (Ev.cm _) rfl rfl ?_
  refine w_if_lt (Ev.cm _) rfl (fun c1 => ?_) (fun c1 => ?_)
  · have c1 : r1 - r2 < 0 := c1
    rw [if_pos c1] at q
    refine w_iconst (Ev.cm _) rfl ?_
    refine w_goto (Ev.cm _) rfl ?_
    refine w_ireturn (Ev.cm _) rfl trivial rf0 ?_
    cases q
    exact g
  · have c1 : ¬ (r1 - r2 < 0) := c1
    rw [if_neg c1] at q
    refine w_iload_n (Ev.cm _) rfl rfl ?_
    refine w_iload_n (Ev.cm _) rfl rfl ?_
    refine w_ishr (Ev.cm _) rfl ?_
    refine w_iload_n (Ev.cm _) rfl rfl ?_
    refine w_icmp_eq (Ev.cm _) rfl (fun c2 => ?_) (fun c2 => ?_)
    · have c2 : p0 >>> ((r1 - r2) &&& 31) = p1 := c2
      rw [if_pos c2] at q
      refine w_iconst (Ev.cm _) rfl ?_
      refine w_iload_n (Ev.cm _) rfl rfl ?_
      refine w_ishl (Ev.cm _) rfl ?_
      refine w_iload_n (Ev.cm _) rfl rfl ?_
      refine w_iconst (Ev.cm _) rfl ?_
      refine w_iload_n (Ev.cm _) rfl rfl ?_
      refine w_ishl (Ev.cm _) rfl ?_
      refine w_iconst (Ev.cm _) rfl ?_
      refine w_isub (Ev.cm _) rfl ?_
      refine w_iand (Ev.cm _) rfl ?_
      refine w_ior (Ev.cm _) rfl ?_
      refine w_ireturn (Ev.cm _) rfl trivial rf0 ?_
      cases q
      exact g
    · have c2 : ¬ (p0 >>> ((r1 - r2) &&& 31) = p1) := c2
      rw [if_neg c2] at q
      refine w_iconst (Ev.cm _) rfl ?_
      refine w_goto (Ev.cm _) rfl ?_
      refine w_ireturn (Ev.cm _) rfl trivial rf0 ?_
      cases q
      exact g
def FO_M_wordAt (fu : Nat) (p0 : Int32) (I : Nat → Nat → Int32) (L : Nat → Nat → Int64) : Option (Int32 × (Nat → Nat → Int32) × (Nat → Nat → Int64)) := if 0 ≤ (66 : Int32) + p0 ∧ (66 : Int32) + p0 < 1541 then ((FO_M_twosOf fu (I 332 (((66 : Int32) + p0).toNatClampNeg)) I L).bind (fun u2 => let r2 := u2.1; let I2 := u2.2.1; let L2 := u2.2.2; some (r2, I2, L2))) else none
set_option maxHeartbeats 20000000 in
set_option maxRecDepth 20000 in
theorem eo_M_wordAt {d fu : Nat} {p0 : Int32} {I : Nat → Nat → Int32} {L : Nat → Nat → Int64} {X : Nat × (Nat → Int32)} {Q : PQ} {res : Int32 × (Nat → Nat → Int32) × (Nat → Nat → Int64)}  (g : Q (some (.int res.1)) (HS res.2.1 res.2.2 X)) (q : FO_M_wordAt fu p0 I L = some res) : Ev (d + 2) m_M_wordAt [.ref 331, .int p0] (HS I L X) Q := by
  unfold FO_M_wordAt at q
  refine ev_start (d := d + 1) rfl rfl rfl (Nat.le_of_ble_eq_true rfl) ?_
  show Wp (Ev (d + 1)) cd_M_wordAt (0, 0) (some .int) _ _ Q 0 [(0, .ref 331), (1, .int p0)] [] (HS I L X)
  refine w_aload_n (Ev.cm _) rfl rfl ?_
  refine w_getR (q := 332) (Ev.cm _) rfl (Nat.le_of_ble_eq_true rfl) rfl rfl ?_
  refine w_bipush (Ev.cm _) rfl ?_
  refine w_iload_n (Ev.cm _) rfl rfl ?_
  refine w_iadd (Ev.cm _) rfl ?_
  obtain ⟨b1, q⟩ := ois q
  refine w_iald (Ev.cm _) rfl (Nat.le_of_ble_eq_true rfl) rfl (show vp_in ((66 : Int32) + p0) 1541 from vpI 1541 (by decide) b1.1 b1.2) ?_
  obtain ⟨⟨r2, I2, L2⟩, e2, q⟩ := obs q
  dsimp only at q
  refine w_cstat (as := [.int (I 332 (((66 : Int32) + p0).toNatClampNeg))]) (st := []) (Ev.cm _) rfl rfl rfl (Nat.le_of_ble_eq_true rfl) (Nat.le_of_ble_eq_true rfl) (eo_M_twosOf (g := ?_) e2)
  show Wp _ _ _ _ _ _ _ 12 [(0, .ref 331), (1, .int p0)] [.int r2] (HS I2 L2 X)
  refine w_ireturn (Ev.cm _) rfl trivial rf0 ?_
  cases q
  exact g
def LO_M_code_48 (fu : Nat) : Nat → Int32 → Int32 → (Nat → Nat → Int32) → (Nat → Nat → Int64) → Option (Int32 × (Nat → Nat → Int32) × (Nat → Nat → Int64))
  | 0, _, _, _, _ => none
  | n + 1, x1, x2, I, L => if I 332 5 ≤ x2 then (if 0 ≤ (66 : Int32) + (I 332 5) ∧ (66 : Int32) + (I 332 5) < 1541 then (some (((sI I 332 (((66 : Int32) + (I 332 5)).toNatClampNeg) x1) 332 5) + 1, sI (sI I 332 (((66 : Int32) + (I 332 5)).toNatClampNeg) x1) 332 5 (((sI I 332 (((66 : Int32) + (I 332 5)).toNatClampNeg) x1) 332 5) + 1), L)) else none) else (if 0 ≤ (66 : Int32) + x2 ∧ (66 : Int32) + x2 < 1541 then (if I 332 (((66 : Int32) + x2).toNatClampNeg) = x1 then (some ((-2), I, L)) else (LO_M_code_48 fu n x1 (x2 + 1) I L)) else none)
set_option maxHeartbeats 20000000 in
set_option maxRecDepth 20000 in
theorem lo_M_code_48 {d fu n0 s0 : Nat} {X : Nat × (Nat → Int32)} {Q : PQ} {res : Int32 × (Nat → Nat → Int32) × (Nat → Nat → Int64)}  (g : Q (some (.int res.1)) (HS res.2.1 res.2.2 X)) : ∀ (n : Nat) (x1 : Int32) (x2 : Int32) (I : Nat → Nat → Int32) (L : Nat → Nat → Int64), LO_M_code_48 fu n x1 x2 I L = some res → Wp (Ev (d + 1)) cd_M_code (0, 0) (some .int) n0 s0 Q 48 [(0, .ref 331), (1, .int x1), (2, .int x2)] [] (HS I L X) := by
  intro n
  induction n with
  | zero => intro _ _ _ _ q; cases q
  | succ n ih =>
    intro x1 x2 I L q
    unfold LO_M_code_48 at q
    refine w_iload_n (Ev.cm _) rfl rfl ?_
    refine w_aload_n (Ev.cm _) rfl rfl ?_
    refine w_getR (q := 332) (Ev.cm _) rfl (Nat.le_of_ble_eq_true rfl) rfl rfl ?_
    refine w_iconst (Ev.cm _) rfl ?_
    refine w_iald (Ev.cm _) rfl (Nat.le_of_ble_eq_true rfl) rfl (show vp_in 5 1541 from vpI 1541 (by decide) (by decide) (by decide)) ?_
    refine w_icmp_ge (Ev.cm _) rfl (fun c1 => ?_) (fun c1 => ?_)
    · have c1 : I 332 5 ≤ x2 := c1
      rw [if_pos c1] at q
      refine w_aload_n (Ev.cm _) rfl rfl ?_
      refine w_getR (q := 332) (Ev.cm _) rfl (Nat.le_of_ble_eq_true rfl) rfl rfl ?_
      refine w_bipush (Ev.cm _) rfl ?_
      refine w_aload_n (Ev.cm _) rfl rfl ?_
      refine w_getR (q := 332) (Ev.cm _) rfl (Nat.le_of_ble_eq_true rfl) rfl rfl ?_
      refine w_iconst (Ev.cm _) rfl ?_
      refine w_iald (Ev.cm _) rfl (Nat.le_of_ble_eq_true rfl) rfl (show vp_in 5 1541 from vpI 1541 (by decide) (by decide) (by decide)) ?_
      refine w_iadd (Ev.cm _) rfl ?_
      refine w_iload_n (Ev.cm _) rfl rfl ?_
      obtain ⟨b1, q⟩ := ois q
      refine w_iast (Ev.cm _) rfl (Nat.le_of_ble_eq_true rfl) rfl (show vp_in ((66 : Int32) + (I 332 5)) 1541 from vpI 1541 (by decide) b1.1 b1.2) ?_
      refine w_aload_n (Ev.cm _) rfl rfl ?_
      refine w_getR (q := 332) (Ev.cm _) rfl (Nat.le_of_ble_eq_true rfl) rfl rfl ?_
      refine w_iconst (Ev.cm _) rfl ?_
      refine w_dup2 (Ev.cm _) rfl rfl rfl ?_
      refine w_iald (Ev.cm _) rfl (Nat.le_of_ble_eq_true rfl) rfl (show vp_in 5 1541 from vpI 1541 (by decide) (by decide) (by decide)) ?_
      refine w_iconst (Ev.cm _) rfl ?_
      refine w_iadd (Ev.cm _) rfl ?_
      refine w_iast (Ev.cm _) rfl (Nat.le_of_ble_eq_true rfl) rfl (show vp_in 5 1541 from vpI 1541 (by decide) (by decide) (by decide)) ?_
      refine w_aload_n (Ev.cm _) rfl rfl ?_
      refine w_getR (q := 332) (Ev.cm _) rfl (Nat.le_of_ble_eq_true rfl) rfl rfl ?_
      refine w_iconst (Ev.cm _) rfl ?_
      refine w_iald (Ev.cm _) rfl (Nat.le_of_ble_eq_true rfl) rfl (show vp_in 5 1541 from vpI 1541 (by decide) (by decide) (by decide)) ?_
      refine w_ireturn (Ev.cm _) rfl trivial rf0 ?_
      cases q
      exact g
    · have c1 : ¬ (I 332 5 ≤ x2) := c1
      rw [if_neg c1] at q
      refine w_aload_n (Ev.cm _) rfl rfl ?_
      refine w_getR (q := 332) (Ev.cm _) rfl (Nat.le_of_ble_eq_true rfl) rfl rfl ?_
      refine w_bipush (Ev.cm _) rfl ?_
      refine w_iload_n (Ev.cm _) rfl rfl ?_
      refine w_iadd (Ev.cm _) rfl ?_
      obtain ⟨b2, q⟩ := ois q
      refine w_iald (Ev.cm _) rfl (Nat.le_of_ble_eq_true rfl) rfl (show vp_in ((66 : Int32) + x2) 1541 from vpI 1541 (by decide) b2.1 b2.2) ?_
      refine w_iload_n (Ev.cm _) rfl rfl ?_
      refine w_icmp_ne (Ev.cm _) rfl (fun c2 => ?_) (fun c2 => ?_)
      · have c2 : ¬ (I 332 (((66 : Int32) + x2).toNatClampNeg) = x1) := c2
        rw [if_neg c2] at q
        refine w_iinc (ls2 := [(0, .ref 331), (1, .int x1), (2, .int (x2 + 1))]) (Ev.cm _) rfl rfl rfl ?_
        refine w_goto (Ev.cm _) rfl ?_
        show Wp _ _ _ _ _ _ _ 48 [(0, .ref 331), (1, .int x1), (2, .int (x2 + 1))] [] (HS I L X)
        refine Wp.sub [0, 1, 2] (ls2 := [(0, .ref 331), (1, .int x1), (2, .int (x2 + 1))]) rfl ?_
        exact ih _ _ _ _ q
      · have c2 : I 332 (((66 : Int32) + x2).toNatClampNeg) = x1 := c2
        rw [if_pos c2] at q
        refine w_bipush (Ev.cm _) rfl ?_
        refine w_ireturn (Ev.cm _) rfl trivial rf0 ?_
        cases q
        exact g
def FO_M_code (fu : Nat) (p0 : Int32) (I : Nat → Nat → Int32) (L : Nat → Nat → Int64) : Option (Int32 × (Nat → Nat → Int32) × (Nat → Nat → Int64)) := if p0 = (-1) then (some (0, sI I 332 5 0, L)) else (if (1 : Int32) ≤ p0 ∧ p0 ≤ (22222 : Int32) then ((FO_M_twosOf fu p0 I L).bind (fun u1 => let r1 := u1.1; let I1 := u1.2.1; let L1 := u1.2.2; if r1 = (-1) then (some ((-2), I1, L1)) else (if I1 332 5 = 5 then (some ((-2), I1, L1)) else (LO_M_code_48 fu fu p0 0 I1 L1)))) else (some ((-2), I, L)))
set_option maxHeartbeats 20000000 in
set_option maxRecDepth 20000 in
theorem eo_M_code {d fu : Nat} {p0 : Int32} {I : Nat → Nat → Int32} {L : Nat → Nat → Int64} {X : Nat × (Nat → Int32)} {Q : PQ} {res : Int32 × (Nat → Nat → Int32) × (Nat → Nat → Int64)}  (g : Q (some (.int res.1)) (HS res.2.1 res.2.2 X)) (q : FO_M_code fu p0 I L = some res) : Ev (d + 2) m_M_code [.ref 331, .int p0] (HS I L X) Q := by
  unfold FO_M_code at q
  refine ev_start (d := d + 1) rfl rfl rfl (Nat.le_of_ble_eq_true rfl) ?_
  show Wp (Ev (d + 1)) cd_M_code (0, 0) (some .int) _ _ Q 0 [(0, .ref 331), (1, .int p0)] [] (HS I L X)
  refine w_iload_n (Ev.cm _) rfl rfl ?_
  refine w_iconst (Ev.cm _) rfl ?_
  refine w_icmp_ne (Ev.cm _) rfl (fun c1 => ?_) (fun c1 => ?_)
  · have c1 : ¬ (p0 = (-1)) := c1
    rw [if_neg c1] at q
    refine w_iload_n (Ev.cm _) rfl rfl ?_
    refine w_iconst (Ev.cm _) rfl ?_
    refine w_sipush (Ev.cm _) rfl ?_
    refine w_cstat (as := [.int p0, .int 1, .int 22222]) (st := []) (Ev.cm _) rfl rfl rfl (Nat.le_of_ble_eq_true rfl) (Nat.le_of_ble_eq_true rfl) (m_isIn ?_)
    show Wp _ _ _ _ _ _ _ 22 [(0, .ref 331), (1, .int p0)] [.int (bI ((1 : Int32) ≤ p0 ∧ p0 ≤ (22222 : Int32)))] (HS I L X)
    refine w_if_eq (Ev.cm _) rfl (fun c2 => ?_) (fun c2 => ?_)
    · have c2 : ¬ ((1 : Int32) ≤ p0 ∧ p0 ≤ (22222 : Int32)) := bI_0.mp c2
      rw [if_neg c2] at q
      refine w_bipush (Ev.cm _) rfl ?_
      refine w_ireturn (Ev.cm _) rfl trivial rf0 ?_
      cases q
      exact g
    · have c2 : (1 : Int32) ≤ p0 ∧ p0 ≤ (22222 : Int32) := bI_1.mp c2
      rw [if_pos c2] at q
      refine w_iload_n (Ev.cm _) rfl rfl ?_
      obtain ⟨⟨r1, I1, L1⟩, e1, q⟩ := obs q
      dsimp only at q
      refine w_cstat (as := [.int p0]) (st := []) (Ev.cm _) rfl rfl rfl (Nat.le_of_ble_eq_true rfl) (Nat.le_of_ble_eq_true rfl) (eo_M_twosOf (g := ?_) e1)
      show Wp _ _ _ _ _ _ _ 29 [(0, .ref 331), (1, .int p0)] [.int r1] (HS I1 L1 X)
      refine w_iconst (Ev.cm _) rfl ?_
      refine w_icmp_eq (Ev.cm _) rfl (fun c3 => ?_) (fun c3 => ?_)
      · have c3 : r1 = (-1) := c3
        rw [if_pos c3] at q
        refine w_bipush (Ev.cm _) rfl ?_
        refine w_ireturn (Ev.cm _) rfl trivial rf0 ?_
        cases q
        exact g
      · have c3 : ¬ (r1 = (-1)) := c3
        rw [if_neg c3] at q
        refine w_aload_n (Ev.cm _) rfl rfl ?_
        refine w_getR (q := 332) (Ev.cm _) rfl (Nat.le_of_ble_eq_true rfl) rfl rfl ?_
        refine w_iconst (Ev.cm _) rfl ?_
        refine w_iald (Ev.cm _) rfl (Nat.le_of_ble_eq_true rfl) rfl (show vp_in 5 1541 from vpI 1541 (by decide) (by decide) (by decide)) ?_
        refine w_iconst (Ev.cm _) rfl ?_
        refine w_icmp_ne (Ev.cm _) rfl (fun c4 => ?_) (fun c4 => ?_)
        · have c4 : ¬ (I1 332 5 = 5) := c4
          rw [if_neg c4] at q
          refine w_iconst (Ev.cm _) rfl ?_
          refine w_istore_n (ls2 := [(0, .ref 331), (1, .int p0), (2, .int 0)]) (Ev.cm _) rfl rfl ?_
          show Wp _ _ _ _ _ _ _ 48 [(0, .ref 331), (1, .int p0), (2, .int 0)] [] (HS I1 L1 X)
          refine Wp.sub [0, 1, 2] (ls2 := [(0, .ref 331), (1, .int p0), (2, .int 0)]) rfl ?_
          exact lo_M_code_48 g fu _ _ _ _ q
        · have c4 : I1 332 5 = 5 := c4
          rw [if_pos c4] at q
          refine w_bipush (Ev.cm _) rfl ?_
          refine w_ireturn (Ev.cm _) rfl trivial rf0 ?_
          cases q
          exact g
  · have c1 : p0 = (-1) := c1
    rw [if_pos c1] at q
    refine w_aload_n (Ev.cm _) rfl rfl ?_
    refine w_getR (q := 332) (Ev.cm _) rfl (Nat.le_of_ble_eq_true rfl) rfl rfl ?_
    refine w_iconst (Ev.cm _) rfl ?_
    refine w_iconst (Ev.cm _) rfl ?_
    refine w_iast (Ev.cm _) rfl (Nat.le_of_ble_eq_true rfl) rfl (show vp_in 5 1541 from vpI 1541 (by decide) (by decide) (by decide)) ?_
    refine w_iconst (Ev.cm _) rfl ?_
    refine w_ireturn (Ev.cm _) rfl trivial rf0 ?_
    cases q
    exact g
def FO_M_isFewer (fu : Nat) (p0 : Int32) (p1 : Int32) (I : Nat → Nat → Int32) (L : Nat → Nat → Int64) : Option (Int32 × (Nat → Nat → Int32) × (Nat → Nat → Int64)) := if 0 ≤ p0 ∧ p0 < 64 then (if p1 < I 346 p0.toNatClampNeg then (if 0 ≤ p0 ∧ p0 < 64 then (some (1, sI I 346 p0.toNatClampNeg p1, L)) else none) else (some (0, I, L))) else none
set_option maxHeartbeats 20000000 in
set_option maxRecDepth 20000 in
theorem eo_M_isFewer {d fu : Nat} {p0 : Int32} {p1 : Int32} {I : Nat → Nat → Int32} {L : Nat → Nat → Int64} {X : Nat × (Nat → Int32)} {Q : PQ} {res : Int32 × (Nat → Nat → Int32) × (Nat → Nat → Int64)}  (g : Q (some (.int res.1)) (HS res.2.1 res.2.2 X)) (q : FO_M_isFewer fu p0 p1 I L = some res) : Ev (d + 1) m_M_isFewer [.ref 331, .int p0, .int p1] (HS I L X) Q := by
  unfold FO_M_isFewer at q
  refine ev_start (d := d + 0) rfl rfl rfl (Nat.le_of_ble_eq_true rfl) ?_
  show Wp (Ev (d + 0)) cd_M_isFewer (0, 0) (some .boolean) _ _ Q 0 [(0, .ref 331), (1, .int p0), (2, .int p1)] [] (HS I L X)
  refine w_aload_n (Ev.cm _) rfl rfl ?_
  refine w_getR (q := 346) (Ev.cm _) rfl (Nat.le_of_ble_eq_true rfl) rfl rfl ?_
  refine w_iload_n (Ev.cm _) rfl rfl ?_
  obtain ⟨b1, q⟩ := ois q
  refine w_iald (Ev.cm _) rfl (Nat.le_of_ble_eq_true rfl) rfl (show vp_in p0 64 from vpI 64 (by decide) b1.1 b1.2) ?_
  refine w_iload_n (Ev.cm _) rfl rfl ?_
  refine w_icmp_gt (Ev.cm _) rfl (fun c1 => ?_) (fun c1 => ?_)
  · have c1 : p1 < I 346 p0.toNatClampNeg := c1
    rw [if_pos c1] at q
    refine w_aload_n (Ev.cm _) rfl rfl ?_
    refine w_getR (q := 346) (Ev.cm _) rfl (Nat.le_of_ble_eq_true rfl) rfl rfl ?_
    refine w_iload_n (Ev.cm _) rfl rfl ?_
    refine w_iload_n (Ev.cm _) rfl rfl ?_
    obtain ⟨b2, q⟩ := ois q
    refine w_iast (Ev.cm _) rfl (Nat.le_of_ble_eq_true rfl) rfl (show vp_in p0 64 from vpI 64 (by decide) b2.1 b2.2) ?_
    refine w_iconst (Ev.cm _) rfl ?_
    refine w_ireturn (Ev.cm _) rfl (by first | exact rok_0 | exact rok_1 | exact rok_b) rf0 ?_
    cases q
    exact g
  · have c1 : ¬ (p1 < I 346 p0.toNatClampNeg) := c1
    rw [if_neg c1] at q
    refine w_iconst (Ev.cm _) rfl ?_
    refine w_ireturn (Ev.cm _) rfl (by first | exact rok_0 | exact rok_1 | exact rok_b) rf0 ?_
    cases q
    exact g
