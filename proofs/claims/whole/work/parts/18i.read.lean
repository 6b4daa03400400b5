/-! methods, read back by program -/
def LO_M_nights_43 (fu : Nat) : Nat → Int32 → Int32 → Int32 → (Nat → Nat → Int32) → (Nat → Nat → Int64) → Option (Int32 × (Nat → Nat → Int32) × (Nat → Nat → Int64))
  | 0, _, _, _, _, _ => none
  | n + 1, x1, x2, x3, I, L => if x2 ≤ x3 then (some (I 332 7, I, L)) else ((FO_M_anew fu  I L).bind (fun u1 => let r1 := u1.1; let I1 := u1.2.1; let L1 := u1.2.2; (FO_M_happens fu (I 332 8) I1 L1).bind (fun u2 => let r2 := u2.1; let I2 := u2.2.1; let L2 := u2.2.2; LO_M_nights_43 fu n x1 x2 (x3 + 1) I2 L2)))
set_option maxHeartbeats 20000000 in
set_option maxRecDepth 20000 in
theorem lo_M_nights_43 {d fu n0 s0 : Nat} {X : Nat × (Nat → Int32)} {Q : PQ} {res : Int32 × (Nat → Nat → Int32) × (Nat → Nat → Int64)}  (g : Q (some (.int res.1)) (HS res.2.1 res.2.2 X)) : ∀ (n : Nat) (x1 : Int32) (x2 : Int32) (x3 : Int32) (I : Nat → Nat → Int32) (L : Nat → Nat → Int64), LO_M_nights_43 fu n x1 x2 x3 I L = some res → Wp (Ev (d + 12)) cd_M_nights (0, 0) (some .int) n0 s0 Q 43 [(0, .ref 331), (1, .int x1), (2, .int x2), (3, .int x3)] [] (HS I L X) := by
  intro n
  induction n with
  | zero => intro _ _ _ _ _ q; cases q
  | succ n ih =>
    intro x1 x2 x3 I L q
    unfold LO_M_nights_43 at q
    refine w_iload_n (Ev.cm _) rfl rfl ?_
    refine w_iload_n (Ev.cm _) rfl rfl ?_
    refine w_icmp_ge (Ev.cm _) rfl (fun c1 => ?_) (fun c1 => ?_)
    · have c1 : x2 ≤ x3 := c1
      rw [if_pos c1] at q
      refine w_aload_n (Ev.cm _) rfl rfl ?_
      refine w_getR (q := 332) (Ev.cm _) rfl (Nat.le_of_ble_eq_true rfl) rfl rfl ?_
      refine w_bipush (Ev.cm _) rfl ?_
      refine w_iald (Ev.cm _) rfl (Nat.le_of_ble_eq_true rfl) rfl (show vp_in 7 1541 from vpI 1541 (by decide) (by decide) (by decide)) ?_
      refine w_ireturn (Ev.cm _) rfl trivial rf0 ?_
      cases q
      exact g
    · have c1 : ¬ (x2 ≤ x3) := c1
      rw [if_neg c1] at q
      refine w_aload_n (Ev.cm _) rfl rfl ?_
      refine w_getR (q := 332) (Ev.cm _) rfl (Nat.le_of_ble_eq_true rfl) rfl rfl ?_
      refine w_bipush (Ev.cm _) rfl ?_
      refine w_iald (Ev.cm _) rfl (Nat.le_of_ble_eq_true rfl) rfl (show vp_in 8 1541 from vpI 1541 (by decide) (by decide) (by decide)) ?_
      refine w_istore (ls2 := [(0, .ref 331), (1, .int x1), (2, .int x2), (3, .int x3), (4, .int (I 332 8))]) (Ev.cm _) rfl rfl ?_
      refine w_aload_n (Ev.cm _) rfl rfl ?_
      obtain ⟨⟨r1, I1, L1⟩, e1, q⟩ := obs q
      dsimp only at q
      refine w_cvirt (o := 331) (as := []) (st := []) (Ev.cm _) rfl rfl rfl (Nat.le_of_ble_eq_true rfl) (Nat.le_of_ble_eq_true rfl) rfl (Nat.le_of_ble_eq_true rfl) (eo_M_anew (g := ?_) e1)
      show Wp _ _ _ _ _ _ _ 61 [(0, .ref 331), (1, .int x1), (2, .int x2), (3, .int x3), (4, .int (I 332 8))] [] (HS I1 L1 X)
      refine w_aload_n (Ev.cm _) rfl rfl ?_
      refine w_iload (Ev.cm _) rfl rfl ?_
      obtain ⟨⟨r2, I2, L2⟩, e2, q⟩ := obs q
      dsimp only at q
      refine w_cvirt (o := 331) (as := [.int (I 332 8)]) (st := []) (Ev.cm _) rfl rfl rfl (Nat.le_of_ble_eq_true rfl) (Nat.le_of_ble_eq_true rfl) rfl (Nat.le_of_ble_eq_true rfl) (eo_M_happens (g := ?_) e2)
      show Wp _ _ _ _ _ _ _ 67 [(0, .ref 331), (1, .int x1), (2, .int x2), (3, .int x3), (4, .int (I 332 8))] [] (HS I2 L2 X)
      refine w_iinc (ls2 := [(0, .ref 331), (1, .int x1), (2, .int x2), (3, .int (x3 + 1)), (4, .int (I 332 8))]) (Ev.cm _) rfl rfl rfl ?_
      refine w_goto (Ev.cm _) rfl ?_
      show Wp _ _ _ _ _ _ _ 43 [(0, .ref 331), (1, .int x1), (2, .int x2), (3, .int (x3 + 1)), (4, .int (I 332 8))] [] (HS I2 L2 X)
      refine Wp.sub [0, 1, 2, 3] (ls2 := [(0, .ref 331), (1, .int x1), (2, .int x2), (3, .int (x3 + 1))]) rfl ?_
      exact ih _ _ _ _ _ q
def FO_M_nights (fu : Nat) (p0 : Int32) (p1 : Int32) (I : Nat → Nat → Int32) (L : Nat → Nat → Int64) : Option (Int32 × (Nat → Nat → Int32) × (Nat → Nat → Int64)) := if (0 : Int32) ≤ p0 ∧ p0 ≤ (9999 : Int32) then (if (1 : Int32) ≤ p1 ∧ p1 ≤ (40 : Int32) then ((FO_M_keep fu  I L).bind (fun u1 => let r1 := u1.1; let I1 := u1.2.1; let L1 := u1.2.2; LO_M_nights_43 fu fu p0 p1 0 (sI I1 332 8 ((p0 * 2) + 293)) L1)) else (some ((-1), I, L))) else (some ((-1), I, L))
set_option maxHeartbeats 20000000 in
set_option maxRecDepth 20000 in
theorem eo_M_nights {d fu : Nat} {p0 : Int32} {p1 : Int32} {I : Nat → Nat → Int32} {L : Nat → Nat → Int64} {X : Nat × (Nat → Int32)} {Q : PQ} {res : Int32 × (Nat → Nat → Int32) × (Nat → Nat → Int64)}  (g : Q (some (.int res.1)) (HS res.2.1 res.2.2 X)) (q : FO_M_nights fu p0 p1 I L = some res) : Ev (d + 13) m_M_nights [.ref 331, .int p0, .int p1] (HS I L X) Q := by
  unfold FO_M_nights at q
  refine ev_start (d := d + 12) rfl rfl rfl (Nat.le_of_ble_eq_true rfl) ?_
  show Wp (Ev (d + 12)) cd_M_nights (0, 0) (some .int) _ _ Q 0 [(0, .ref 331), (1, .int p0), (2, .int p1)] [] (HS I L X)
  refine w_iload_n (Ev.cm _) rfl rfl ?_
  refine w_iconst (Ev.cm _) rfl ?_
  refine w_sipush (Ev.cm _) rfl ?_
  refine w_cstat (as := [.int p0, .int 0, .int 9999]) (st := []) (Ev.cm _) rfl rfl rfl (Nat.le_of_ble_eq_true rfl) (Nat.le_of_ble_eq_true rfl) (m_isIn ?_)
  show Wp _ _ _ _ _ _ _ 8 [(0, .ref 331), (1, .int p0), (2, .int p1)] [.int (bI ((0 : Int32) ≤ p0 ∧ p0 ≤ (9999 : Int32)))] (HS I L X)
  refine w_if_eq (Ev.cm _) rfl (fun c1 => ?_) (fun c1 => ?_)
  · have c1 : ¬ ((0 : Int32) ≤ p0 ∧ p0 ≤ (9999 : Int32)) := bI_0.mp c1
    rw [if_neg c1] at q
    refine w_iconst (Ev.cm _) rfl ?_
    refine w_ireturn (Ev.cm _) rfl trivial rf0 ?_
    cases q
    exact g
  · have c1 : (0 : Int32) ≤ p0 ∧ p0 ≤ (9999 : Int32) := bI_1.mp c1
    rw [if_pos c1] at q
    refine w_iload_n (Ev.cm _) rfl rfl ?_
    refine w_iconst (Ev.cm _) rfl ?_
    refine w_bipush (Ev.cm _) rfl ?_
    refine w_cstat (as := [.int p1, .int 1, .int 40]) (st := []) (Ev.cm _) rfl rfl rfl (Nat.le_of_ble_eq_true rfl) (Nat.le_of_ble_eq_true rfl) (m_isIn ?_)
    show Wp _ _ _ _ _ _ _ 18 [(0, .ref 331), (1, .int p0), (2, .int p1)] [.int (bI ((1 : Int32) ≤ p1 ∧ p1 ≤ (40 : Int32)))] (HS I L X)
    refine w_if_ne (Ev.cm _) rfl (fun c2 => ?_) (fun c2 => ?_)
    · have c2 : (1 : Int32) ≤ p1 ∧ p1 ≤ (40 : Int32) := bI_1.mp c2
      rw [if_pos c2] at q
      refine w_aload_n (Ev.cm _) rfl rfl ?_
      obtain ⟨⟨r1, I1, L1⟩, e1, q⟩ := obs q
      dsimp only at q
      refine w_cvirt (o := 331) (as := []) (st := []) (Ev.cm _) rfl rfl rfl (Nat.le_of_ble_eq_true rfl) (Nat.le_of_ble_eq_true rfl) rfl (Nat.le_of_ble_eq_true rfl) (eo_M_keep (g := ?_) e1)
      show Wp _ _ _ _ _ _ _ 27 [(0, .ref 331), (1, .int p0), (2, .int p1)] [] (HS I1 L1 X)
      refine w_aload_n (Ev.cm _) rfl rfl ?_
      refine w_getR (q := 332) (Ev.cm _) rfl (Nat.le_of_ble_eq_true rfl) rfl rfl ?_
      refine w_bipush (Ev.cm _) rfl ?_
      refine w_iload_n (Ev.cm _) rfl rfl ?_
      refine w_iconst (Ev.cm _) rfl ?_
      refine w_imul (Ev.cm _) rfl ?_
      refine w_sipush (Ev.cm _) rfl ?_
      refine w_iadd (Ev.cm _) rfl ?_
      refine w_iast (Ev.cm _) rfl (Nat.le_of_ble_eq_true rfl) rfl (show vp_in 8 1541 from vpI 1541 (by decide) (by decide) (by decide)) ?_
      refine w_iconst (Ev.cm _) rfl ?_
      refine w_istore_n (ls2 := [(0, .ref 331), (1, .int p0), (2, .int p1), (3, .int 0)]) (Ev.cm _) rfl rfl ?_
      show Wp _ _ _ _ _ _ _ 43 [(0, .ref 331), (1, .int p0), (2, .int p1), (3, .int 0)] [] (HS (sI I1 332 8 ((p0 * 2) + 293)) L1 X)
      refine Wp.sub [0, 1, 2, 3] (ls2 := [(0, .ref 331), (1, .int p0), (2, .int p1), (3, .int 0)]) rfl ?_
      exact lo_M_nights_43 g fu _ _ _ _ _ q
    · have c2 : ¬ ((1 : Int32) ≤ p1 ∧ p1 ≤ (40 : Int32)) := bI_0.mp c2
      rw [if_neg c2] at q
      refine w_iconst (Ev.cm _) rfl ?_
      refine w_ireturn (Ev.cm _) rfl trivial rf0 ?_
      cases q
      exact g
def LO_M_foretold_120 (fu : Nat) : Nat → Int32 → Int32 → Int32 → Int32 → Int32 → (Nat → Nat → Int32) → (Nat → Nat → Int64) → Option (Int32 × (Nat → Nat → Int32) × (Nat → Nat → Int64))
  | 0, _, _, _, _, _, _, _ => none
  | n + 1, x1, x2, x3, x4, x5, I, L => if 24 ≤ x5 then (some (x4, sI I 331 23 1, L)) else (if 0 ≤ x5 ∧ x5 < 24 then (if 0 ≤ x5 ∧ x5 < 1541 then (LO_M_foretold_120 fu n x1 x2 x3 x4 (x5 + 1) (sI I 332 x5.toNatClampNeg (I 340 x5.toNatClampNeg)) L) else none) else none)
set_option maxHeartbeats 20000000 in
set_option maxRecDepth 20000 in
theorem lo_M_foretold_120 {d fu n0 s0 : Nat} {X : Nat × (Nat → Int32)} {Q : PQ} {res : Int32 × (Nat → Nat → Int32) × (Nat → Nat → Int64)}  (g : Q (some (.int res.1)) (HS res.2.1 res.2.2 X)) : ∀ (n : Nat) (x1 : Int32) (x2 : Int32) (x3 : Int32) (x4 : Int32) (x5 : Int32) (I : Nat → Nat → Int32) (L : Nat → Nat → Int64), LO_M_foretold_120 fu n x1 x2 x3 x4 x5 I L = some res → Wp (Ev (d + 11)) cd_M_foretold (0, 0) (some .int) n0 s0 Q 120 [(0, .ref 331), (1, .int x1), (2, .int x2), (3, .int x3), (4, .int x4), (5, .int x5)] [] (HS I L X) := by
  intro n
  induction n with
  | zero => intro _ _ _ _ _ _ _ q; cases q
  | succ n ih =>
    intro x1 x2 x3 x4 x5 I L q
    unfold LO_M_foretold_120 at q
    refine w_iload (Ev.cm _) rfl rfl ?_
    refine w_bipush (Ev.cm _) rfl ?_
    refine w_icmp_ge (Ev.cm _) rfl (fun c1 => ?_) (fun c1 => ?_)
    · have c1 : 24 ≤ x5 := c1
      rw [if_pos c1] at q
      refine w_aload_n (Ev.cm _) rfl rfl ?_
      refine w_iconst (Ev.cm _) rfl ?_
      refine w_putZ (Ev.cm _) rfl (Nat.le_of_ble_eq_true rfl) rfl (by first | decide | exact bI_b) ?_
      refine w_iload (Ev.cm _) rfl rfl ?_
      refine w_ireturn (Ev.cm _) rfl trivial rf0 ?_
      cases q
      exact g
    · have c1 : ¬ (24 ≤ x5) := c1
      rw [if_neg c1] at q
      refine w_aload_n (Ev.cm _) rfl rfl ?_
      refine w_getR (q := 332) (Ev.cm _) rfl (Nat.le_of_ble_eq_true rfl) rfl rfl ?_
      refine w_iload (Ev.cm _) rfl rfl ?_
      refine w_aload_n (Ev.cm _) rfl rfl ?_
      refine w_getR (q := 340) (Ev.cm _) rfl (Nat.le_of_ble_eq_true rfl) rfl rfl ?_
      refine w_iload (Ev.cm _) rfl rfl ?_
      obtain ⟨b1, q⟩ := ois q
      refine w_iald (Ev.cm _) rfl (Nat.le_of_ble_eq_true rfl) rfl (show vp_in x5 24 from vpI 24 (by decide) b1.1 b1.2) ?_
      obtain ⟨b2, q⟩ := ois q
      refine w_iast (Ev.cm _) rfl (Nat.le_of_ble_eq_true rfl) rfl (show vp_in x5 1541 from vpI 1541 (by decide) b2.1 b2.2) ?_
      refine w_iinc (ls2 := [(0, .ref 331), (1, .int x1), (2, .int x2), (3, .int x3), (4, .int x4), (5, .int (x5 + 1))]) (Ev.cm _) rfl rfl rfl ?_
      refine w_goto (Ev.cm _) rfl ?_
      show Wp _ _ _ _ _ _ _ 120 [(0, .ref 331), (1, .int x1), (2, .int x2), (3, .int x3), (4, .int x4), (5, .int (x5 + 1))] [] (HS (sI I 332 x5.toNatClampNeg (I 340 x5.toNatClampNeg)) L X)
      refine Wp.sub [0, 1, 2, 3, 4, 5] (ls2 := [(0, .ref 331), (1, .int x1), (2, .int x2), (3, .int x3), (4, .int x4), (5, .int (x5 + 1))]) rfl ?_
      exact ih _ _ _ _ _ _ _ q
def LO_M_foretold_68 (fu : Nat) : Nat → Int32 → Int32 → Int32 → Int32 → (Nat → Nat → Int32) → (Nat → Nat → Int64) → Option (Int32 × (Nat → Nat → Int32) × (Nat → Nat → Int64))
  | 0, _, _, _, _, _, _ => none
  | n + 1, x1, x2, x3, x4, I, L => if x1 ≤ x4 then (if x3 = 0 then ((FO_M_placeOf fu x2 I L).bind (fun u2 => let r2 := u2.1; let I2 := u2.2.1; let L2 := u2.2.2; LO_M_foretold_120 fu fu x1 x2 x3 r2 7 I2 L2)) else ((FO_M_trod fu x2 I L).bind (fun u1 => let r1 := u1.1; let I1 := u1.2.1; let L1 := u1.2.2; LO_M_foretold_120 fu fu x1 x2 x3 r1 7 I1 L1))) else (if 9999 ≤ I 332 7 then (LO_M_foretold_68 fu n x1 x2 x3 (x4 + 1) I L) else ((FO_M_pass fu  I L).bind (fun u3 => let r3 := u3.1; let I3 := u3.2.1; let L3 := u3.2.2; LO_M_foretold_68 fu n x1 x2 x3 (x4 + 1) I3 L3)))
set_option maxHeartbeats 20000000 in
set_option maxRecDepth 20000 in
theorem lo_M_foretold_68 {d fu n0 s0 : Nat} {X : Nat × (Nat → Int32)} {Q : PQ} {res : Int32 × (Nat → Nat → Int32) × (Nat → Nat → Int64)}  (g : Q (some (.int res.1)) (HS res.2.1 res.2.2 X)) : ∀ (n : Nat) (x1 : Int32) (x2 : Int32) (x3 : Int32) (x4 : Int32) (I : Nat → Nat → Int32) (L : Nat → Nat → Int64), LO_M_foretold_68 fu n x1 x2 x3 x4 I L = some res → Wp (Ev (d + 11)) cd_M_foretold (0, 0) (some .int) n0 s0 Q 68 [(0, .ref 331), (1, .int x1), (2, .int x2), (3, .int x3), (4, .int x4)] [] (HS I L X) := by
  intro n
  induction n with
  | zero => intro _ _ _ _ _ _ q; cases q
  | succ n ih =>
    intro x1 x2 x3 x4 I L q
    unfold LO_M_foretold_68 at q
    refine w_iload (Ev.cm _) rfl rfl ?_
    refine w_iload_n (Ev.cm _) rfl rfl ?_
    refine w_icmp_ge (Ev.cm _) rfl (fun c1 => ?_) (fun c1 => ?_)
    · have c1 : x1 ≤ x4 := c1
      rw [if_pos c1] at q
      refine w_iload_n (Ev.cm _) rfl rfl ?_
      refine w_if_ne (Ev.cm _) rfl (fun c2 => ?_) (fun c2 => ?_)
      · have c2 : ¬ (x3 = 0) := c2
        rw [if_neg c2] at q
        refine w_aload_n (Ev.cm _) rfl rfl ?_
        refine w_iload_n (Ev.cm _) rfl rfl ?_
        obtain ⟨⟨r1, I1, L1⟩, e1, q⟩ := obs q
        dsimp only at q
        refine w_cvirt (o := 331) (as := [.int x2]) (st := []) (Ev.cm _) rfl rfl rfl (Nat.le_of_ble_eq_true rfl) (Nat.le_of_ble_eq_true rfl) rfl (Nat.le_of_ble_eq_true rfl) (eo_M_trod (g := ?_) e1)
        show Wp _ _ _ _ _ _ _ 114 [(0, .ref 331), (1, .int x1), (2, .int x2), (3, .int x3), (4, .int x4)] [.int r1] (HS I1 L1 X)
        refine w_istore (ls2 := [(0, .ref 331), (1, .int x1), (2, .int x2), (3, .int x3), (4, .int r1)]) (Ev.cm _) rfl rfl ?_
        refine w_bipush (Ev.cm _) rfl ?_
        refine w_istore (ls2 := [(0, .ref 331), (1, .int x1), (2, .int x2), (3, .int x3), (4, .int r1), (5, .int 7)]) (Ev.cm _) rfl rfl ?_
        show Wp _ _ _ _ _ _ _ 120 [(0, .ref 331), (1, .int x1), (2, .int x2), (3, .int x3), (4, .int r1), (5, .int 7)] [] (HS I1 L1 X)
        refine Wp.sub [0, 1, 2, 3, 4, 5] (ls2 := [(0, .ref 331), (1, .int x1), (2, .int x2), (3, .int x3), (4, .int r1), (5, .int 7)]) rfl ?_
        exact lo_M_foretold_120 g fu _ _ _ _ _ _ _ q
      · have c2 : x3 = 0 := c2
        rw [if_pos c2] at q
        refine w_aload_n (Ev.cm _) rfl rfl ?_
        refine w_iload_n (Ev.cm _) rfl rfl ?_
        obtain ⟨⟨r2, I2, L2⟩, e2, q⟩ := obs q
        dsimp only at q
        refine w_cvirt (o := 331) (as := [.int x2]) (st := []) (Ev.cm _) rfl rfl rfl (Nat.le_of_ble_eq_true rfl) (Nat.le_of_ble_eq_true rfl) rfl (Nat.le_of_ble_eq_true rfl) (eo_M_placeOf (g := ?_) e2)
        show Wp _ _ _ _ _ _ _ 106 [(0, .ref 331), (1, .int x1), (2, .int x2), (3, .int x3), (4, .int x4)] [.int r2] (HS I2 L2 X)
        refine w_goto (Ev.cm _) rfl ?_
        refine w_istore (ls2 := [(0, .ref 331), (1, .int x1), (2, .int x2), (3, .int x3), (4, .int r2)]) (Ev.cm _) rfl rfl ?_
        refine w_bipush (Ev.cm _) rfl ?_
        refine w_istore (ls2 := [(0, .ref 331), (1, .int x1), (2, .int x2), (3, .int x3), (4, .int r2), (5, .int 7)]) (Ev.cm _) rfl rfl ?_
        show Wp _ _ _ _ _ _ _ 120 [(0, .ref 331), (1, .int x1), (2, .int x2), (3, .int x3), (4, .int r2), (5, .int 7)] [] (HS I2 L2 X)
        refine Wp.sub [0, 1, 2, 3, 4, 5] (ls2 := [(0, .ref 331), (1, .int x1), (2, .int x2), (3, .int x3), (4, .int r2), (5, .int 7)]) rfl ?_
        exact lo_M_foretold_120 g fu _ _ _ _ _ _ _ q
    · have c1 : ¬ (x1 ≤ x4) := c1
      rw [if_neg c1] at q
      refine w_aload_n (Ev.cm _) rfl rfl ?_
      refine w_getR (q := 332) (Ev.cm _) rfl (Nat.le_of_ble_eq_true rfl) rfl rfl ?_
      refine w_bipush (Ev.cm _) rfl ?_
      refine w_iald (Ev.cm _) rfl (Nat.le_of_ble_eq_true rfl) rfl (show vp_in 7 1541 from vpI 1541 (by decide) (by decide) (by decide)) ?_
      refine w_sipush (Ev.cm _) rfl ?_
      refine w_icmp_ge (Ev.cm _) rfl (fun c3 => ?_) (fun c3 => ?_)
      · have c3 : 9999 ≤ I 332 7 := c3
        rw [if_pos c3] at q
        refine w_iinc (ls2 := [(0, .ref 331), (1, .int x1), (2, .int x2), (3, .int x3), (4, .int (x4 + 1))]) (Ev.cm _) rfl rfl rfl ?_
        refine w_goto (Ev.cm _) rfl ?_
        show Wp _ _ _ _ _ _ _ 68 [(0, .ref 331), (1, .int x1), (2, .int x2), (3, .int x3), (4, .int (x4 + 1))] [] (HS I L X)
        refine Wp.sub [0, 1, 2, 3, 4] (ls2 := [(0, .ref 331), (1, .int x1), (2, .int x2), (3, .int x3), (4, .int (x4 + 1))]) rfl ?_
        exact ih _ _ _ _ _ _ q
      · have c3 : ¬ (9999 ≤ I 332 7) := c3
        rw [if_neg c3] at q
        refine w_aload_n (Ev.cm _) rfl rfl ?_
        obtain ⟨⟨r3, I3, L3⟩, e3, q⟩ := obs q
        dsimp only at q
        refine w_cvirt (o := 331) (as := []) (st := []) (Ev.cm _) rfl rfl rfl (Nat.le_of_ble_eq_true rfl) (Nat.le_of_ble_eq_true rfl) rfl (Nat.le_of_ble_eq_true rfl) (eo_M_pass (g := ?_) e3)
        show Wp _ _ _ _ _ _ _ 91 [(0, .ref 331), (1, .int x1), (2, .int x2), (3, .int x3), (4, .int x4)] [] (HS I3 L3 X)
        refine w_iinc (ls2 := [(0, .ref 331), (1, .int x1), (2, .int x2), (3, .int x3), (4, .int (x4 + 1))]) (Ev.cm _) rfl rfl rfl ?_
        refine w_goto (Ev.cm _) rfl ?_
        show Wp _ _ _ _ _ _ _ 68 [(0, .ref 331), (1, .int x1), (2, .int x2), (3, .int x3), (4, .int (x4 + 1))] [] (HS I3 L3 X)
        refine Wp.sub [0, 1, 2, 3, 4] (ls2 := [(0, .ref 331), (1, .int x1), (2, .int x2), (3, .int x3), (4, .int (x4 + 1))]) rfl ?_
        exact ih _ _ _ _ _ _ q
def LO_M_foretold_33 (fu : Nat) : Nat → Int32 → Int32 → Int32 → Int32 → (Nat → Nat → Int32) → (Nat → Nat → Int64) → Option (Int32 × (Nat → Nat → Int32) × (Nat → Nat → Int64))
  | 0, _, _, _, _, _, _ => none
  | n + 1, x1, x2, x3, x4, I, L => if 24 ≤ x4 then (LO_M_foretold_68 fu fu x1 x2 x3 0 (sI I 331 23 0) L) else (if 0 ≤ x4 ∧ x4 < 1541 then (if 0 ≤ x4 ∧ x4 < 24 then (LO_M_foretold_33 fu n x1 x2 x3 (x4 + 1) (sI I 340 x4.toNatClampNeg (I 332 x4.toNatClampNeg)) L) else none) else none)
set_option maxHeartbeats 20000000 in
set_option maxRecDepth 20000 in
theorem lo_M_foretold_33 {d fu n0 s0 : Nat} {X : Nat × (Nat → Int32)} {Q : PQ} {res : Int32 × (Nat → Nat → Int32) × (Nat → Nat → Int64)}  (g : Q (some (.int res.1)) (HS res.2.1 res.2.2 X)) : ∀ (n : Nat) (x1 : Int32) (x2 : Int32) (x3 : Int32) (x4 : Int32) (I : Nat → Nat → Int32) (L : Nat → Nat → Int64), LO_M_foretold_33 fu n x1 x2 x3 x4 I L = some res → Wp (Ev (d + 11)) cd_M_foretold (0, 0) (some .int) n0 s0 Q 33 [(0, .ref 331), (1, .int x1), (2, .int x2), (3, .int x3), (4, .int x4)] [] (HS I L X) := by
  intro n
  induction n with
  | zero => intro _ _ _ _ _ _ q; cases q
  | succ n ih =>
    intro x1 x2 x3 x4 I L q
    unfold LO_M_foretold_33 at q
    refine w_iload (Ev.cm _) rfl rfl ?_
    refine w_bipush (Ev.cm _) rfl ?_
    refine w_icmp_ge (Ev.cm _) rfl (fun c1 => ?_) (fun c1 => ?_)
    · have c1 : 24 ≤ x4 := c1
      rw [if_pos c1] at q
      refine w_aload_n (Ev.cm _) rfl rfl ?_
      refine w_iconst (Ev.cm _) rfl ?_
      refine w_putZ (Ev.cm _) rfl (Nat.le_of_ble_eq_true rfl) rfl (by first | decide | exact bI_b) ?_
      refine w_iconst (Ev.cm _) rfl ?_
      refine w_istore (ls2 := [(0, .ref 331), (1, .int x1), (2, .int x2), (3, .int x3), (4, .int 0)]) (Ev.cm _) rfl rfl ?_
      show Wp _ _ _ _ _ _ _ 68 [(0, .ref 331), (1, .int x1), (2, .int x2), (3, .int x3), (4, .int 0)] [] (HS (sI I 331 23 0) L X)
      refine Wp.sub [0, 1, 2, 3, 4] (ls2 := [(0, .ref 331), (1, .int x1), (2, .int x2), (3, .int x3), (4, .int 0)]) rfl ?_
      exact lo_M_foretold_68 g fu _ _ _ _ _ _ q
    · have c1 : ¬ (24 ≤ x4) := c1
      rw [if_neg c1] at q
      refine w_aload_n (Ev.cm _) rfl rfl ?_
      refine w_getR (q := 340) (Ev.cm _) rfl (Nat.le_of_ble_eq_true rfl) rfl rfl ?_
      refine w_iload (Ev.cm _) rfl rfl ?_
      refine w_aload_n (Ev.cm _) rfl rfl ?_
      refine w_getR (q := 332) (Ev.cm _) rfl (Nat.le_of_ble_eq_true rfl) rfl rfl ?_
      refine w_iload (Ev.cm _) rfl rfl ?_
      obtain ⟨b1, q⟩ := ois q
      refine w_iald (Ev.cm _) rfl (Nat.le_of_ble_eq_true rfl) rfl (show vp_in x4 1541 from vpI 1541 (by decide) b1.1 b1.2) ?_
      obtain ⟨b2, q⟩ := ois q
      refine w_iast (Ev.cm _) rfl (Nat.le_of_ble_eq_true rfl) rfl (show vp_in x4 24 from vpI 24 (by decide) b2.1 b2.2) ?_
      refine w_iinc (ls2 := [(0, .ref 331), (1, .int x1), (2, .int x2), (3, .int x3), (4, .int (x4 + 1))]) (Ev.cm _) rfl rfl rfl ?_
      refine w_goto (Ev.cm _) rfl ?_
      show Wp _ _ _ _ _ _ _ 33 [(0, .ref 331), (1, .int x1), (2, .int x2), (3, .int x3), (4, .int (x4 + 1))] [] (HS (sI I 340 x4.toNatClampNeg (I 332 x4.toNatClampNeg)) L X)
      refine Wp.sub [0, 1, 2, 3, 4] (ls2 := [(0, .ref 331), (1, .int x1), (2, .int x2), (3, .int x3), (4, .int (x4 + 1))]) rfl ?_
      exact ih _ _ _ _ _ _ q
def FO_M_foretold (fu : Nat) (p0 : Int32) (p1 : Int32) (p2 : Int32) (I : Nat → Nat → Int32) (L : Nat → Nat → Int64) : Option (Int32 × (Nat → Nat → Int32) × (Nat → Nat → Int64)) := if (1 : Int32) ≤ p0 ∧ p0 ≤ (60 : Int32) then (if F_M_isLodger I p1 = 0 then (some ((-1), I, L)) else (if (0 : Int32) ≤ p2 ∧ p2 ≤ (1 : Int32) then (LO_M_foretold_33 fu fu p0 p1 p2 7 I L) else (some ((-1), I, L)))) else (some ((-1), I, L))
set_option maxHeartbeats 20000000 in
set_option maxRecDepth 20000 in
theorem eo_M_foretold {d fu : Nat} {p0 : Int32} {p1 : Int32} {p2 : Int32} {I : Nat → Nat → Int32} {L : Nat → Nat → Int64} {X : Nat × (Nat → Int32)} {Q : PQ} {res : Int32 × (Nat → Nat → Int32) × (Nat → Nat → Int64)}  (g : Q (some (.int res.1)) (HS res.2.1 res.2.2 X)) (q : FO_M_foretold fu p0 p1 p2 I L = some res) : Ev (d + 12) m_M_foretold [.ref 331, .int p0, .int p1, .int p2] (HS I L X) Q := by
  unfold FO_M_foretold at q
  refine ev_start (d := d + 11) rfl rfl rfl (Nat.le_of_ble_eq_true rfl) ?_
  show Wp (Ev (d + 11)) cd_M_foretold (0, 0) (some .int) _ _ Q 0 [(0, .ref 331), (1, .int p0), (2, .int p1), (3, .int p2)] [] (HS I L X)
  refine w_iload_n (Ev.cm _) rfl rfl ?_
  refine w_iconst (Ev.cm _) rfl ?_
  refine w_bipush (Ev.cm _) rfl ?_
  refine w_cstat (as := [.int p0, .int 1, .int 60]) (st := []) (Ev.cm _) rfl rfl rfl (Nat.le_of_ble_eq_true rfl) (Nat.le_of_ble_eq_true rfl) (m_isIn ?_)
  show Wp _ _ _ _ _ _ _ 7 [(0, .ref 331), (1, .int p0), (2, .int p1), (3, .int p2)] [.int (bI ((1 : Int32) ≤ p0 ∧ p0 ≤ (60 : Int32)))] (HS I L X)
  refine w_if_eq (Ev.cm _) rfl (fun c1 => ?_) (fun c1 => ?_)
  · have c1 : ¬ ((1 : Int32) ≤ p0 ∧ p0 ≤ (60 : Int32)) := bI_0.mp c1
    rw [if_neg c1] at q
    refine w_iconst (Ev.cm _) rfl ?_
    refine w_ireturn (Ev.cm _) rfl trivial rf0 ?_
    cases q
    exact g
  · have c1 : (1 : Int32) ≤ p0 ∧ p0 ≤ (60 : Int32) := bI_1.mp c1
    rw [if_pos c1] at q
    refine w_aload_n (Ev.cm _) rfl rfl ?_
    refine w_iload_n (Ev.cm _) rfl rfl ?_
    refine w_cvirt (o := 331) (as := [.int p1]) (st := []) (Ev.cm _) rfl rfl rfl (Nat.le_of_ble_eq_true rfl) (Nat.le_of_ble_eq_true rfl) rfl (Nat.le_of_ble_eq_true rfl) (e_M_isLodger ?_)
    show Wp _ _ _ _ _ _ _ 15 [(0, .ref 331), (1, .int p0), (2, .int p1), (3, .int p2)] [.int (F_M_isLodger I p1)] (HS I L X)
    refine w_if_eq (Ev.cm _) rfl (fun c2 => ?_) (fun c2 => ?_)
    · have c2 : F_M_isLodger I p1 = 0 := c2
      rw [if_pos c2] at q
      refine w_iconst (Ev.cm _) rfl ?_
      refine w_ireturn (Ev.cm _) rfl trivial rf0 ?_
      cases q
      exact g
    · have c2 : ¬ (F_M_isLodger I p1 = 0) := c2
      rw [if_neg c2] at q
      refine w_iload_n (Ev.cm _) rfl rfl ?_
      refine w_iconst (Ev.cm _) rfl ?_
      refine w_iconst (Ev.cm _) rfl ?_
      refine w_cstat (as := [.int p2, .int 0, .int 1]) (st := []) (Ev.cm _) rfl rfl rfl (Nat.le_of_ble_eq_true rfl) (Nat.le_of_ble_eq_true rfl) (m_isIn ?_)
      show Wp _ _ _ _ _ _ _ 24 [(0, .ref 331), (1, .int p0), (2, .int p1), (3, .int p2)] [.int (bI ((0 : Int32) ≤ p2 ∧ p2 ≤ (1 : Int32)))] (HS I L X)
      refine w_if_ne (Ev.cm _) rfl (fun c3 => ?_) (fun c3 => ?_)
      · have c3 : (0 : Int32) ≤ p2 ∧ p2 ≤ (1 : Int32) := bI_1.mp c3
        rw [if_pos c3] at q
        refine w_bipush (Ev.cm _) rfl ?_
        refine w_istore (ls2 := [(0, .ref 331), (1, .int p0), (2, .int p1), (3, .int p2), (4, .int 7)]) (Ev.cm _) rfl rfl ?_
        show Wp _ _ _ _ _ _ _ 33 [(0, .ref 331), (1, .int p0), (2, .int p1), (3, .int p2), (4, .int 7)] [] (HS I L X)
        refine Wp.sub [0, 1, 2, 3, 4] (ls2 := [(0, .ref 331), (1, .int p0), (2, .int p1), (3, .int p2), (4, .int 7)]) rfl ?_
        exact lo_M_foretold_33 g fu _ _ _ _ _ _ q
      · have c3 : ¬ ((0 : Int32) ≤ p2 ∧ p2 ≤ (1 : Int32)) := bI_0.mp c3
        rw [if_neg c3] at q
        refine w_iconst (Ev.cm _) rfl ?_
        refine w_ireturn (Ev.cm _) rfl trivial rf0 ?_
        cases q
        exact g
def LO_C_shortestDoubt_104 (fu : Nat) (k_89 : Int32 → Int32 → (Nat → Nat → Int32) → (Nat → Nat → Int64) → Option (Int32 × (Nat → Nat → Int32) × (Nat → Nat → Int64))) : Nat → Int32 → Int32 → Int32 → (Nat → Nat → Int32) → (Nat → Nat → Int64) → Option (Int32 × (Nat → Nat → Int32) × (Nat → Nat → Int64))
  | 0, _, _, _, _, _ => none
  | n + 1, x2, x3, x4, I, L => if 64 ≤ x4 then (k_89 x2 (x3 + 1) I L) else (if 0 ≤ x4 ∧ x4 < 64 then (if 1000000 ≤ I 326 x4.toNatClampNeg then (LO_C_shortestDoubt_104 fu k_89 n x2 x3 (x4 + 1) I L) else ((FO_C_goOn fu x4 I L).bind (fun u2 => let r2 := u2.1; let I2 := u2.2.1; let L2 := u2.2.2; if r2 = 0 then (LO_C_shortestDoubt_104 fu k_89 n x2 x3 (x4 + 1) I2 L2) else (LO_C_shortestDoubt_104 fu k_89 n 1 x3 (x4 + 1) I2 L2)))) else none)
set_option maxHeartbeats 20000000 in
set_option maxRecDepth 20000 in
theorem lo_C_shortestDoubt_104 {d fu n0 s0 : Nat} {X : Nat × (Nat → Int32)} {Q : PQ} {k_89 : Int32 → Int32 → (Nat → Nat → Int32) → (Nat → Nat → Int64) → Option (Int32 × (Nat → Nat → Int32) × (Nat → Nat → Int64))} {res : Int32 × (Nat → Nat → Int32) × (Nat → Nat → Int64)}  (g : Q (some (.int res.1)) (HS res.2.1 res.2.2 X)) (hk_89 : ∀ (x2 : Int32) (x3 : Int32) (I : Nat → Nat → Int32) (L : Nat → Nat → Int64), k_89 x2 x3 I L = some res → Wp (Ev (d + 3)) cd_C_shortestDoubt (0, 0) (some .int) n0 s0 Q 89 [(0, .ref 325), (1, .ref 1), (2, .int x2), (3, .int x3)] [] (HS I L X)) : ∀ (n : Nat) (x2 : Int32) (x3 : Int32) (x4 : Int32) (I : Nat → Nat → Int32) (L : Nat → Nat → Int64), LO_C_shortestDoubt_104 fu k_89 n x2 x3 x4 I L = some res → Wp (Ev (d + 3)) cd_C_shortestDoubt (0, 0) (some .int) n0 s0 Q 104 [(0, .ref 325), (1, .ref 1), (2, .int x2), (3, .int x3), (4, .int x4)] [] (HS I L X) := by
  intro n
  induction n with
  | zero => intro _ _ _ _ _ q; cases q
  | succ n ih =>
    intro x2 x3 x4 I L q
    unfold LO_C_shortestDoubt_104 at q
    refine w_iload (Ev.cm _) rfl rfl ?_
    refine w_bipush (Ev.cm _) rfl ?_
    refine w_icmp_ge (Ev.cm _) rfl (fun c1 => ?_) (fun c1 => ?_)
    · have c1 : 64 ≤ x4 := c1
      rw [if_pos c1] at q
      refine w_iinc (ls2 := [(0, .ref 325), (1, .ref 1), (2, .int x2), (3, .int (x3 + 1)), (4, .int x4)]) (Ev.cm _) rfl rfl rfl ?_
      refine w_goto (Ev.cm _) rfl ?_
      show Wp _ _ _ _ _ _ _ 89 [(0, .ref 325), (1, .ref 1), (2, .int x2), (3, .int (x3 + 1)), (4, .int x4)] [] (HS I L X)
      refine Wp.sub [0, 1, 2, 3] (ls2 := [(0, .ref 325), (1, .ref 1), (2, .int x2), (3, .int (x3 + 1))]) rfl ?_
      exact hk_89 _ _ _ _ q
    · have c1 : ¬ (64 ≤ x4) := c1
      rw [if_neg c1] at q
      refine w_aload_n (Ev.cm _) rfl rfl ?_
      refine w_getR (q := 326) (Ev.cm _) rfl (Nat.le_of_ble_eq_true rfl) rfl rfl ?_
      refine w_iload (Ev.cm _) rfl rfl ?_
      obtain ⟨b1, q⟩ := ois q
      refine w_iald (Ev.cm _) rfl (Nat.le_of_ble_eq_true rfl) rfl (show vp_in x4 64 from vpI 64 (by decide) b1.1 b1.2) ?_
      refine w_ldc (Ev.cm _) rfl ?_
      refine w_icmp_ge (Ev.cm _) rfl (fun c2 => ?_) (fun c2 => ?_)
      · have c2 : 1000000 ≤ I 326 x4.toNatClampNeg := c2
        rw [if_pos c2] at q
        refine w_iinc (ls2 := [(0, .ref 325), (1, .ref 1), (2, .int x2), (3, .int x3), (4, .int (x4 + 1))]) (Ev.cm _) rfl rfl rfl ?_
        refine w_goto (Ev.cm _) rfl ?_
        show Wp _ _ _ _ _ _ _ 104 [(0, .ref 325), (1, .ref 1), (2, .int x2), (3, .int x3), (4, .int (x4 + 1))] [] (HS I L X)
        refine Wp.sub [0, 1, 2, 3, 4] (ls2 := [(0, .ref 325), (1, .ref 1), (2, .int x2), (3, .int x3), (4, .int (x4 + 1))]) rfl ?_
        exact ih _ _ _ _ _ q
      · have c2 : ¬ (1000000 ≤ I 326 x4.toNatClampNeg) := c2
        rw [if_neg c2] at q
        refine w_aload_n (Ev.cm _) rfl rfl ?_
        refine w_aload_n (Ev.cm _) rfl rfl ?_
        refine w_iload (Ev.cm _) rfl rfl ?_
        obtain ⟨⟨r2, I2, L2⟩, e2, q⟩ := obs q
        dsimp only at q
        refine w_cvirt (o := 325) (as := [.ref 1, .int x4]) (st := []) (Ev.cm _) rfl rfl rfl (Nat.le_of_ble_eq_true rfl) (Nat.le_of_ble_eq_true rfl) rfl (Nat.le_of_ble_eq_true rfl) (eo_C_goOn (g := ?_) e2)
        show Wp _ _ _ _ _ _ _ 130 [(0, .ref 325), (1, .ref 1), (2, .int x2), (3, .int x3), (4, .int x4)] [.int r2] (HS I2 L2 X)
        refine w_if_eq (Ev.cm _) rfl (fun c3 => ?_) (fun c3 => ?_)
        · have c3 : r2 = 0 := c3
          rw [if_pos c3] at q
          refine w_iinc (ls2 := [(0, .ref 325), (1, .ref 1), (2, .int x2), (3, .int x3), (4, .int (x4 + 1))]) (Ev.cm _) rfl rfl rfl ?_
          refine w_goto (Ev.cm _) rfl ?_
          show Wp _ _ _ _ _ _ _ 104 [(0, .ref 325), (1, .ref 1), (2, .int x2), (3, .int x3), (4, .int (x4 + 1))] [] (HS I2 L2 X)
          refine Wp.sub [0, 1, 2, 3, 4] (ls2 := [(0, .ref 325), (1, .ref 1), (2, .int x2), (3, .int x3), (4, .int (x4 + 1))]) rfl ?_
          exact ih _ _ _ _ _ q
        · have c3 : ¬ (r2 = 0) := c3
          rw [if_neg c3] at q
          refine w_iconst (Ev.cm _) rfl ?_
          refine w_istore_n (ls2 := [(0, .ref 325), (1, .ref 1), (2, .int 1), (3, .int x3), (4, .int x4)]) (Ev.cm _) rfl rfl ?_
          refine w_iinc (ls2 := [(0, .ref 325), (1, .ref 1), (2, .int 1), (3, .int x3), (4, .int (x4 + 1))]) (Ev.cm _) rfl rfl rfl ?_
          refine w_goto (Ev.cm _) rfl ?_
          show Wp _ _ _ _ _ _ _ 104 [(0, .ref 325), (1, .ref 1), (2, .int 1), (3, .int x3), (4, .int (x4 + 1))] [] (HS I2 L2 X)
          refine Wp.sub [0, 1, 2, 3, 4] (ls2 := [(0, .ref 325), (1, .ref 1), (2, .int 1), (3, .int x3), (4, .int (x4 + 1))]) rfl ?_
          exact ih _ _ _ _ _ q
def LO_C_shortestDoubt_89 (fu : Nat) : Nat → Int32 → Int32 → (Nat → Nat → Int32) → (Nat → Nat → Int64) → Option (Int32 × (Nat → Nat → Int32) × (Nat → Nat → Int64))
  | 0, _, _, _, _ => none
  | n + 1, x2, x3, I, L => if 64 ≤ x3 then (if 1000000 ≤ I 326 1 then (some ((-1), I, L)) else (some (I 326 1, I, L))) else (if x2 = 0 then (if 1000000 ≤ I 326 1 then (some ((-1), I, L)) else (some (I 326 1, I, L))) else (LO_C_shortestDoubt_104 fu (fun x2 x3 I L => LO_C_shortestDoubt_89 fu n x2 x3 I L) fu 0 x3 2 I L))
set_option maxHeartbeats 20000000 in
set_option maxRecDepth 20000 in
theorem lo_C_shortestDoubt_89 {d fu n0 s0 : Nat} {X : Nat × (Nat → Int32)} {Q : PQ} {res : Int32 × (Nat → Nat → Int32) × (Nat → Nat → Int64)}  (g : Q (some (.int res.1)) (HS res.2.1 res.2.2 X)) : ∀ (n : Nat) (x2 : Int32) (x3 : Int32) (I : Nat → Nat → Int32) (L : Nat → Nat → Int64), LO_C_shortestDoubt_89 fu n x2 x3 I L = some res → Wp (Ev (d + 3)) cd_C_shortestDoubt (0, 0) (some .int) n0 s0 Q 89 [(0, .ref 325), (1, .ref 1), (2, .int x2), (3, .int x3)] [] (HS I L X) := by
  intro n
  induction n with
  | zero => intro _ _ _ _ q; cases q
  | succ n ih =>
    intro x2 x3 I L q
    unfold LO_C_shortestDoubt_89 at q
    refine w_iload_n (Ev.cm _) rfl rfl ?_
    refine w_bipush (Ev.cm _) rfl ?_
    refine w_icmp_ge (Ev.cm _) rfl (fun c1 => ?_) (fun c1 => ?_)
    · have c1 : 64 ≤ x3 := c1
      rw [if_pos c1] at q
      refine w_aload_n (Ev.cm _) rfl rfl ?_
      refine w_getR (q := 326) (Ev.cm _) rfl (Nat.le_of_ble_eq_true rfl) rfl rfl ?_
      refine w_iconst (Ev.cm _) rfl ?_
      refine w_iald (Ev.cm _) rfl (Nat.le_of_ble_eq_true rfl) rfl (show vp_in 1 64 from vpI 64 (by decide) (by decide) (by decide)) ?_
      refine w_ldc (Ev.cm _) rfl ?_
      refine w_icmp_ge (Ev.cm _) rfl (fun c2 => ?_) (fun c2 => ?_)
      · have c2 : 1000000 ≤ I 326 1 := c2
        rw [if_pos c2] at q
        refine w_iconst (Ev.cm _) rfl ?_
        refine w_ireturn (Ev.cm _) rfl trivial rf0 ?_
        cases q
        exact g
      · have c2 : ¬ (1000000 ≤ I 326 1) := c2
        rw [if_neg c2] at q
        refine w_aload_n (Ev.cm _) rfl rfl ?_
        refine w_getR (q := 326) (Ev.cm _) rfl (Nat.le_of_ble_eq_true rfl) rfl rfl ?_
        refine w_iconst (Ev.cm _) rfl ?_
        refine w_iald (Ev.cm _) rfl (Nat.le_of_ble_eq_true rfl) rfl (show vp_in 1 64 from vpI 64 (by decide) (by decide) (by decide)) ?_
        refine w_goto (Ev.cm _) rfl ?_
        refine w_ireturn (Ev.cm _) rfl trivial rf0 ?_
        cases q
        exact g
    · have c1 : ¬ (64 ≤ x3) := c1
      rw [if_neg c1] at q
      refine w_iload_n (Ev.cm _) rfl rfl ?_
      refine w_if_eq (Ev.cm _) rfl (fun c3 => ?_) (fun c3 => ?_)
      · have c3 : x2 = 0 := c3
        rw [if_pos c3] at q
        refine w_aload_n (Ev.cm _) rfl rfl ?_
        refine w_getR (q := 326) (Ev.cm _) rfl (Nat.le_of_ble_eq_true rfl) rfl rfl ?_
        refine w_iconst (Ev.cm _) rfl ?_
        refine w_iald (Ev.cm _) rfl (Nat.le_of_ble_eq_true rfl) rfl (show vp_in 1 64 from vpI 64 (by decide) (by decide) (by decide)) ?_
        refine w_ldc (Ev.cm _) rfl ?_
        refine w_icmp_ge (Ev.cm _) rfl (fun c4 => ?_) (fun c4 => ?_)
        · have c4 : 1000000 ≤ I 326 1 := c4
          rw [if_pos c4] at q
          refine w_iconst (Ev.cm _) rfl ?_
          refine w_ireturn (Ev.cm _) rfl trivial rf0 ?_
          cases q
          exact g
        · have c4 : ¬ (1000000 ≤ I 326 1) := c4
          rw [if_neg c4] at q
          refine w_aload_n (Ev.cm _) rfl rfl ?_
          refine w_getR (q := 326) (Ev.cm _) rfl (Nat.le_of_ble_eq_true rfl) rfl rfl ?_
          refine w_iconst (Ev.cm _) rfl ?_
          refine w_iald (Ev.cm _) rfl (Nat.le_of_ble_eq_true rfl) rfl (show vp_in 1 64 from vpI 64 (by decide) (by decide) (by decide)) ?_
          refine w_goto (Ev.cm _) rfl ?_
          refine w_ireturn (Ev.cm _) rfl trivial rf0 ?_
          cases q
          exact g
      · have c3 : ¬ (x2 = 0) := c3
        rw [if_neg c3] at q
        refine w_iconst (Ev.cm _) rfl ?_
        refine w_istore_n (ls2 := [(0, .ref 325), (1, .ref 1), (2, .int 0), (3, .int x3)]) (Ev.cm _) rfl rfl ?_
        refine w_iconst (Ev.cm _) rfl ?_
        refine w_istore (ls2 := [(0, .ref 325), (1, .ref 1), (2, .int 0), (3, .int x3), (4, .int 2)]) (Ev.cm _) rfl rfl ?_
        show Wp _ _ _ _ _ _ _ 104 [(0, .ref 325), (1, .ref 1), (2, .int 0), (3, .int x3), (4, .int 2)] [] (HS I L X)
        refine Wp.sub [0, 1, 2, 3, 4] (ls2 := [(0, .ref 325), (1, .ref 1), (2, .int 0), (3, .int x3), (4, .int 2)]) rfl ?_
        exact lo_C_shortestDoubt_104 g (fun x2 x3 I L q => ih x2 x3 I L q) fu _ _ _ _ _ q
def LO_C_shortestDoubt_26 (fu : Nat) (k_11 : Int32 → (Nat → Nat → Int32) → (Nat → Nat → Int64) → Option (Int32 × (Nat → Nat → Int32) × (Nat → Nat → Int64))) : Nat → Int32 → Int32 → (Nat → Nat → Int32) → (Nat → Nat → Int64) → Option (Int32 × (Nat → Nat → Int32) × (Nat → Nat → Int64))
  | 0, _, _, _, _ => none
  | n + 1, x2, x3, I, L => if I 1 13 ≤ x3 then (k_11 (x2 + 1) I L) else (if 5 ≤ x3 then (k_11 (x2 + 1) I L) else (if x2 = x3 then (LO_C_shortestDoubt_26 fu k_11 n x2 (x3 + 1) I L) else (if 0 ≤ x2 ∧ x2 < 5 then (if 0 ≤ x3 ∧ x3 < 5 then ((FO_C_behind fu (I 134 x2.toNatClampNeg) (I 134 x3.toNatClampNeg) I L).bind (fun u3 => let r3 := u3.1; let I3 := u3.2.1; let L3 := u3.2.2; if 0 ≤ x2 ∧ x2 < 5 then ((FO_C_lengthOf fu (I3 134 x2.toNatClampNeg) I3 L3).bind (fun u5 => let r5 := u5.1; let I5 := u5.2.1; let L5 := u5.2.2; (FO_C_lower fu r3 r5 I5 L5).bind (fun u6 => let r6 := u6.1; let I6 := u6.2.1; let L6 := u6.2.2; LO_C_shortestDoubt_26 fu k_11 n x2 (x3 + 1) I6 L6))) else none)) else none) else none)))
set_option maxHeartbeats 20000000 in
set_option maxRecDepth 20000 in
theorem lo_C_shortestDoubt_26 {d fu n0 s0 : Nat} {X : Nat × (Nat → Int32)} {Q : PQ} {k_11 : Int32 → (Nat → Nat → Int32) → (Nat → Nat → Int64) → Option (Int32 × (Nat → Nat → Int32) × (Nat → Nat → Int64))} {res : Int32 × (Nat → Nat → Int32) × (Nat → Nat → Int64)}  (g : Q (some (.int res.1)) (HS res.2.1 res.2.2 X)) (hk_11 : ∀ (x2 : Int32) (I : Nat → Nat → Int32) (L : Nat → Nat → Int64), k_11 x2 I L = some res → Wp (Ev (d + 3)) cd_C_shortestDoubt (0, 0) (some .int) n0 s0 Q 11 [(0, .ref 325), (1, .ref 1), (2, .int x2)] [] (HS I L X)) : ∀ (n : Nat) (x2 : Int32) (x3 : Int32) (I : Nat → Nat → Int32) (L : Nat → Nat → Int64), LO_C_shortestDoubt_26 fu k_11 n x2 x3 I L = some res → Wp (Ev (d + 3)) cd_C_shortestDoubt (0, 0) (some .int) n0 s0 Q 26 [(0, .ref 325), (1, .ref 1), (2, .int x2), (3, .int x3)] [] (HS I L X) := by
  intro n
  induction n with
  | zero => intro _ _ _ _ q; cases q
  | succ n ih =>
    intro x2 x3 I L q
    unfold LO_C_shortestDoubt_26 at q
    refine w_iload_n (Ev.cm _) rfl rfl ?_
    refine w_aload_n (Ev.cm _) rfl rfl ?_
    refine w_getI (Ev.cm _) rfl (Nat.le_of_ble_eq_true rfl) rfl ?_
    refine w_icmp_ge (Ev.cm _) rfl (fun c1 => ?_) (fun c1 => ?_)
    · have c1 : I 1 13 ≤ x3 := c1
      rw [if_pos c1] at q
      refine w_iinc (ls2 := [(0, .ref 325), (1, .ref 1), (2, .int (x2 + 1)), (3, .int x3)]) (Ev.cm _) rfl rfl rfl ?_
      refine w_goto (Ev.cm _) rfl ?_
      show Wp _ _ _ _ _ _ _ 11 [(0, .ref 325), (1, .ref 1), (2, .int (x2 + 1)), (3, .int x3)] [] (HS I L X)
      refine Wp.sub [0, 1, 2] (ls2 := [(0, .ref 325), (1, .ref 1), (2, .int (x2 + 1))]) rfl ?_
      exact hk_11 _ _ _ q
    · have c1 : ¬ (I 1 13 ≤ x3) := c1
      rw [if_neg c1] at q
      refine w_iload_n (Ev.cm _) rfl rfl ?_
      refine w_iconst (Ev.cm _) rfl ?_
      refine w_icmp_ge (Ev.cm _) rfl (fun c2 => ?_) (fun c2 => ?_)
      · have c2 : 5 ≤ x3 := c2
        rw [if_pos c2] at q
        refine w_iinc (ls2 := [(0, .ref 325), (1, .ref 1), (2, .int (x2 + 1)), (3, .int x3)]) (Ev.cm _) rfl rfl rfl ?_
        refine w_goto (Ev.cm _) rfl ?_
        show Wp _ _ _ _ _ _ _ 11 [(0, .ref 325), (1, .ref 1), (2, .int (x2 + 1)), (3, .int x3)] [] (HS I L X)
        refine Wp.sub [0, 1, 2] (ls2 := [(0, .ref 325), (1, .ref 1), (2, .int (x2 + 1))]) rfl ?_
        exact hk_11 _ _ _ q
      · have c2 : ¬ (5 ≤ x3) := c2
        rw [if_neg c2] at q
        refine w_iload_n (Ev.cm _) rfl rfl ?_
        refine w_iload_n (Ev.cm _) rfl rfl ?_
        refine w_icmp_eq (Ev.cm _) rfl (fun c3 => ?_) (fun c3 => ?_)
        · have c3 : x2 = x3 := c3
          rw [if_pos c3] at q
          refine w_iinc (ls2 := [(0, .ref 325), (1, .ref 1), (2, .int x2), (3, .int (x3 + 1))]) (Ev.cm _) rfl rfl rfl ?_
          refine w_goto (Ev.cm _) rfl ?_
          show Wp _ _ _ _ _ _ _ 26 [(0, .ref 325), (1, .ref 1), (2, .int x2), (3, .int (x3 + 1))] [] (HS I L X)
          refine Wp.sub [0, 1, 2, 3] (ls2 := [(0, .ref 325), (1, .ref 1), (2, .int x2), (3, .int (x3 + 1))]) rfl ?_
          exact ih _ _ _ _ q
        · have c3 : ¬ (x2 = x3) := c3
          rw [if_neg c3] at q
          refine w_aload_n (Ev.cm _) rfl rfl ?_
          refine w_aload_n (Ev.cm _) rfl rfl ?_
          refine w_getR (q := 134) (Ev.cm _) rfl (Nat.le_of_ble_eq_true rfl) rfl rfl ?_
          refine w_iload_n (Ev.cm _) rfl rfl ?_
          obtain ⟨b1, q⟩ := ois q
          refine w_iald (Ev.cm _) rfl (Nat.le_of_ble_eq_true rfl) rfl (show vp_in x2 5 from vpI 5 (by decide) b1.1 b1.2) ?_
          refine w_aload_n (Ev.cm _) rfl rfl ?_
          refine w_getR (q := 134) (Ev.cm _) rfl (Nat.le_of_ble_eq_true rfl) rfl rfl ?_
          refine w_iload_n (Ev.cm _) rfl rfl ?_
          obtain ⟨b2, q⟩ := ois q
          refine w_iald (Ev.cm _) rfl (Nat.le_of_ble_eq_true rfl) rfl (show vp_in x3 5 from vpI 5 (by decide) b2.1 b2.2) ?_
          obtain ⟨⟨r3, I3, L3⟩, e3, q⟩ := obs q
          dsimp only at q
          refine w_cstat (as := [.int (I 134 x2.toNatClampNeg), .int (I 134 x3.toNatClampNeg)]) (st := [.ref 325]) (Ev.cm _) rfl rfl rfl (Nat.le_of_ble_eq_true rfl) (Nat.le_of_ble_eq_true rfl) (eo_C_behind (g := ?_) e3)
          show Wp _ _ _ _ _ _ _ 60 [(0, .ref 325), (1, .ref 1), (2, .int x2), (3, .int x3)] [.int r3, .ref 325] (HS I3 L3 X)
          refine w_aload_n (Ev.cm _) rfl rfl ?_
          refine w_getR (q := 134) (Ev.cm _) rfl (Nat.le_of_ble_eq_true rfl) rfl rfl ?_
          refine w_iload_n (Ev.cm _) rfl rfl ?_
          obtain ⟨b4, q⟩ := ois q
          refine w_iald (Ev.cm _) rfl (Nat.le_of_ble_eq_true rfl) rfl (show vp_in x2 5 from vpI 5 (by decide) b4.1 b4.2) ?_
          obtain ⟨⟨r5, I5, L5⟩, e5, q⟩ := obs q
          dsimp only at q
          refine w_cstat (as := [.int (I3 134 x2.toNatClampNeg)]) (st := [.int r3, .ref 325]) (Ev.cm _) rfl rfl rfl (Nat.le_of_ble_eq_true rfl) (Nat.le_of_ble_eq_true rfl) (eo_C_lengthOf (g := ?_) e5)
          show Wp _ _ _ _ _ _ _ 69 [(0, .ref 325), (1, .ref 1), (2, .int x2), (3, .int x3)] [.int r5, .int r3, .ref 325] (HS I5 L5 X)
          obtain ⟨⟨r6, I6, L6⟩, e6, q⟩ := obs q
          dsimp only at q
          refine w_cvirt (o := 325) (as := [.int r3, .int r5]) (st := []) (Ev.cm _) rfl rfl rfl (Nat.le_of_ble_eq_true rfl) (Nat.le_of_ble_eq_true rfl) rfl (Nat.le_of_ble_eq_true rfl) (eo_C_lower (g := ?_) e6)
          show Wp _ _ _ _ _ _ _ 72 [(0, .ref 325), (1, .ref 1), (2, .int x2), (3, .int x3)] [.int r6] (HS I6 L6 X)
          refine w_pop (Ev.cm _) rfl rfl ?_
          refine w_iinc (ls2 := [(0, .ref 325), (1, .ref 1), (2, .int x2), (3, .int (x3 + 1))]) (Ev.cm _) rfl rfl rfl ?_
          refine w_goto (Ev.cm _) rfl ?_
          show Wp _ _ _ _ _ _ _ 26 [(0, .ref 325), (1, .ref 1), (2, .int x2), (3, .int (x3 + 1))] [] (HS I6 L6 X)
          refine Wp.sub [0, 1, 2, 3] (ls2 := [(0, .ref 325), (1, .ref 1), (2, .int x2), (3, .int (x3 + 1))]) rfl ?_
          exact ih _ _ _ _ q
def LO_C_shortestDoubt_11 (fu : Nat) : Nat → Int32 → (Nat → Nat → Int32) → (Nat → Nat → Int64) → Option (Int32 × (Nat → Nat → Int32) × (Nat → Nat → Int64))
  | 0, _, _, _ => none
  | n + 1, x2, I, L => if I 1 13 ≤ x2 then (LO_C_shortestDoubt_89 fu fu 1 0 I L) else (if 5 ≤ x2 then (LO_C_shortestDoubt_89 fu fu 1 0 I L) else (LO_C_shortestDoubt_26 fu (fun x2 I L => LO_C_shortestDoubt_11 fu n x2 I L) fu x2 0 I L))
set_option maxHeartbeats 20000000 in
set_option maxRecDepth 20000 in
theorem lo_C_shortestDoubt_11 {d fu n0 s0 : Nat} {X : Nat × (Nat → Int32)} {Q : PQ} {res : Int32 × (Nat → Nat → Int32) × (Nat → Nat → Int64)}  (g : Q (some (.int res.1)) (HS res.2.1 res.2.2 X)) : ∀ (n : Nat) (x2 : Int32) (I : Nat → Nat → Int32) (L : Nat → Nat → Int64), LO_C_shortestDoubt_11 fu n x2 I L = some res → Wp (Ev (d + 3)) cd_C_shortestDoubt (0, 0) (some .int) n0 s0 Q 11 [(0, .ref 325), (1, .ref 1), (2, .int x2)] [] (HS I L X) := by
  intro n
  induction n with
  | zero => intro _ _ _ q; cases q
  | succ n ih =>
    intro x2 I L q
    unfold LO_C_shortestDoubt_11 at q
    refine w_iload_n (Ev.cm _) rfl rfl ?_
    refine w_aload_n (Ev.cm _) rfl rfl ?_
    refine w_getI (Ev.cm _) rfl (Nat.le_of_ble_eq_true rfl) rfl ?_
    refine w_icmp_ge (Ev.cm _) rfl (fun c1 => ?_) (fun c1 => ?_)
    · have c1 : I 1 13 ≤ x2 := c1
      rw [if_pos c1] at q
      refine w_iconst (Ev.cm _) rfl ?_
      refine w_istore_n (ls2 := [(0, .ref 325), (1, .ref 1), (2, .int 1)]) (Ev.cm _) rfl rfl ?_
      refine w_iconst (Ev.cm _) rfl ?_
      refine w_istore_n (ls2 := [(0, .ref 325), (1, .ref 1), (2, .int 1), (3, .int 0)]) (Ev.cm _) rfl rfl ?_
      show Wp _ _ _ _ _ _ _ 89 [(0, .ref 325), (1, .ref 1), (2, .int 1), (3, .int 0)] [] (HS I L X)
      refine Wp.sub [0, 1, 2, 3] (ls2 := [(0, .ref 325), (1, .ref 1), (2, .int 1), (3, .int 0)]) rfl ?_
      exact lo_C_shortestDoubt_89 g fu _ _ _ _ q
    · have c1 : ¬ (I 1 13 ≤ x2) := c1
      rw [if_neg c1] at q
      refine w_iload_n (Ev.cm _) rfl rfl ?_
      refine w_iconst (Ev.cm _) rfl ?_
      refine w_icmp_ge (Ev.cm _) rfl (fun c2 => ?_) (fun c2 => ?_)
      · have c2 : 5 ≤ x2 := c2
        rw [if_pos c2] at q
        refine w_iconst (Ev.cm _) rfl ?_
        refine w_istore_n (ls2 := [(0, .ref 325), (1, .ref 1), (2, .int 1)]) (Ev.cm _) rfl rfl ?_
        refine w_iconst (Ev.cm _) rfl ?_
        refine w_istore_n (ls2 := [(0, .ref 325), (1, .ref 1), (2, .int 1), (3, .int 0)]) (Ev.cm _) rfl rfl ?_
        show Wp _ _ _ _ _ _ _ 89 [(0, .ref 325), (1, .ref 1), (2, .int 1), (3, .int 0)] [] (HS I L X)
        refine Wp.sub [0, 1, 2, 3] (ls2 := [(0, .ref 325), (1, .ref 1), (2, .int 1), (3, .int 0)]) rfl ?_
        exact lo_C_shortestDoubt_89 g fu _ _ _ _ q
      · have c2 : ¬ (5 ≤ x2) := c2
        rw [if_neg c2] at q
        refine w_iconst (Ev.cm _) rfl ?_
        refine w_istore_n (ls2 := [(0, .ref 325), (1, .ref 1), (2, .int x2), (3, .int 0)]) (Ev.cm _) rfl rfl ?_
        show Wp _ _ _ _ _ _ _ 26 [(0, .ref 325), (1, .ref 1), (2, .int x2), (3, .int 0)] [] (HS I L X)
        refine Wp.sub [0, 1, 2, 3] (ls2 := [(0, .ref 325), (1, .ref 1), (2, .int x2), (3, .int 0)]) rfl ?_
        exact lo_C_shortestDoubt_26 g (fun x2 I L q => ih x2 I L q) fu _ _ _ _ q
def FO_C_shortestDoubt (fu : Nat) (I : Nat → Nat → Int32) (L : Nat → Nat → Int64) : Option (Int32 × (Nat → Nat → Int32) × (Nat → Nat → Int64)) := (some (va_up I 326 (fillF (I 326) 1000000 64))).bind (fun I1 => LO_C_shortestDoubt_11 fu fu 0 I1 L)
set_option maxHeartbeats 20000000 in
set_option maxRecDepth 20000 in
theorem eo_C_shortestDoubt {d fu : Nat} {I : Nat → Nat → Int32} {L : Nat → Nat → Int64} {X : Nat × (Nat → Int32)} {Q : PQ} {res : Int32 × (Nat → Nat → Int32) × (Nat → Nat → Int64)}  (g : Q (some (.int res.1)) (HS res.2.1 res.2.2 X)) (q : FO_C_shortestDoubt fu  I L = some res) : Ev (d + 4) m_C_shortestDoubt [.ref 325, .ref 1] (HS I L X) Q := by
  unfold FO_C_shortestDoubt at q
  refine ev_start (d := d + 3) rfl rfl rfl (Nat.le_of_ble_eq_true rfl) ?_
  show Wp (Ev (d + 3)) cd_C_shortestDoubt (0, 0) (some .int) _ _ Q 0 [(0, .ref 325), (1, .ref 1)] [] (HS I L X)
  refine w_aload_n (Ev.cm _) rfl rfl ?_
  refine w_getR (q := 326) (Ev.cm _) rfl (Nat.le_of_ble_eq_true rfl) rfl rfl ?_
  refine w_ldc (Ev.cm _) rfl ?_
  obtain ⟨I1, e1, q⟩ := obs q
  try dsimp only at q
  refine w_cstat (as := [.ref 326, .int 1000000]) (st := []) (Ev.cm _) rfl rfl rfl (Nat.le_of_ble_eq_true rfl) (Nat.le_of_ble_eq_true rfl) (e_fill_e (Nat.le_of_ble_eq_true rfl) (n := 64) rfl (by decide) e1 ?_)
  show Wp _ _ _ _ _ _ _ 9 [(0, .ref 325), (1, .ref 1)] [] (HS I1 L X)
  refine w_iconst (Ev.cm _) rfl ?_
  refine w_istore_n (ls2 := [(0, .ref 325), (1, .ref 1), (2, .int 0)]) (Ev.cm _) rfl rfl ?_
  show Wp _ _ _ _ _ _ _ 11 [(0, .ref 325), (1, .ref 1), (2, .int 0)] [] (HS I1 L X)
  refine Wp.sub [0, 1, 2] (ls2 := [(0, .ref 325), (1, .ref 1), (2, .int 0)]) rfl ?_
  exact lo_C_shortestDoubt_11 g fu _ _ _ q
def LO_O_weighFromBack_45 (fu : Nat) (k_15 : Int32 → Int32 → Int32 → (Nat → Nat → Int32) → (Nat → Nat → Int64) → Option (Unit × (Nat → Nat → Int32) × (Nat → Nat → Int64))) (k_23 : Int32 → Int32 → Int32 → Int32 → (Nat → Nat → Int32) → (Nat → Nat → Int64) → Option (Unit × (Nat → Nat → Int32) × (Nat → Nat → Int64))) : Nat → Int32 → Int32 → Int32 → Int32 → Int64 → Int32 → (Nat → Nat → Int32) → (Nat → Nat → Int64) → Option (Unit × (Nat → Nat → Int32) × (Nat → Nat → Int64))
  | 0, _, _, _, _, _, _, _, _ => none
  | n + 1, x2, x3, x4, x5, x6, x8, I, L => if 3 ≤ x8 then (if 0 ≤ (x4 * 3) + x5 ∧ (x4 * 3) + x5 < 18 then (k_23 x2 x3 x4 (x5 + 1) I (sL L 324 (((x4 * 3) + x5).toNatClampNeg) x6)) else none) else (if x3 ≤ x4 then (if 0 ≤ (x4 * 3) + x5 ∧ (x4 * 3) + x5 < 18 then (k_23 x2 x3 x4 (x5 + 1) I (sL L 324 (((x4 * 3) + x5).toNatClampNeg) x6)) else none) else ((FO_O_goesOn fu x4 x5 x8 I L).bind (fun u3 => let r3 := u3.1; let I3 := u3.2.1; let L3 := u3.2.2; if x2 = 0 then (LO_O_weighFromBack_45 fu k_15 k_23 n x2 x3 x4 x5 (x6 + r3) (x8 + 1) I3 L3) else (LO_O_weighFromBack_45 fu k_15 k_23 n x2 x3 x4 x5 (F_J_maxL I3 x6 r3) (x8 + 1) I3 L3))))
set_option maxHeartbeats 20000000 in
set_option maxRecDepth 20000 in
theorem lo_O_weighFromBack_45 {d fu n0 s0 : Nat} {X : Nat × (Nat → Int32)} {Q : PQ} {k_15 : Int32 → Int32 → Int32 → (Nat → Nat → Int32) → (Nat → Nat → Int64) → Option (Unit × (Nat → Nat → Int32) × (Nat → Nat → Int64))} {k_23 : Int32 → Int32 → Int32 → Int32 → (Nat → Nat → Int32) → (Nat → Nat → Int64) → Option (Unit × (Nat → Nat → Int32) × (Nat → Nat → Int64))} {res : Unit × (Nat → Nat → Int32) × (Nat → Nat → Int64)}  (g : Q none (HS res.2.1 res.2.2 X)) (hk_15 : ∀ (x2 : Int32) (x3 : Int32) (x4 : Int32) (I : Nat → Nat → Int32) (L : Nat → Nat → Int64), k_15 x2 x3 x4 I L = some res → Wp (Ev (d + 4)) cd_O_weighFromBack (0, 0) none n0 s0 Q 15 [(0, .ref 322), (1, .ref 1), (2, .int x2), (3, .int x3), (4, .int x4)] [] (HS I L X)) (hk_23 : ∀ (x2 : Int32) (x3 : Int32) (x4 : Int32) (x5 : Int32) (I : Nat → Nat → Int32) (L : Nat → Nat → Int64), k_23 x2 x3 x4 x5 I L = some res → Wp (Ev (d + 4)) cd_O_weighFromBack (0, 0) none n0 s0 Q 23 [(0, .ref 322), (1, .ref 1), (2, .int x2), (3, .int x3), (4, .int x4), (5, .int x5)] [] (HS I L X)) : ∀ (n : Nat) (x2 : Int32) (x3 : Int32) (x4 : Int32) (x5 : Int32) (x6 : Int64) (x8 : Int32) (I : Nat → Nat → Int32) (L : Nat → Nat → Int64), LO_O_weighFromBack_45 fu k_15 k_23 n x2 x3 x4 x5 x6 x8 I L = some res → Wp (Ev (d + 4)) cd_O_weighFromBack (0, 0) none n0 s0 Q 45 [(0, .ref 322), (1, .ref 1), (2, .int x2), (3, .int x3), (4, .int x4), (5, .int x5), (6, .long x6), (8, .int x8)] [] (HS I L X) := by
  intro n
  induction n with
  | zero => intro _ _ _ _ _ _ _ _ q; cases q
  | succ n ih =>
    intro x2 x3 x4 x5 x6 x8 I L q
    unfold LO_O_weighFromBack_45 at q
    refine w_iload (Ev.cm _) rfl rfl ?_
    refine w_iconst (Ev.cm _) rfl ?_
    refine w_icmp_ge (Ev.cm _) rfl (fun c1 => ?_) (fun c1 => ?_)
    · have c1 : 3 ≤ x8 := c1
      rw [if_pos c1] at q
      refine w_aload_n (Ev.cm _) rfl rfl ?_
      refine w_getR (q := 324) (Ev.cm _) rfl (Nat.le_of_ble_eq_true rfl) rfl rfl ?_
      refine w_iload (Ev.cm _) rfl rfl ?_
      refine w_iconst (Ev.cm _) rfl ?_
      refine w_imul (Ev.cm _) rfl ?_
      refine w_iload (Ev.cm _) rfl rfl ?_
      refine w_iadd (Ev.cm _) rfl ?_
      refine w_lload (Ev.cm _) rfl rfl ?_
      obtain ⟨b1, q⟩ := ois q
      refine w_last (Ev.cm _) rfl (Nat.le_of_ble_eq_true rfl) rfl (show vp_in ((x4 * 3) + x5) 18 from vpI 18 (by decide) b1.1 b1.2) ?_
      refine w_iinc (ls2 := [(0, .ref 322), (1, .ref 1), (2, .int x2), (3, .int x3), (4, .int x4), (5, .int (x5 + 1)), (6, .long x6), (8, .int x8)]) (Ev.cm _) rfl rfl rfl ?_
      refine w_goto (Ev.cm _) rfl ?_
      show Wp _ _ _ _ _ _ _ 23 [(0, .ref 322), (1, .ref 1), (2, .int x2), (3, .int x3), (4, .int x4), (5, .int (x5 + 1)), (6, .long x6), (8, .int x8)] [] (HS I (sL L 324 (((x4 * 3) + x5).toNatClampNeg) x6) X)
      refine Wp.sub [0, 1, 2, 3, 4, 5] (ls2 := [(0, .ref 322), (1, .ref 1), (2, .int x2), (3, .int x3), (4, .int x4), (5, .int (x5 + 1))]) rfl ?_
      exact hk_23 _ _ _ _ _ _ q
    · have c1 : ¬ (3 ≤ x8) := c1
      rw [if_neg c1] at q
      refine w_iload (Ev.cm _) rfl rfl ?_
      refine w_iload_n (Ev.cm _) rfl rfl ?_
      refine w_icmp_ge (Ev.cm _) rfl (fun c2 => ?_) (fun c2 => ?_)
      · have c2 : x3 ≤ x4 := c2
        rw [if_pos c2] at q
        refine w_aload_n (Ev.cm _) rfl rfl ?_
        refine w_getR (q := 324) (Ev.cm _) rfl (Nat.le_of_ble_eq_true rfl) rfl rfl ?_
        refine w_iload (Ev.cm _) rfl rfl ?_
        refine w_iconst (Ev.cm _) rfl ?_
        refine w_imul (Ev.cm _) rfl ?_
        refine w_iload (Ev.cm _) rfl rfl ?_
        refine w_iadd (Ev.cm _) rfl ?_
        refine w_lload (Ev.cm _) rfl rfl ?_
        obtain ⟨b2, q⟩ := ois q
        refine w_last (Ev.cm _) rfl (Nat.le_of_ble_eq_true rfl) rfl (show vp_in ((x4 * 3) + x5) 18 from vpI 18 (by decide) b2.1 b2.2) ?_
        refine w_iinc (ls2 := [(0, .ref 322), (1, .ref 1), (2, .int x2), (3, .int x3), (4, .int x4), (5, .int (x5 + 1)), (6, .long x6), (8, .int x8)]) (Ev.cm _) rfl rfl rfl ?_
        refine w_goto (Ev.cm _) rfl ?_
        show Wp _ _ _ _ _ _ _ 23 [(0, .ref 322), (1, .ref 1), (2, .int x2), (3, .int x3), (4, .int x4), (5, .int (x5 + 1)), (6, .long x6), (8, .int x8)] [] (HS I (sL L 324 (((x4 * 3) + x5).toNatClampNeg) x6) X)
        refine Wp.sub [0, 1, 2, 3, 4, 5] (ls2 := [(0, .ref 322), (1, .ref 1), (2, .int x2), (3, .int x3), (4, .int x4), (5, .int (x5 + 1))]) rfl ?_
        exact hk_23 _ _ _ _ _ _ q
      · have c2 : ¬ (x3 ≤ x4) := c2
        rw [if_neg c2] at q
        refine w_aload_n (Ev.cm _) rfl rfl ?_
        refine w_aload_n (Ev.cm _) rfl rfl ?_
        refine w_iload (Ev.cm _) rfl rfl ?_
        refine w_iload (Ev.cm _) rfl rfl ?_
        refine w_iload (Ev.cm _) rfl rfl ?_
        obtain ⟨⟨r3, I3, L3⟩, e3, q⟩ := obs q
        dsimp only at q
        refine w_cvirt (o := 322) (as := [.ref 1, .int x4, .int x5, .int x8]) (st := []) (Ev.cm _) rfl rfl rfl (Nat.le_of_ble_eq_true rfl) (Nat.le_of_ble_eq_true rfl) rfl (Nat.le_of_ble_eq_true rfl) (eo_O_goesOn (g := ?_) e3)
        show Wp _ _ _ _ _ _ _ 68 [(0, .ref 322), (1, .ref 1), (2, .int x2), (3, .int x3), (4, .int x4), (5, .int x5), (6, .long x6), (8, .int x8)] [.long r3] (HS I3 L3 X)
        refine w_lstore (ls2 := [(0, .ref 322), (1, .ref 1), (2, .int x2), (3, .int x3), (4, .int x4), (5, .int x5), (6, .long x6), (8, .int x8), (9, .long r3)]) (Ev.cm _) rfl rfl ?_
        refine w_iload_n (Ev.cm _) rfl rfl ?_
        refine w_if_eq (Ev.cm _) rfl (fun c3 => ?_) (fun c3 => ?_)
        · have c3 : x2 = 0 := c3
          rw [if_pos c3] at q
          refine w_lload (Ev.cm _) rfl rfl ?_
          refine w_lload (Ev.cm _) rfl rfl ?_
          refine w_ladd (Ev.cm _) rfl ?_
          refine w_lstore (ls2 := [(0, .ref 322), (1, .ref 1), (2, .int x2), (3, .int x3), (4, .int x4), (5, .int x5), (6, .long (x6 + r3)), (8, .int x8), (9, .long r3)]) (Ev.cm _) rfl rfl ?_
          refine w_iinc (ls2 := [(0, .ref 322), (1, .ref 1), (2, .int x2), (3, .int x3), (4, .int x4), (5, .int x5), (6, .long (x6 + r3)), (8, .int (x8 + 1)), (9, .long r3)]) (Ev.cm _) rfl rfl rfl ?_
          refine w_goto (Ev.cm _) rfl ?_
          show Wp _ _ _ _ _ _ _ 45 [(0, .ref 322), (1, .ref 1), (2, .int x2), (3, .int x3), (4, .int x4), (5, .int x5), (6, .long (x6 + r3)), (8, .int (x8 + 1)), (9, .long r3)] [] (HS I3 L3 X)
          refine Wp.sub [0, 1, 2, 3, 4, 5, 6, 7] (ls2 := [(0, .ref 322), (1, .ref 1), (2, .int x2), (3, .int x3), (4, .int x4), (5, .int x5), (6, .long (x6 + r3)), (8, .int (x8 + 1))]) rfl ?_
          exact ih _ _ _ _ _ _ _ _ q
        · have c3 : ¬ (x2 = 0) := c3
          rw [if_neg c3] at q
          refine w_lload (Ev.cm _) rfl rfl ?_
          refine w_lload (Ev.cm _) rfl rfl ?_
          refine w_cstat (as := [.long x6, .long r3]) (st := []) (Ev.cm _) rfl rfl rfl (Nat.le_of_ble_eq_true rfl) (Nat.le_of_ble_eq_true rfl) (e_J_maxL ?_)
          show Wp _ _ _ _ _ _ _ 81 [(0, .ref 322), (1, .ref 1), (2, .int x2), (3, .int x3), (4, .int x4), (5, .int x5), (6, .long x6), (8, .int x8), (9, .long r3)] [.long (F_J_maxL I3 x6 r3)] (HS I3 L3 X)
          refine w_goto (Ev.cm _) rfl ?_
          refine w_lstore (ls2 := [(0, .ref 322), (1, .ref 1), (2, .int x2), (3, .int x3), (4, .int x4), (5, .int x5), (6, .long (F_J_maxL I3 x6 r3)), (8, .int x8), (9, .long r3)]) (Ev.cm _) rfl rfl ?_
          refine w_iinc (ls2 := [(0, .ref 322), (1, .ref 1), (2, .int x2), (3, .int x3), (4, .int x4), (5, .int x5), (6, .long (F_J_maxL I3 x6 r3)), (8, .int (x8 + 1)), (9, .long r3)]) (Ev.cm _) rfl rfl rfl ?_
          refine w_goto (Ev.cm _) rfl ?_
          show Wp _ _ _ _ _ _ _ 45 [(0, .ref 322), (1, .ref 1), (2, .int x2), (3, .int x3), (4, .int x4), (5, .int x5), (6, .long (F_J_maxL I3 x6 r3)), (8, .int (x8 + 1)), (9, .long r3)] [] (HS I3 L3 X)
          refine Wp.sub [0, 1, 2, 3, 4, 5, 6, 7] (ls2 := [(0, .ref 322), (1, .ref 1), (2, .int x2), (3, .int x3), (4, .int x4), (5, .int x5), (6, .long (F_J_maxL I3 x6 r3)), (8, .int (x8 + 1))]) rfl ?_
          exact ih _ _ _ _ _ _ _ _ q
def LO_O_weighFromBack_23 (fu : Nat) (k_15 : Int32 → Int32 → Int32 → (Nat → Nat → Int32) → (Nat → Nat → Int64) → Option (Unit × (Nat → Nat → Int32) × (Nat → Nat → Int64))) : Nat → Int32 → Int32 → Int32 → Int32 → (Nat → Nat → Int32) → (Nat → Nat → Int64) → Option (Unit × (Nat → Nat → Int32) × (Nat → Nat → Int64))
  | 0, _, _, _, _, _, _ => none
  | n + 1, x2, x3, x4, x5, I, L => if 3 ≤ x5 then (k_15 x2 x3 (x4 + (-1)) I L) else (if x4 = x3 then (LO_O_weighFromBack_45 fu k_15 (fun x2 x3 x4 x5 I L => LO_O_weighFromBack_23 fu k_15 n x2 x3 x4 x5 I L) fu x2 x3 x4 x5 1 0 I L) else (LO_O_weighFromBack_45 fu k_15 (fun x2 x3 x4 x5 I L => LO_O_weighFromBack_23 fu k_15 n x2 x3 x4 x5 I L) fu x2 x3 x4 x5 0 0 I L))
set_option maxHeartbeats 20000000 in
set_option maxRecDepth 20000 in
theorem lo_O_weighFromBack_23 {d fu n0 s0 : Nat} {X : Nat × (Nat → Int32)} {Q : PQ} {k_15 : Int32 → Int32 → Int32 → (Nat → Nat → Int32) → (Nat → Nat → Int64) → Option (Unit × (Nat → Nat → Int32) × (Nat → Nat → Int64))} {res : Unit × (Nat → Nat → Int32) × (Nat → Nat → Int64)}  (g : Q none (HS res.2.1 res.2.2 X)) (hk_15 : ∀ (x2 : Int32) (x3 : Int32) (x4 : Int32) (I : Nat → Nat → Int32) (L : Nat → Nat → Int64), k_15 x2 x3 x4 I L = some res → Wp (Ev (d + 4)) cd_O_weighFromBack (0, 0) none n0 s0 Q 15 [(0, .ref 322), (1, .ref 1), (2, .int x2), (3, .int x3), (4, .int x4)] [] (HS I L X)) : ∀ (n : Nat) (x2 : Int32) (x3 : Int32) (x4 : Int32) (x5 : Int32) (I : Nat → Nat → Int32) (L : Nat → Nat → Int64), LO_O_weighFromBack_23 fu k_15 n x2 x3 x4 x5 I L = some res → Wp (Ev (d + 4)) cd_O_weighFromBack (0, 0) none n0 s0 Q 23 [(0, .ref 322), (1, .ref 1), (2, .int x2), (3, .int x3), (4, .int x4), (5, .int x5)] [] (HS I L X) := by
  intro n
  induction n with
  | zero => intro _ _ _ _ _ _ q; cases q
  | succ n ih =>
    intro x2 x3 x4 x5 I L q
    unfold LO_O_weighFromBack_23 at q
    refine w_iload (Ev.cm _) rfl rfl ?_
    refine w_iconst (Ev.cm _) rfl ?_
    refine w_icmp_ge (Ev.cm _) rfl (fun c1 => ?_) (fun c1 => ?_)
    · have c1 : 3 ≤ x5 := c1
      rw [if_pos c1] at q
      refine w_iinc (ls2 := [(0, .ref 322), (1, .ref 1), (2, .int x2), (3, .int x3), (4, .int (x4 + (-1))), (5, .int x5)]) (Ev.cm _) rfl rfl rfl ?_
      refine w_goto (Ev.cm _) rfl ?_
      show Wp _ _ _ _ _ _ _ 15 [(0, .ref 322), (1, .ref 1), (2, .int x2), (3, .int x3), (4, .int (x4 + (-1))), (5, .int x5)] [] (HS I L X)
      refine Wp.sub [0, 1, 2, 3, 4] (ls2 := [(0, .ref 322), (1, .ref 1), (2, .int x2), (3, .int x3), (4, .int (x4 + (-1)))]) rfl ?_
      exact hk_15 _ _ _ _ _ q
    · have c1 : ¬ (3 ≤ x5) := c1
      rw [if_neg c1] at q
      refine w_iload (Ev.cm _) rfl rfl ?_
      refine w_iload_n (Ev.cm _) rfl rfl ?_
      refine w_icmp_ne (Ev.cm _) rfl (fun c2 => ?_) (fun c2 => ?_)
      · have c2 : ¬ (x4 = x3) := c2
        rw [if_neg c2] at q
        refine w_lconst (Ev.cm _) rfl ?_
        refine w_lstore (ls2 := [(0, .ref 322), (1, .ref 1), (2, .int x2), (3, .int x3), (4, .int x4), (5, .int x5), (6, .long 0)]) (Ev.cm _) rfl rfl ?_
        refine w_iconst (Ev.cm _) rfl ?_
        refine w_istore (ls2 := [(0, .ref 322), (1, .ref 1), (2, .int x2), (3, .int x3), (4, .int x4), (5, .int x5), (6, .long 0), (8, .int 0)]) (Ev.cm _) rfl rfl ?_
        show Wp _ _ _ _ _ _ _ 45 [(0, .ref 322), (1, .ref 1), (2, .int x2), (3, .int x3), (4, .int x4), (5, .int x5), (6, .long 0), (8, .int 0)] [] (HS I L X)
        refine Wp.sub [0, 1, 2, 3, 4, 5, 6, 7] (ls2 := [(0, .ref 322), (1, .ref 1), (2, .int x2), (3, .int x3), (4, .int x4), (5, .int x5), (6, .long 0), (8, .int 0)]) rfl ?_
        exact lo_O_weighFromBack_45 g hk_15 (fun x2 x3 x4 x5 I L q => ih x2 x3 x4 x5 I L q) fu _ _ _ _ _ _ _ _ q
      · have c2 : x4 = x3 := c2
        rw [if_pos c2] at q
        refine w_lconst (Ev.cm _) rfl ?_
        refine w_goto (Ev.cm _) rfl ?_
        refine w_lstore (ls2 := [(0, .ref 322), (1, .ref 1), (2, .int x2), (3, .int x3), (4, .int x4), (5, .int x5), (6, .long 1)]) (Ev.cm _) rfl rfl ?_
        refine w_iconst (Ev.cm _) rfl ?_
        refine w_istore (ls2 := [(0, .ref 322), (1, .ref 1), (2, .int x2), (3, .int x3), (4, .int x4), (5, .int x5), (6, .long 1), (8, .int 0)]) (Ev.cm _) rfl rfl ?_
        show Wp _ _ _ _ _ _ _ 45 [(0, .ref 322), (1, .ref 1), (2, .int x2), (3, .int x3), (4, .int x4), (5, .int x5), (6, .long 1), (8, .int 0)] [] (HS I L X)
        refine Wp.sub [0, 1, 2, 3, 4, 5, 6, 7] (ls2 := [(0, .ref 322), (1, .ref 1), (2, .int x2), (3, .int x3), (4, .int x4), (5, .int x5), (6, .long 1), (8, .int 0)]) rfl ?_
        exact lo_O_weighFromBack_45 g hk_15 (fun x2 x3 x4 x5 I L q => ih x2 x3 x4 x5 I L q) fu _ _ _ _ _ _ _ _ q
def LO_O_weighFromBack_15 (fu : Nat) : Nat → Int32 → Int32 → Int32 → (Nat → Nat → Int32) → (Nat → Nat → Int64) → Option (Unit × (Nat → Nat → Int32) × (Nat → Nat → Int64))
  | 0, _, _, _, _, _ => none
  | n + 1, x2, x3, x4, I, L => if x4 < 0 then (some ((), I, L)) else (LO_O_weighFromBack_23 fu (fun x2 x3 x4 I L => LO_O_weighFromBack_15 fu n x2 x3 x4 I L) fu x2 x3 x4 0 I L)
set_option maxHeartbeats 20000000 in
set_option maxRecDepth 20000 in
theorem lo_O_weighFromBack_15 {d fu n0 s0 : Nat} {X : Nat × (Nat → Int32)} {Q : PQ} {res : Unit × (Nat → Nat → Int32) × (Nat → Nat → Int64)}  (g : Q none (HS res.2.1 res.2.2 X)) : ∀ (n : Nat) (x2 : Int32) (x3 : Int32) (x4 : Int32) (I : Nat → Nat → Int32) (L : Nat → Nat → Int64), LO_O_weighFromBack_15 fu n x2 x3 x4 I L = some res → Wp (Ev (d + 4)) cd_O_weighFromBack (0, 0) none n0 s0 Q 15 [(0, .ref 322), (1, .ref 1), (2, .int x2), (3, .int x3), (4, .int x4)] [] (HS I L X) := by
  intro n
  induction n with
  | zero => intro _ _ _ _ _ q; cases q
  | succ n ih =>
    intro x2 x3 x4 I L q
    unfold LO_O_weighFromBack_15 at q
    refine w_iload (Ev.cm _) rfl rfl ?_
    refine w_if_lt (Ev.cm _) rfl (fun c1 => ?_) (fun c1 => ?_)
    · have c1 : x4 < 0 := c1
      rw [if_pos c1] at q
      refine w_return (Ev.cm _) rfl rfl rf0 ?_
      cases q
      exact g
    · have c1 : ¬ (x4 < 0) := c1
      rw [if_neg c1] at q
      refine w_iconst (Ev.cm _) rfl ?_
      refine w_istore (ls2 := [(0, .ref 322), (1, .ref 1), (2, .int x2), (3, .int x3), (4, .int x4), (5, .int 0)]) (Ev.cm _) rfl rfl ?_
      show Wp _ _ _ _ _ _ _ 23 [(0, .ref 322), (1, .ref 1), (2, .int x2), (3, .int x3), (4, .int x4), (5, .int 0)] [] (HS I L X)
      refine Wp.sub [0, 1, 2, 3, 4, 5] (ls2 := [(0, .ref 322), (1, .ref 1), (2, .int x2), (3, .int x3), (4, .int x4), (5, .int 0)]) rfl ?_
      exact lo_O_weighFromBack_23 g (fun x2 x3 x4 I L q => ih x2 x3 x4 I L q) fu _ _ _ _ _ _ q
def FO_O_weighFromBack (fu : Nat) (p1 : Int32) (I : Nat → Nat → Int32) (L : Nat → Nat → Int64) : Option (Unit × (Nat → Nat → Int32) × (Nat → Nat → Int64)) := LO_O_weighFromBack_15 fu fu p1 ((F_J_min I (I 1 11) 6) - 1) ((F_J_min I (I 1 11) 6) - 1) I L
set_option maxHeartbeats 20000000 in
set_option maxRecDepth 20000 in
theorem eo_O_weighFromBack {d fu : Nat} {p1 : Int32} {I : Nat → Nat → Int32} {L : Nat → Nat → Int64} {X : Nat × (Nat → Int32)} {Q : PQ} {res : Unit × (Nat → Nat → Int32) × (Nat → Nat → Int64)}  (g : Q none (HS res.2.1 res.2.2 X)) (q : FO_O_weighFromBack fu p1 I L = some res) : Ev (d + 5) m_O_weighFromBack [.ref 322, .ref 1, .int p1] (HS I L X) Q := by
  unfold FO_O_weighFromBack at q
  refine ev_start (d := d + 4) rfl rfl rfl (Nat.le_of_ble_eq_true rfl) ?_
  show Wp (Ev (d + 4)) cd_O_weighFromBack (0, 0) none _ _ Q 0 [(0, .ref 322), (1, .ref 1), (2, .int p1)] [] (HS I L X)
  refine w_aload_n (Ev.cm _) rfl rfl ?_
  refine w_getI (Ev.cm _) rfl (Nat.le_of_ble_eq_true rfl) rfl ?_
  refine w_bipush (Ev.cm _) rfl ?_
  refine w_cstat (as := [.int (I 1 11), .int 6]) (st := []) (Ev.cm _) rfl rfl rfl (Nat.le_of_ble_eq_true rfl) (Nat.le_of_ble_eq_true rfl) (e_J_min ?_)
  show Wp _ _ _ _ _ _ _ 9 [(0, .ref 322), (1, .ref 1), (2, .int p1)] [.int (F_J_min I (I 1 11) 6)] (HS I L X)
  refine w_iconst (Ev.cm _) rfl ?_
  refine w_isub (Ev.cm _) rfl ?_
  refine w_istore_n (ls2 := [(0, .ref 322), (1, .ref 1), (2, .int p1), (3, .int ((F_J_min I (I 1 11) 6) - 1))]) (Ev.cm _) rfl rfl ?_
  refine w_iload_n (Ev.cm _) rfl rfl ?_
  refine w_istore (ls2 := [(0, .ref 322), (1, .ref 1), (2, .int p1), (3, .int ((F_J_min I (I 1 11) 6) - 1)), (4, .int ((F_J_min I (I 1 11) 6) - 1))]) (Ev.cm _) rfl rfl ?_
  show Wp _ _ _ _ _ _ _ 15 [(0, .ref 322), (1, .ref 1), (2, .int p1), (3, .int ((F_J_min I (I 1 11) 6) - 1)), (4, .int ((F_J_min I (I 1 11) 6) - 1))] [] (HS I L X)
  refine Wp.sub [0, 1, 2, 3, 4] (ls2 := [(0, .ref 322), (1, .ref 1), (2, .int p1), (3, .int ((F_J_min I (I 1 11) 6) - 1)), (4, .int ((F_J_min I (I 1 11) 6) - 1))]) rfl ?_
  exact lo_O_weighFromBack_15 g fu _ _ _ _ _ q
def FO_R_readDeed (fu : Nat) (p0 : Int32) (I : Nat → Nat → Int32) (L : Nat → Nat → Int64) : Option (Int32 × (Nat → Nat → Int32) × (Nat → Nat → Int64)) := if p0 = 30 then ((FO_R_readSingle fu p0 60 I L).bind (fun u1 => let r1 := u1.1; let I1 := u1.2.1; let L1 := u1.2.2; if r1 = 0 ∨ r1 = 1 then (some (r1, I1, L1)) else none)) else (if p0 = 40 then ((FO_R_readPair fu p0 9 34 1 12 I L).bind (fun u3 => let r3 := u3.1; let I3 := u3.2.1; let L3 := u3.2.2; if r3 = 0 ∨ r3 = 1 then (some (r3, I3, L3)) else none)) else (if p0 = 41 then ((FO_R_readPair fu p0 3 55 0 5 I L).bind (fun u5 => let r5 := u5.1; let I5 := u5.2.1; let L5 := u5.2.2; if r5 = 0 ∨ r5 = 1 then (some (r5, I5, L5)) else none)) else (if p0 = 42 then ((FO_R_readPair fu p0 3 55 0 5 I L).bind (fun u7 => let r7 := u7.1; let I7 := u7.2.1; let L7 := u7.2.2; if r7 = 0 ∨ r7 = 1 then (some (r7, I7, L7)) else none)) else ((FO_R_readSingle fu p0 12 I L).bind (fun u9 => let r9 := u9.1; let I9 := u9.2.1; let L9 := u9.2.2; if r9 = 0 ∨ r9 = 1 then (some (r9, I9, L9)) else none)))))
set_option maxHeartbeats 20000000 in
set_option maxRecDepth 20000 in
theorem eo_R_readDeed {d fu : Nat} {p0 : Int32} {I : Nat → Nat → Int32} {L : Nat → Nat → Int64} {X : Nat × (Nat → Int32)} {Q : PQ} {res : Int32 × (Nat → Nat → Int32) × (Nat → Nat → Int64)}  (g : Q (some (.int res.1)) (HS res.2.1 res.2.2 X)) (q : FO_R_readDeed fu p0 I L = some res) : Ev (d + 5) m_R_readDeed [.ref 307, .int p0] (HS I L X) Q := by
  unfold FO_R_readDeed at q
  refine ev_start (d := d + 4) rfl rfl rfl (Nat.le_of_ble_eq_true rfl) ?_
  show Wp (Ev (d + 4)) cd_R_readDeed (0, 0) (some .boolean) _ _ Q 0 [(0, .ref 307), (1, .int p0)] [] (HS I L X)
  refine w_iload_n (Ev.cm _) rfl rfl ?_
  refine w_lsw (Ev.cm _) rfl ?_
  refine ⟨fun c1 => ?_, fun c1_0 => ⟨fun c1 => ?_, fun c1_1 => ⟨fun c1 => ?_, fun c1_2 => ⟨fun c1 => ?_, fun c1_3 => ?_⟩⟩⟩⟩
  · have c1 : p0 = 30 := sw_v c1 (by decide)
    rw [if_pos c1] at q
    show Wp _ _ _ _ _ _ _ 68 [(0, .ref 307), (1, .int p0)] [] (HS I L X)
    refine w_aload_n (Ev.cm _) rfl rfl ?_
    refine w_iload_n (Ev.cm _) rfl rfl ?_
    refine w_bipush (Ev.cm _) rfl ?_
    obtain ⟨⟨r1, I1, L1⟩, e1, q⟩ := obs q
    dsimp only at q
    refine w_cvirt (o := 307) (as := [.int p0, .int 60]) (st := []) (Ev.cm _) rfl rfl rfl (Nat.le_of_ble_eq_true rfl) (Nat.le_of_ble_eq_true rfl) rfl (Nat.le_of_ble_eq_true rfl) (eo_R_readSingle (g := ?_) e1)
    show Wp _ _ _ _ _ _ _ 75 [(0, .ref 307), (1, .int p0)] [.int r1] (HS I1 L1 X)
    obtain ⟨b2, q⟩ := ois q
    refine w_ireturn (Ev.cm _) rfl (show rok (some .boolean) _ from b2) rf0 ?_
    cases q
    exact g
  · have c1_0 : ¬ p0 = 30 := sw_w c1_0 (by decide)
    have c1 : p0 = 40 := sw_v c1 (by decide)
    rw [if_neg c1_0, if_pos c1] at q
    show Wp _ _ _ _ _ _ _ 44 [(0, .ref 307), (1, .int p0)] [] (HS I L X)
    refine w_aload_n (Ev.cm _) rfl rfl ?_
    refine w_iload_n (Ev.cm _) rfl rfl ?_
    refine w_bipush (Ev.cm _) rfl ?_
    refine w_bipush (Ev.cm _) rfl ?_
    refine w_iconst (Ev.cm _) rfl ?_
    refine w_bipush (Ev.cm _) rfl ?_
    obtain ⟨⟨r3, I3, L3⟩, e3, q⟩ := obs q
    dsimp only at q
    refine w_cvirt (o := 307) (as := [.int p0, .int 9, .int 34, .int 1, .int 12]) (st := []) (Ev.cm _) rfl rfl rfl (Nat.le_of_ble_eq_true rfl) (Nat.le_of_ble_eq_true rfl) rfl (Nat.le_of_ble_eq_true rfl) (eo_R_readPair (g := ?_) e3)
    show Wp _ _ _ _ _ _ _ 56 [(0, .ref 307), (1, .int p0)] [.int r3] (HS I3 L3 X)
    obtain ⟨b4, q⟩ := ois q
    refine w_ireturn (Ev.cm _) rfl (show rok (some .boolean) _ from b4) rf0 ?_
    cases q
    exact g
  · have c1_0 : ¬ p0 = 30 := sw_w c1_0 (by decide)
    have c1_1 : ¬ p0 = 40 := sw_w c1_1 (by decide)
    have c1 : p0 = 41 := sw_v c1 (by decide)
    rw [if_neg c1_0, if_neg c1_1, if_pos c1] at q
    show Wp _ _ _ _ _ _ _ 57 [(0, .ref 307), (1, .int p0)] [] (HS I L X)
    refine w_aload_n (Ev.cm _) rfl rfl ?_
    refine w_iload_n (Ev.cm _) rfl rfl ?_
    refine w_iconst (Ev.cm _) rfl ?_
    refine w_bipush (Ev.cm _) rfl ?_
    refine w_iconst (Ev.cm _) rfl ?_
    refine w_iconst (Ev.cm _) rfl ?_
    obtain ⟨⟨r5, I5, L5⟩, e5, q⟩ := obs q
    dsimp only at q
    refine w_cvirt (o := 307) (as := [.int p0, .int 3, .int 55, .int 0, .int 5]) (st := []) (Ev.cm _) rfl rfl rfl (Nat.le_of_ble_eq_true rfl) (Nat.le_of_ble_eq_true rfl) rfl (Nat.le_of_ble_eq_true rfl) (eo_R_readPair (g := ?_) e5)
    show Wp _ _ _ _ _ _ _ 67 [(0, .ref 307), (1, .int p0)] [.int r5] (HS I5 L5 X)
    obtain ⟨b6, q⟩ := ois q
    refine w_ireturn (Ev.cm _) rfl (show rok (some .boolean) _ from b6) rf0 ?_
    cases q
    exact g
  · have c1_0 : ¬ p0 = 30 := sw_w c1_0 (by decide)
    have c1_1 : ¬ p0 = 40 := sw_w c1_1 (by decide)
    have c1_2 : ¬ p0 = 41 := sw_w c1_2 (by decide)
    have c1 : p0 = 42 := sw_v c1 (by decide)
    rw [if_neg c1_0, if_neg c1_1, if_neg c1_2, if_pos c1] at q
    show Wp _ _ _ _ _ _ _ 57 [(0, .ref 307), (1, .int p0)] [] (HS I L X)
    refine w_aload_n (Ev.cm _) rfl rfl ?_
    refine w_iload_n (Ev.cm _) rfl rfl ?_
    refine w_iconst (Ev.cm _) rfl ?_
    refine w_bipush (Ev.cm _) rfl ?_
    refine w_iconst (Ev.cm _) rfl ?_
    refine w_iconst (Ev.cm _) rfl ?_
    obtain ⟨⟨r7, I7, L7⟩, e7, q⟩ := obs q
    dsimp only at q
    refine w_cvirt (o := 307) (as := [.int p0, .int 3, .int 55, .int 0, .int 5]) (st := []) (Ev.cm _) rfl rfl rfl (Nat.le_of_ble_eq_true rfl) (Nat.le_of_ble_eq_true rfl) rfl (Nat.le_of_ble_eq_true rfl) (eo_R_readPair (g := ?_) e7)
    show Wp _ _ _ _ _ _ _ 67 [(0, .ref 307), (1, .int p0)] [.int r7] (HS I7 L7 X)
    obtain ⟨b8, q⟩ := ois q
    refine w_ireturn (Ev.cm _) rfl (show rok (some .boolean) _ from b8) rf0 ?_
    cases q
    exact g
  · have c1_0 : ¬ p0 = 30 := sw_w c1_0 (by decide)
    have c1_1 : ¬ p0 = 40 := sw_w c1_1 (by decide)
    have c1_2 : ¬ p0 = 41 := sw_w c1_2 (by decide)
    have c1_3 : ¬ p0 = 42 := sw_w c1_3 (by decide)
    rw [if_neg c1_0, if_neg c1_1, if_neg c1_2, if_neg c1_3] at q
    show Wp _ _ _ _ _ _ _ 76 [(0, .ref 307), (1, .int p0)] [] (HS I L X)
    refine w_aload_n (Ev.cm _) rfl rfl ?_
    refine w_iload_n (Ev.cm _) rfl rfl ?_
    refine w_bipush (Ev.cm _) rfl ?_
    obtain ⟨⟨r9, I9, L9⟩, e9, q⟩ := obs q
    dsimp only at q
    refine w_cvirt (o := 307) (as := [.int p0, .int 12]) (st := []) (Ev.cm _) rfl rfl rfl (Nat.le_of_ble_eq_true rfl) (Nat.le_of_ble_eq_true rfl) rfl (Nat.le_of_ble_eq_true rfl) (eo_R_readSingle (g := ?_) e9)
    show Wp _ _ _ _ _ _ _ 83 [(0, .ref 307), (1, .int p0)] [.int r9] (HS I9 L9 X)
    obtain ⟨b10, q⟩ := ois q
    refine w_ireturn (Ev.cm _) rfl (show rok (some .boolean) _ from b10) rf0 ?_
    cases q
    exact g
def LO_R_product_8 (fu : Nat) (kO : Int32 → Int32 → (Nat → Nat → Int32) → (Nat → Nat → Int64) → Option (Int32 × (Nat → Nat → Int32) × (Nat → Nat → Int64))) (kA : Int32 → (Nat → Nat → Int32) → (Nat → Nat → Int64) → Option (Int32 × (Nat → Nat → Int32) × (Nat → Nat → Int64))) : Nat → Int32 → Int32 → Int32 → (Nat → Nat → Int32) → (Nat → Nat → Int64) → Option (Int32 × (Nat → Nat → Int32) × (Nat → Nat → Int64))
  | 0, _, _, _, _, _ => none
  | n + 1, x1, x2, x3, I, L => if 300 < x3 then (if x2 = 0 ∨ x2 = 1 then (some (x2, I, L)) else none) else (if x2 = 0 then (if x2 = 0 ∨ x2 = 1 then (some (x2, I, L)) else none) else (if I 307 9 = 16 then ((FO_R_comeTo fu ((I 307 8) + 1) I L).bind (fun u3 => let r3 := u3.1; let I3 := u3.2.1; let L3 := u3.2.2; (FO_R_one fu kO kA x1 I3 L3).bind (fun u4 => let r4 := u4.1; let I4 := u4.2.1; let L4 := u4.2.2; (FO_T_addCode fu (I 307 9) 0 I4 L4).bind (fun u5 => let r5 := u5.1; let I5 := u5.2.1; let L5 := u5.2.2; LO_R_product_8 fu kO kA n x1 r4 (x3 + 1) I5 L5)))) else (if I 307 9 = 17 then ((FO_R_comeTo fu ((I 307 8) + 1) I L).bind (fun u7 => let r7 := u7.1; let I7 := u7.2.1; let L7 := u7.2.2; (FO_R_one fu kO kA x1 I7 L7).bind (fun u8 => let r8 := u8.1; let I8 := u8.2.1; let L8 := u8.2.2; (FO_T_addCode fu (I 307 9) 0 I8 L8).bind (fun u9 => let r9 := u9.1; let I9 := u9.2.1; let L9 := u9.2.2; LO_R_product_8 fu kO kA n x1 r8 (x3 + 1) I9 L9)))) else (if x2 = 0 ∨ x2 = 1 then (some (x2, I, L)) else none))))
set_option maxHeartbeats 20000000 in
set_option maxRecDepth 20000 in
theorem lo_R_product_8 {d fu n0 s0 : Nat} {kO : Int32 → Int32 → (Nat → Nat → Int32) → (Nat → Nat → Int64) → Option (Int32 × (Nat → Nat → Int32) × (Nat → Nat → Int64))} {kA : Int32 → (Nat → Nat → Int32) → (Nat → Nat → Int64) → Option (Int32 × (Nat → Nat → Int32) × (Nat → Nat → Int64))} {X : Nat × (Nat → Int32)} {Q : PQ} {res : Int32 × (Nat → Nat → Int32) × (Nat → Nat → Int64)}  (hO : cbO (d + 4) kO) (hA : cbA (d + 4) kA) (g : Q (some (.int res.1)) (HS res.2.1 res.2.2 X)) : ∀ (n : Nat) (x1 : Int32) (x2 : Int32) (x3 : Int32) (I : Nat → Nat → Int32) (L : Nat → Nat → Int64), LO_R_product_8 fu kO kA n x1 x2 x3 I L = some res → Wp (Ev (d + 5)) cd_R_product (0, 0) (some .boolean) n0 s0 Q 8 [(0, .ref 307), (1, .int x1), (2, .int x2), (3, .int x3)] [] (HS I L X) := by
  intro n
  induction n with
  | zero => intro _ _ _ _ _ q; cases q
  | succ n ih =>
    intro x1 x2 x3 I L q
    unfold LO_R_product_8 at q
    refine w_iload_n (Ev.cm _) rfl rfl ?_
    refine w_sipush (Ev.cm _) rfl ?_
    refine w_icmp_gt (Ev.cm _) rfl (fun c1 => ?_) (fun c1 => ?_)
    · have c1 : 300 < x3 := c1
      rw [if_pos c1] at q
      refine w_iload_n (Ev.cm _) rfl rfl ?_
      obtain ⟨b1, q⟩ := ois q
      refine w_ireturn (Ev.cm _) rfl (show rok (some .boolean) _ from b1) rf0 ?_
      cases q
      exact g
    · have c1 : ¬ (300 < x3) := c1
      rw [if_neg c1] at q
      refine w_iload_n (Ev.cm _) rfl rfl ?_
      refine w_if_eq (Ev.cm _) rfl (fun c2 => ?_) (fun c2 => ?_)
      · have c2 : x2 = 0 := c2
        rw [if_pos c2] at q
        refine w_iload_n (Ev.cm _) rfl rfl ?_
        obtain ⟨b2, q⟩ := ois q
        refine w_ireturn (Ev.cm _) rfl (show rok (some .boolean) _ from b2) rf0 ?_
        cases q
        exact g
      · have c2 : ¬ (x2 = 0) := c2
        rw [if_neg c2] at q
        refine w_aload_n (Ev.cm _) rfl rfl ?_
        refine w_getI (Ev.cm _) rfl (Nat.le_of_ble_eq_true rfl) rfl ?_
        refine w_bipush (Ev.cm _) rfl ?_
        refine w_icmp_eq (Ev.cm _) rfl (fun c3 => ?_) (fun c3 => ?_)
        · have c3 : I 307 9 = 16 := c3
          rw [if_pos c3] at q
          refine w_aload_n (Ev.cm _) rfl rfl ?_
          refine w_getI (Ev.cm _) rfl (Nat.le_of_ble_eq_true rfl) rfl ?_
          refine w_istore (ls2 := [(0, .ref 307), (1, .int x1), (2, .int x2), (3, .int x3), (4, .int (I 307 9))]) (Ev.cm _) rfl rfl ?_
          refine w_aload_n (Ev.cm _) rfl rfl ?_
          refine w_aload_n (Ev.cm _) rfl rfl ?_
          refine w_getI (Ev.cm _) rfl (Nat.le_of_ble_eq_true rfl) rfl ?_
          refine w_iconst (Ev.cm _) rfl ?_
          refine w_iadd (Ev.cm _) rfl ?_
          obtain ⟨⟨r3, I3, L3⟩, e3, q⟩ := obs q
          dsimp only at q
          refine w_cvirt (o := 307) (as := [.int ((I 307 8) + 1)]) (st := []) (Ev.cm _) rfl rfl rfl (Nat.le_of_ble_eq_true rfl) (Nat.le_of_ble_eq_true rfl) rfl (Nat.le_of_ble_eq_true rfl) (eo_R_comeTo (g := ?_) e3)
          show Wp _ _ _ _ _ _ _ 53 [(0, .ref 307), (1, .int x1), (2, .int x2), (3, .int x3), (4, .int (I 307 9))] [] (HS I3 L3 X)
          refine w_aload_n (Ev.cm _) rfl rfl ?_
          refine w_iload_n (Ev.cm _) rfl rfl ?_
          obtain ⟨⟨r4, I4, L4⟩, e4, q⟩ := obs q
          dsimp only at q
          refine w_cvirt (o := 307) (as := [.int x1]) (st := []) (Ev.cm _) rfl rfl rfl (Nat.le_of_ble_eq_true rfl) (Nat.le_of_ble_eq_true rfl) rfl (Nat.le_of_ble_eq_true rfl) (ev_le (show d + 5 ≤ d + 5 by omega) (eo_R_one (d := d) hO hA (g := ?_) e4))
          show Wp _ _ _ _ _ _ _ 58 [(0, .ref 307), (1, .int x1), (2, .int x2), (3, .int x3), (4, .int (I 307 9))] [.int r4] (HS I4 L4 X)
          refine w_istore_n (ls2 := [(0, .ref 307), (1, .int x1), (2, .int r4), (3, .int x3), (4, .int (I 307 9))]) (Ev.cm _) rfl rfl ?_
          refine w_aload_n (Ev.cm _) rfl rfl ?_
          refine w_getR (q := 308) (Ev.cm _) rfl (Nat.le_of_ble_eq_true rfl) rfl rfl ?_
          refine w_iload (Ev.cm _) rfl rfl ?_
          refine w_iconst (Ev.cm _) rfl ?_
          obtain ⟨⟨r5, I5, L5⟩, e5, q⟩ := obs q
          dsimp only at q
          refine w_cvirt (o := 308) (as := [.int (I 307 9), .int 0]) (st := []) (Ev.cm _) rfl rfl rfl (Nat.le_of_ble_eq_true rfl) (Nat.le_of_ble_eq_true rfl) rfl (Nat.le_of_ble_eq_true rfl) (eo_T_addCode (g := ?_) e5)
          show Wp _ _ _ _ _ _ _ 69 [(0, .ref 307), (1, .int x1), (2, .int r4), (3, .int x3), (4, .int (I 307 9))] [.int r5] (HS I5 L5 X)
          refine w_pop (Ev.cm _) rfl rfl ?_
          refine w_iinc (ls2 := [(0, .ref 307), (1, .int x1), (2, .int r4), (3, .int (x3 + 1)), (4, .int (I 307 9))]) (Ev.cm _) rfl rfl rfl ?_
          refine w_goto (Ev.cm _) rfl ?_
          show Wp _ _ _ _ _ _ _ 8 [(0, .ref 307), (1, .int x1), (2, .int r4), (3, .int (x3 + 1)), (4, .int (I 307 9))] [] (HS I5 L5 X)
          refine Wp.sub [0, 1, 2, 3] (ls2 := [(0, .ref 307), (1, .int x1), (2, .int r4), (3, .int (x3 + 1))]) rfl ?_
          exact ih _ _ _ _ _ q
        · have c3 : ¬ (I 307 9 = 16) := c3
          rw [if_neg c3] at q
          refine w_aload_n (Ev.cm _) rfl rfl ?_
          refine w_getI (Ev.cm _) rfl (Nat.le_of_ble_eq_true rfl) rfl ?_
          refine w_bipush (Ev.cm _) rfl ?_
          refine w_icmp_ne (Ev.cm _) rfl (fun c4 => ?_) (fun c4 => ?_)
          · have c4 : ¬ (I 307 9 = 17) := c4
            rw [if_neg c4] at q
            refine w_iload_n (Ev.cm _) rfl rfl ?_
            obtain ⟨b6, q⟩ := ois q
            refine w_ireturn (Ev.cm _) rfl (show rok (some .boolean) _ from b6) rf0 ?_
            cases q
            exact g
          · have c4 : I 307 9 = 17 := c4
            rw [if_pos c4] at q
            refine w_aload_n (Ev.cm _) rfl rfl ?_
            refine w_getI (Ev.cm _) rfl (Nat.le_of_ble_eq_true rfl) rfl ?_
            refine w_istore (ls2 := [(0, .ref 307), (1, .int x1), (2, .int x2), (3, .int x3), (4, .int (I 307 9))]) (Ev.cm _) rfl rfl ?_
            refine w_aload_n (Ev.cm _) rfl rfl ?_
            refine w_aload_n (Ev.cm _) rfl rfl ?_
            refine w_getI (Ev.cm _) rfl (Nat.le_of_ble_eq_true rfl) rfl ?_
            refine w_iconst (Ev.cm _) rfl ?_
            refine w_iadd (Ev.cm _) rfl ?_
            obtain ⟨⟨r7, I7, L7⟩, e7, q⟩ := obs q
            dsimp only at q
            refine w_cvirt (o := 307) (as := [.int ((I 307 8) + 1)]) (st := []) (Ev.cm _) rfl rfl rfl (Nat.le_of_ble_eq_true rfl) (Nat.le_of_ble_eq_true rfl) rfl (Nat.le_of_ble_eq_true rfl) (eo_R_comeTo (g := ?_) e7)
            show Wp _ _ _ _ _ _ _ 53 [(0, .ref 307), (1, .int x1), (2, .int x2), (3, .int x3), (4, .int (I 307 9))] [] (HS I7 L7 X)
            refine w_aload_n (Ev.cm _) rfl rfl ?_
            refine w_iload_n (Ev.cm _) rfl rfl ?_
            obtain ⟨⟨r8, I8, L8⟩, e8, q⟩ := obs q
            dsimp only at q
            refine w_cvirt (o := 307) (as := [.int x1]) (st := []) (Ev.cm _) rfl rfl rfl (Nat.le_of_ble_eq_true rfl) (Nat.le_of_ble_eq_true rfl) rfl (Nat.le_of_ble_eq_true rfl) (ev_le (show d + 5 ≤ d + 5 by omega) (eo_R_one (d := d) hO hA (g := ?_) e8))
            show Wp _ _ _ _ _ _ _ 58 [(0, .ref 307), (1, .int x1), (2, .int x2), (3, .int x3), (4, .int (I 307 9))] [.int r8] (HS I8 L8 X)
            refine w_istore_n (ls2 := [(0, .ref 307), (1, .int x1), (2, .int r8), (3, .int x3), (4, .int (I 307 9))]) (Ev.cm _) rfl rfl ?_
            refine w_aload_n (Ev.cm _) rfl rfl ?_
            refine w_getR (q := 308) (Ev.cm _) rfl (Nat.le_of_ble_eq_true rfl) rfl rfl ?_
            refine w_iload (Ev.cm _) rfl rfl ?_
            refine w_iconst (Ev.cm _) rfl ?_
            obtain ⟨⟨r9, I9, L9⟩, e9, q⟩ := obs q
            dsimp only at q
            refine w_cvirt (o := 308) (as := [.int (I 307 9), .int 0]) (st := []) (Ev.cm _) rfl rfl rfl (Nat.le_of_ble_eq_true rfl) (Nat.le_of_ble_eq_true rfl) rfl (Nat.le_of_ble_eq_true rfl) (eo_T_addCode (g := ?_) e9)
            show Wp _ _ _ _ _ _ _ 69 [(0, .ref 307), (1, .int x1), (2, .int r8), (3, .int x3), (4, .int (I 307 9))] [.int r9] (HS I9 L9 X)
            refine w_pop (Ev.cm _) rfl rfl ?_
            refine w_iinc (ls2 := [(0, .ref 307), (1, .int x1), (2, .int r8), (3, .int (x3 + 1)), (4, .int (I 307 9))]) (Ev.cm _) rfl rfl rfl ?_
            refine w_goto (Ev.cm _) rfl ?_
            show Wp _ _ _ _ _ _ _ 8 [(0, .ref 307), (1, .int x1), (2, .int r8), (3, .int (x3 + 1)), (4, .int (I 307 9))] [] (HS I9 L9 X)
            refine Wp.sub [0, 1, 2, 3] (ls2 := [(0, .ref 307), (1, .int x1), (2, .int r8), (3, .int (x3 + 1))]) rfl ?_
            exact ih _ _ _ _ _ q
def FO_R_product (fu : Nat) (kO : Int32 → Int32 → (Nat → Nat → Int32) → (Nat → Nat → Int64) → Option (Int32 × (Nat → Nat → Int32) × (Nat → Nat → Int64))) (kA : Int32 → (Nat → Nat → Int32) → (Nat → Nat → Int64) → Option (Int32 × (Nat → Nat → Int32) × (Nat → Nat → Int64))) (p0 : Int32) (I : Nat → Nat → Int32) (L : Nat → Nat → Int64) : Option (Int32 × (Nat → Nat → Int32) × (Nat → Nat → Int64)) := (FO_R_one fu kO kA p0 I L).bind (fun u1 => let r1 := u1.1; let I1 := u1.2.1; let L1 := u1.2.2; LO_R_product_8 fu kO kA fu p0 r1 0 I1 L1)
set_option maxHeartbeats 20000000 in
set_option maxRecDepth 20000 in
theorem eo_R_product {d fu : Nat} {kO : Int32 → Int32 → (Nat → Nat → Int32) → (Nat → Nat → Int64) → Option (Int32 × (Nat → Nat → Int32) × (Nat → Nat → Int64))} {kA : Int32 → (Nat → Nat → Int32) → (Nat → Nat → Int64) → Option (Int32 × (Nat → Nat → Int32) × (Nat → Nat → Int64))} {p0 : Int32} {I : Nat → Nat → Int32} {L : Nat → Nat → Int64} {X : Nat × (Nat → Int32)} {Q : PQ} {res : Int32 × (Nat → Nat → Int32) × (Nat → Nat → Int64)}  (hO : cbO (d + 4) kO) (hA : cbA (d + 4) kA) (g : Q (some (.int res.1)) (HS res.2.1 res.2.2 X)) (q : FO_R_product fu kO kA p0 I L = some res) : Ev (d + 6) m_R_product [.ref 307, .int p0] (HS I L X) Q := by
  unfold FO_R_product at q
  refine ev_start (d := d + 5) rfl rfl rfl (Nat.le_of_ble_eq_true rfl) ?_
  show Wp (Ev (d + 5)) cd_R_product (0, 0) (some .boolean) _ _ Q 0 [(0, .ref 307), (1, .int p0)] [] (HS I L X)
  refine w_aload_n (Ev.cm _) rfl rfl ?_
  refine w_iload_n (Ev.cm _) rfl rfl ?_
  obtain ⟨⟨r1, I1, L1⟩, e1, q⟩ := obs q
  dsimp only at q
  refine w_cvirt (o := 307) (as := [.int p0]) (st := []) (Ev.cm _) rfl rfl rfl (Nat.le_of_ble_eq_true rfl) (Nat.le_of_ble_eq_true rfl) rfl (Nat.le_of_ble_eq_true rfl) (ev_le (show d + 5 ≤ d + 5 by omega) (eo_R_one (d := d) hO hA (g := ?_) e1))
  show Wp _ _ _ _ _ _ _ 5 [(0, .ref 307), (1, .int p0)] [.int r1] (HS I1 L1 X)
  refine w_istore_n (ls2 := [(0, .ref 307), (1, .int p0), (2, .int r1)]) (Ev.cm _) rfl rfl ?_
  refine w_iconst (Ev.cm _) rfl ?_
  refine w_istore_n (ls2 := [(0, .ref 307), (1, .int p0), (2, .int r1), (3, .int 0)]) (Ev.cm _) rfl rfl ?_
  show Wp _ _ _ _ _ _ _ 8 [(0, .ref 307), (1, .int p0), (2, .int r1), (3, .int 0)] [] (HS I1 L1 X)
  refine Wp.sub [0, 1, 2, 3] (ls2 := [(0, .ref 307), (1, .int p0), (2, .int r1), (3, .int 0)]) rfl ?_
  exact lo_R_product_8 hO hA g fu _ _ _ _ _ q
def FO_X_ticks (fu : Nat) (p0 : Int32) (p1 : Int32) (p2 : Int32) (I : Nat → Nat → Int32) (L : Nat → Nat → Int64) : Option (Int32 × (Nat → Nat → Int32) × (Nat → Nat → Int64)) := if F_X_isLodger I p0 = 0 then (some ((-1), I, L)) else (if 1 ≤ p1 ∧ p1 ≤ 12 then (if isLib I (I 1 7) then ((FO_X_ticksBy_o fu (274 + 8 * (I 1 7).toNatClampNeg) p0 p1 p2 I L).bind (fun u1 => let r1 := u1.1; let I1 := u1.2.1; let L1 := u1.2.2; some (r1, I1, L1))) else ((FO_X_ticksBy_n fu p0 p1 p2 I L).bind (fun u2 => let r2 := u2.1; let I2 := u2.2.1; let L2 := u2.2.2; some (r2, I2, L2)))) else (some ((-1), I, L)))
set_option maxHeartbeats 20000000 in
set_option maxRecDepth 20000 in
theorem eo_X_ticks {d fu : Nat} {p0 : Int32} {p1 : Int32} {p2 : Int32} {I : Nat → Nat → Int32} {L : Nat → Nat → Int64} {X : Nat × (Nat → Int32)} {Q : PQ} {res : Int32 × (Nat → Nat → Int32) × (Nat → Nat → Int64)}  (g : Q (some (.int res.1)) (HS res.2.1 res.2.2 X)) (q : FO_X_ticks fu p0 p1 p2 I L = some res) : Ev (d + 5) m_X_ticks [.ref 0, .int p0, .int p1, .int p2] (HS I L X) Q := by
  unfold FO_X_ticks at q
  refine ev_start (d := d + 4) rfl rfl rfl (Nat.le_of_ble_eq_true rfl) ?_
  show Wp (Ev (d + 4)) cd_X_ticks (0, 0) (some .int) _ _ Q 0 [(0, .ref 0), (1, .int p0), (2, .int p1), (3, .int p2)] [] (HS I L X)
  refine w_aload_n (Ev.cm _) rfl rfl ?_
  refine w_iload_n (Ev.cm _) rfl rfl ?_
  refine w_cvirt (o := 0) (as := [.int p0]) (st := []) (Ev.cm _) rfl rfl rfl (Nat.le_of_ble_eq_true rfl) (Nat.le_of_ble_eq_true rfl) rfl (Nat.le_of_ble_eq_true rfl) (e_X_isLodger ?_)
  show Wp _ _ _ _ _ _ _ 5 [(0, .ref 0), (1, .int p0), (2, .int p1), (3, .int p2)] [.int (F_X_isLodger I p0)] (HS I L X)
  refine w_if_eq (Ev.cm _) rfl (fun c1 => ?_) (fun c1 => ?_)
  · have c1 : F_X_isLodger I p0 = 0 := c1
    rw [if_pos c1] at q
    refine w_iconst (Ev.cm _) rfl ?_
    refine w_ireturn (Ev.cm _) rfl trivial rf0 ?_
    cases q
    exact g
  · have c1 : ¬ (F_X_isLodger I p0 = 0) := c1
    rw [if_neg c1] at q
    refine w_iload_n (Ev.cm _) rfl rfl ?_
    refine w_cstat (as := [.int p1]) (st := []) (Ev.cm _) rfl rfl rfl (Nat.le_of_ble_eq_true rfl) (Nat.le_of_ble_eq_true rfl) (x_isStair ?_)
    show Wp _ _ _ _ _ _ _ 12 [(0, .ref 0), (1, .int p0), (2, .int p1), (3, .int p2)] [.int (bI (1 ≤ p1 ∧ p1 ≤ 12))] (HS I L X)
    refine w_if_ne (Ev.cm _) rfl (fun c2 => ?_) (fun c2 => ?_)
    · have c2 : 1 ≤ p1 ∧ p1 ≤ 12 := bI_1.mp c2
      rw [if_pos c2] at q
      refine w_aload_n (Ev.cm _) rfl rfl ?_
      refine w_aload_n (Ev.cm _) rfl rfl ?_
      refine w_aload_n (Ev.cm _) rfl rfl ?_
      refine w_getR (q := 1) (Ev.cm _) rfl (Nat.le_of_ble_eq_true rfl) rfl rfl ?_
      refine w_getI (Ev.cm _) rfl (Nat.le_of_ble_eq_true rfl) rfl ?_
      rcases Decidable.em (isLib I (I 1 7)) with c3 | c3
      · rw [if_pos c3] at q
        refine w_cvirt (o := 0) (as := [.int (I 1 7)]) (st := [.ref 0]) (Ev.cm _) rfl rfl rfl (Nat.le_of_ble_eq_true rfl) (Nat.le_of_ble_eq_true rfl) rfl (Nat.le_of_ble_eq_true rfl) (x_textOf_t c3 ?_)
        show Wp _ _ _ _ _ _ _ 29 [(0, .ref 0), (1, .int p0), (2, .int p1), (3, .int p2)] [.ref (274 + 8 * (I 1 7).toNatClampNeg), .ref 0] (HS I L X)
        refine w_iload_n (Ev.cm _) rfl rfl ?_
        refine w_iload_n (Ev.cm _) rfl rfl ?_
        refine w_iload_n (Ev.cm _) rfl rfl ?_
        obtain ⟨⟨r1, I1, L1⟩, e1, q⟩ := obs q
        dsimp only at q
        refine w_cvirt (o := 0) (as := [.ref (274 + 8 * (I 1 7).toNatClampNeg), .int p0, .int p1, .int p2]) (st := []) (Ev.cm _) rfl rfl rfl (Nat.le_of_ble_eq_true rfl) (Nat.le_of_ble_eq_true rfl) rfl (Nat.le_of_ble_eq_true rfl) (eo_X_ticksBy_o (isT_lib c3) (g := ?_) e1)
        show Wp _ _ _ _ _ _ _ 35 [(0, .ref 0), (1, .int p0), (2, .int p1), (3, .int p2)] [.int r1] (HS I1 L1 X)
        refine w_ireturn (Ev.cm _) rfl trivial rf0 ?_
        cases q
        exact g
      · rw [if_neg c3] at q
        refine w_cvirt (o := 0) (as := [.int (I 1 7)]) (st := [.ref 0]) (Ev.cm _) rfl rfl rfl (Nat.le_of_ble_eq_true rfl) (Nat.le_of_ble_eq_true rfl) rfl (Nat.le_of_ble_eq_true rfl) (x_textOf_n c3 ?_)
        show Wp _ _ _ _ _ _ _ 29 [(0, .ref 0), (1, .int p0), (2, .int p1), (3, .int p2)] [.null, .ref 0] (HS I L X)
        refine w_iload_n (Ev.cm _) rfl rfl ?_
        refine w_iload_n (Ev.cm _) rfl rfl ?_
        refine w_iload_n (Ev.cm _) rfl rfl ?_
        obtain ⟨⟨r2, I2, L2⟩, e2, q⟩ := obs q
        dsimp only at q
        refine w_cvirt (o := 0) (as := [.null, .int p0, .int p1, .int p2]) (st := []) (Ev.cm _) rfl rfl rfl (Nat.le_of_ble_eq_true rfl) (Nat.le_of_ble_eq_true rfl) rfl (Nat.le_of_ble_eq_true rfl) (eo_X_ticksBy_n (g := ?_) e2)
        show Wp _ _ _ _ _ _ _ 35 [(0, .ref 0), (1, .int p0), (2, .int p1), (3, .int p2)] [.int r2] (HS I2 L2 X)
        refine w_ireturn (Ev.cm _) rfl trivial rf0 ?_
        cases q
        exact g
    · have c2 : ¬ (1 ≤ p1 ∧ p1 ≤ 12) := bI_0.mp c2
      rw [if_neg c2] at q
      refine w_iconst (Ev.cm _) rfl ?_
      refine w_ireturn (Ev.cm _) rfl trivial rf0 ?_
      cases q
      exact g
def FO_X_hears (fu : Nat) (p0 : Int32) (I : Nat → Nat → Int32) (L : Nat → Nat → Int64) : Option (Int32 × (Nat → Nat → Int32) × (Nat → Nat → Int64)) := if 1 ≤ p0 ∧ p0 ≤ 12 then ((FO_X_leastHeard fu p0 I L).bind (fun u1 => let r1 := u1.1; let I1 := u1.2.1; let L1 := u1.2.2; some (r1, I1, L1))) else (some ((-1), I, L))
set_option maxHeartbeats 20000000 in
set_option maxRecDepth 20000 in
theorem eo_X_hears {d fu : Nat} {p0 : Int32} {I : Nat → Nat → Int32} {L : Nat → Nat → Int64} {X : Nat × (Nat → Int32)} {Q : PQ} {res : Int32 × (Nat → Nat → Int32) × (Nat → Nat → Int64)}  (g : Q (some (.int res.1)) (HS res.2.1 res.2.2 X)) (q : FO_X_hears fu p0 I L = some res) : Ev (d + 5) m_X_hears [.ref 0, .int p0] (HS I L X) Q := by
  unfold FO_X_hears at q
  refine ev_start (d := d + 4) rfl rfl rfl (Nat.le_of_ble_eq_true rfl) ?_
  show Wp (Ev (d + 4)) cd_X_hears (0, 0) (some .int) _ _ Q 0 [(0, .ref 0), (1, .int p0)] [] (HS I L X)
  refine w_iload_n (Ev.cm _) rfl rfl ?_
  refine w_cstat (as := [.int p0]) (st := []) (Ev.cm _) rfl rfl rfl (Nat.le_of_ble_eq_true rfl) (Nat.le_of_ble_eq_true rfl) (x_isStair ?_)
  show Wp _ _ _ _ _ _ _ 4 [(0, .ref 0), (1, .int p0)] [.int (bI (1 ≤ p0 ∧ p0 ≤ 12))] (HS I L X)
  refine w_if_ne (Ev.cm _) rfl (fun c1 => ?_) (fun c1 => ?_)
  · have c1 : 1 ≤ p0 ∧ p0 ≤ 12 := bI_1.mp c1
    rw [if_pos c1] at q
    refine w_aload_n (Ev.cm _) rfl rfl ?_
    refine w_iload_n (Ev.cm _) rfl rfl ?_
    obtain ⟨⟨r1, I1, L1⟩, e1, q⟩ := obs q
    dsimp only at q
    refine w_cvirt (o := 0) (as := [.int p0]) (st := []) (Ev.cm _) rfl rfl rfl (Nat.le_of_ble_eq_true rfl) (Nat.le_of_ble_eq_true rfl) rfl (Nat.le_of_ble_eq_true rfl) (eo_X_leastHeard (g := ?_) e1)
    show Wp _ _ _ _ _ _ _ 14 [(0, .ref 0), (1, .int p0)] [.int r1] (HS I1 L1 X)
    refine w_ireturn (Ev.cm _) rfl trivial rf0 ?_
    cases q
    exact g
  · have c1 : ¬ (1 ≤ p0 ∧ p0 ≤ 12) := bI_0.mp c1
    rw [if_neg c1] at q
    refine w_iconst (Ev.cm _) rfl ?_
    refine w_ireturn (Ev.cm _) rfl trivial rf0 ?_
    cases q
    exact g
def LO_X_quiet_86 (fu : Nat) : Nat → Int32 → Int32 → Int32 → Int32 → Int32 → Int32 → Int32 → Int32 → Int32 → (Nat → Nat → Int32) → (Nat → Nat → Int64) → Option (Int32 × (Nat → Nat → Int32) × (Nat → Nat → Int64))
  | 0, _, _, _, _, _, _, _, _, _, _, _ => none
  | n + 1, x1, x2, x3, x4, x5, x6, x7, x8, x9, I, L => if x4 < x9 then (if x4 = (-1) then (some (x7, I, L)) else (some (x8, I, L))) else ((FO_X_nextQuiet fu x8 x5 x6 I L).bind (fun u1 => let r1 := u1.1; let I1 := u1.2.1; let L1 := u1.2.2; LO_X_quiet_86 fu n x1 x2 x3 x4 x5 x6 x7 r1 (x9 + 1) I1 L1))
set_option maxHeartbeats 20000000 in
set_option maxRecDepth 20000 in
theorem lo_X_quiet_86 {d fu n0 s0 : Nat} {X : Nat × (Nat → Int32)} {Q : PQ} {res : Int32 × (Nat → Nat → Int32) × (Nat → Nat → Int64)}  (g : Q (some (.int res.1)) (HS res.2.1 res.2.2 X)) : ∀ (n : Nat) (x1 : Int32) (x2 : Int32) (x3 : Int32) (x4 : Int32) (x5 : Int32) (x6 : Int32) (x7 : Int32) (x8 : Int32) (x9 : Int32) (I : Nat → Nat → Int32) (L : Nat → Nat → Int64), LO_X_quiet_86 fu n x1 x2 x3 x4 x5 x6 x7 x8 x9 I L = some res → Wp (Ev (d + 6)) cd_X_quiet (0, 0) (some .int) n0 s0 Q 86 [(0, .ref 0), (1, .int x1), (2, .int x2), (3, .int x3), (4, .int x4), (5, .int x5), (6, .int x6), (7, .int x7), (8, .int x8), (9, .int x9)] [] (HS I L X) := by
  intro n
  induction n with
  | zero => intro _ _ _ _ _ _ _ _ _ _ _ q; cases q
  | succ n ih =>
    intro x1 x2 x3 x4 x5 x6 x7 x8 x9 I L q
    unfold LO_X_quiet_86 at q
    refine w_iload (Ev.cm _) rfl rfl ?_
    refine w_iload (Ev.cm _) rfl rfl ?_
    refine w_icmp_gt (Ev.cm _) rfl (fun c1 => ?_) (fun c1 => ?_)
    · have c1 : x4 < x9 := c1
      rw [if_pos c1] at q
      refine w_iload (Ev.cm _) rfl rfl ?_
      refine w_iconst (Ev.cm _) rfl ?_
      refine w_icmp_ne (Ev.cm _) rfl (fun c2 => ?_) (fun c2 => ?_)
      · have c2 : ¬ (x4 = (-1)) := c2
        rw [if_neg c2] at q
        refine w_iload (Ev.cm _) rfl rfl ?_
        refine w_ireturn (Ev.cm _) rfl trivial rf0 ?_
        cases q
        exact g
      · have c2 : x4 = (-1) := c2
        rw [if_pos c2] at q
        refine w_iload (Ev.cm _) rfl rfl ?_
        refine w_goto (Ev.cm _) rfl ?_
        refine w_ireturn (Ev.cm _) rfl trivial rf0 ?_
        cases q
        exact g
    · have c1 : ¬ (x4 < x9) := c1
      rw [if_neg c1] at q
      refine w_aload_n (Ev.cm _) rfl rfl ?_
      refine w_iload (Ev.cm _) rfl rfl ?_
      refine w_iload (Ev.cm _) rfl rfl ?_
      refine w_iload (Ev.cm _) rfl rfl ?_
      obtain ⟨⟨r1, I1, L1⟩, e1, q⟩ := obs q
      dsimp only at q
      refine w_cvirt (o := 0) (as := [.int x8, .int x5, .int x6]) (st := []) (Ev.cm _) rfl rfl rfl (Nat.le_of_ble_eq_true rfl) (Nat.le_of_ble_eq_true rfl) rfl (Nat.le_of_ble_eq_true rfl) (eo_X_nextQuiet (g := ?_) e1)
      show Wp _ _ _ _ _ _ _ 103 [(0, .ref 0), (1, .int x1), (2, .int x2), (3, .int x3), (4, .int x4), (5, .int x5), (6, .int x6), (7, .int x7), (8, .int x8), (9, .int x9)] [.int r1] (HS I1 L1 X)
      refine w_istore (ls2 := [(0, .ref 0), (1, .int x1), (2, .int x2), (3, .int x3), (4, .int x4), (5, .int x5), (6, .int x6), (7, .int x7), (8, .int r1), (9, .int x9)]) (Ev.cm _) rfl rfl ?_
      refine w_iinc (ls2 := [(0, .ref 0), (1, .int x1), (2, .int x2), (3, .int x3), (4, .int x4), (5, .int x5), (6, .int x6), (7, .int x7), (8, .int r1), (9, .int (x9 + 1))]) (Ev.cm _) rfl rfl rfl ?_
      refine w_goto (Ev.cm _) rfl ?_
      show Wp _ _ _ _ _ _ _ 86 [(0, .ref 0), (1, .int x1), (2, .int x2), (3, .int x3), (4, .int x4), (5, .int x5), (6, .int x6), (7, .int x7), (8, .int r1), (9, .int (x9 + 1))] [] (HS I1 L1 X)
      refine Wp.sub [0, 1, 2, 3, 4, 5, 6, 7, 8, 9] (ls2 := [(0, .ref 0), (1, .int x1), (2, .int x2), (3, .int x3), (4, .int x4), (5, .int x5), (6, .int x6), (7, .int x7), (8, .int r1), (9, .int (x9 + 1))]) rfl ?_
      exact ih _ _ _ _ _ _ _ _ _ _ _ q
def FO_X_quiet (fu : Nat) (p0 : Int32) (p1 : Int32) (p2 : Int32) (p3 : Int32) (I : Nat → Nat → Int32) (L : Nat → Nat → Int64) : Option (Int32 × (Nat → Nat → Int32) × (Nat → Nat → Int64)) := if F_X_isLodger I p0 = 0 then (some ((-2), I, L)) else (if 0 ≤ p1 ∧ p1 ≤ 12 then (if 0 ≤ p2 ∧ p2 ≤ 12 then (if (-1) ≤ p3 then ((FO_X_heardStairs fu p0 1 I L).bind (fun u1 => let r1 := u1.1; let I1 := u1.2.1; let L1 := u1.2.2; (FO_X_heardStairs fu p0 0 I1 L1).bind (fun u2 => let r2 := u2.1; let I2 := u2.2.1; let L2 := u2.2.2; (FO_X_countTreadsTo fu p2 r1 r2 I2 L2).bind (fun u3 => let r3 := u3.1; let I3 := u3.2.1; let L3 := u3.2.2; if 0 ≤ p1 ∧ p1 < 13 then (if I3 328 p1.toNatClampNeg = (-1) then (some ((-2), I3, L3)) else (if p3 < I3 328 p1.toNatClampNeg then (LO_X_quiet_86 fu fu p0 p1 p2 p3 r1 r2 (I3 328 p1.toNatClampNeg) p1 0 I3 L3) else (some ((-2), I3, L3)))) else none)))) else (some ((-2), I, L))) else (some ((-2), I, L))) else (some ((-2), I, L)))
set_option maxHeartbeats 20000000 in
set_option maxRecDepth 20000 in
theorem eo_X_quiet {d fu : Nat} {p0 : Int32} {p1 : Int32} {p2 : Int32} {p3 : Int32} {I : Nat → Nat → Int32} {L : Nat → Nat → Int64} {X : Nat × (Nat → Int32)} {Q : PQ} {res : Int32 × (Nat → Nat → Int32) × (Nat → Nat → Int64)}  (g : Q (some (.int res.1)) (HS res.2.1 res.2.2 X)) (q : FO_X_quiet fu p0 p1 p2 p3 I L = some res) : Ev (d + 7) m_X_quiet [.ref 0, .int p0, .int p1, .int p2, .int p3] (HS I L X) Q := by
  unfold FO_X_quiet at q
  refine ev_start (d := d + 6) rfl rfl rfl (Nat.le_of_ble_eq_true rfl) ?_
  show Wp (Ev (d + 6)) cd_X_quiet (0, 0) (some .int) _ _ Q 0 [(0, .ref 0), (1, .int p0), (2, .int p1), (3, .int p2), (4, .int p3)] [] (HS I L X)
  refine w_aload_n (Ev.cm _) rfl rfl ?_
  refine w_iload_n (Ev.cm _) rfl rfl ?_
  refine w_cvirt (o := 0) (as := [.int p0]) (st := []) (Ev.cm _) rfl rfl rfl (Nat.le_of_ble_eq_true rfl) (Nat.le_of_ble_eq_true rfl) rfl (Nat.le_of_ble_eq_true rfl) (e_X_isLodger ?_)
  show Wp _ _ _ _ _ _ _ 5 [(0, .ref 0), (1, .int p0), (2, .int p1), (3, .int p2), (4, .int p3)] [.int (F_X_isLodger I p0)] (HS I L X)
  refine w_if_eq (Ev.cm _) rfl (fun c1 => ?_) (fun c1 => ?_)
  · have c1 : F_X_isLodger I p0 = 0 := c1
    rw [if_pos c1] at q
    refine w_bipush (Ev.cm _) rfl ?_
    refine w_ireturn (Ev.cm _) rfl trivial rf0 ?_
    cases q
    exact g
  · have c1 : ¬ (F_X_isLodger I p0 = 0) := c1
    rw [if_neg c1] at q
    refine w_iload_n (Ev.cm _) rfl rfl ?_
    refine w_cstat (as := [.int p1]) (st := []) (Ev.cm _) rfl rfl rfl (Nat.le_of_ble_eq_true rfl) (Nat.le_of_ble_eq_true rfl) (x_isPlace ?_)
    show Wp _ _ _ _ _ _ _ 12 [(0, .ref 0), (1, .int p0), (2, .int p1), (3, .int p2), (4, .int p3)] [.int (bI (0 ≤ p1 ∧ p1 ≤ 12))] (HS I L X)
    refine w_if_eq (Ev.cm _) rfl (fun c2 => ?_) (fun c2 => ?_)
    · have c2 : ¬ (0 ≤ p1 ∧ p1 ≤ 12) := bI_0.mp c2
      rw [if_neg c2] at q
      refine w_bipush (Ev.cm _) rfl ?_
      refine w_ireturn (Ev.cm _) rfl trivial rf0 ?_
      cases q
      exact g
    · have c2 : 0 ≤ p1 ∧ p1 ≤ 12 := bI_1.mp c2
      rw [if_pos c2] at q
      refine w_iload_n (Ev.cm _) rfl rfl ?_
      refine w_cstat (as := [.int p2]) (st := []) (Ev.cm _) rfl rfl rfl (Nat.le_of_ble_eq_true rfl) (Nat.le_of_ble_eq_true rfl) (x_isPlace ?_)
      show Wp _ _ _ _ _ _ _ 19 [(0, .ref 0), (1, .int p0), (2, .int p1), (3, .int p2), (4, .int p3)] [.int (bI (0 ≤ p2 ∧ p2 ≤ 12))] (HS I L X)
      refine w_if_eq (Ev.cm _) rfl (fun c3 => ?_) (fun c3 => ?_)
      · have c3 : ¬ (0 ≤ p2 ∧ p2 ≤ 12) := bI_0.mp c3
        rw [if_neg c3] at q
        refine w_bipush (Ev.cm _) rfl ?_
        refine w_ireturn (Ev.cm _) rfl trivial rf0 ?_
        cases q
        exact g
      · have c3 : 0 ≤ p2 ∧ p2 ≤ 12 := bI_1.mp c3
        rw [if_pos c3] at q
        refine w_iload (Ev.cm _) rfl rfl ?_
        refine w_iconst (Ev.cm _) rfl ?_
        refine w_icmp_ge (Ev.cm _) rfl (fun c4 => ?_) (fun c4 => ?_)
        · have c4 : (-1) ≤ p3 := c4
          rw [if_pos c4] at q
          refine w_aload_n (Ev.cm _) rfl rfl ?_
          refine w_iload_n (Ev.cm _) rfl rfl ?_
          refine w_iconst (Ev.cm _) rfl ?_
          obtain ⟨⟨r1, I1, L1⟩, e1, q⟩ := obs q
          dsimp only at q
          refine w_cvirt (o := 0) (as := [.int p0, .int 1]) (st := []) (Ev.cm _) rfl rfl rfl (Nat.le_of_ble_eq_true rfl) (Nat.le_of_ble_eq_true rfl) rfl (Nat.le_of_ble_eq_true rfl) (eo_X_heardStairs (g := ?_) e1)
          show Wp _ _ _ _ _ _ _ 37 [(0, .ref 0), (1, .int p0), (2, .int p1), (3, .int p2), (4, .int p3)] [.int r1] (HS I1 L1 X)
          refine w_istore (ls2 := [(0, .ref 0), (1, .int p0), (2, .int p1), (3, .int p2), (4, .int p3), (5, .int r1)]) (Ev.cm _) rfl rfl ?_
          refine w_aload_n (Ev.cm _) rfl rfl ?_
          refine w_iload_n (Ev.cm _) rfl rfl ?_
          refine w_iconst (Ev.cm _) rfl ?_
          obtain ⟨⟨r2, I2, L2⟩, e2, q⟩ := obs q
          dsimp only at q
          refine w_cvirt (o := 0) (as := [.int p0, .int 0]) (st := []) (Ev.cm _) rfl rfl rfl (Nat.le_of_ble_eq_true rfl) (Nat.le_of_ble_eq_true rfl) rfl (Nat.le_of_ble_eq_true rfl) (eo_X_heardStairs (g := ?_) e2)
          show Wp _ _ _ _ _ _ _ 45 [(0, .ref 0), (1, .int p0), (2, .int p1), (3, .int p2), (4, .int p3), (5, .int r1)] [.int r2] (HS I2 L2 X)
          refine w_istore (ls2 := [(0, .ref 0), (1, .int p0), (2, .int p1), (3, .int p2), (4, .int p3), (5, .int r1), (6, .int r2)]) (Ev.cm _) rfl rfl ?_
          refine w_aload_n (Ev.cm _) rfl rfl ?_
          refine w_iload_n (Ev.cm _) rfl rfl ?_
          refine w_iload (Ev.cm _) rfl rfl ?_
          refine w_iload (Ev.cm _) rfl rfl ?_
          obtain ⟨⟨r3, I3, L3⟩, e3, q⟩ := obs q
          dsimp only at q
          refine w_cvirt (o := 0) (as := [.int p2, .int r1, .int r2]) (st := []) (Ev.cm _) rfl rfl rfl (Nat.le_of_ble_eq_true rfl) (Nat.le_of_ble_eq_true rfl) rfl (Nat.le_of_ble_eq_true rfl) (eo_X_countTreadsTo (g := ?_) e3)
          show Wp _ _ _ _ _ _ _ 56 [(0, .ref 0), (1, .int p0), (2, .int p1), (3, .int p2), (4, .int p3), (5, .int r1), (6, .int r2)] [] (HS I3 L3 X)
          refine w_aload_n (Ev.cm _) rfl rfl ?_
          refine w_getR (q := 328) (Ev.cm _) rfl (Nat.le_of_ble_eq_true rfl) rfl rfl ?_
          refine w_iload_n (Ev.cm _) rfl rfl ?_
          obtain ⟨b4, q⟩ := ois q
          refine w_iald (Ev.cm _) rfl (Nat.le_of_ble_eq_true rfl) rfl (show vp_in p1 13 from vpI 13 (by decide) b4.1 b4.2) ?_
          refine w_istore (ls2 := [(0, .ref 0), (1, .int p0), (2, .int p1), (3, .int p2), (4, .int p3), (5, .int r1), (6, .int r2), (7, .int (I3 328 p1.toNatClampNeg))]) (Ev.cm _) rfl rfl ?_
          refine w_iload (Ev.cm _) rfl rfl ?_
          refine w_iconst (Ev.cm _) rfl ?_
          refine w_icmp_eq (Ev.cm _) rfl (fun c5 => ?_) (fun c5 => ?_)
          · have c5 : I3 328 p1.toNatClampNeg = (-1) := c5
            rw [if_pos c5] at q
            refine w_bipush (Ev.cm _) rfl ?_
            refine w_ireturn (Ev.cm _) rfl trivial rf0 ?_
            cases q
            exact g
          · have c5 : ¬ (I3 328 p1.toNatClampNeg = (-1)) := c5
            rw [if_neg c5] at q
            refine w_iload (Ev.cm _) rfl rfl ?_
            refine w_iload (Ev.cm _) rfl rfl ?_
            refine w_icmp_lt (Ev.cm _) rfl (fun c6 => ?_) (fun c6 => ?_)
            · have c6 : p3 < I3 328 p1.toNatClampNeg := c6
              rw [if_pos c6] at q
              refine w_iload_n (Ev.cm _) rfl rfl ?_
              refine w_istore (ls2 := [(0, .ref 0), (1, .int p0), (2, .int p1), (3, .int p2), (4, .int p3), (5, .int r1), (6, .int r2), (7, .int (I3 328 p1.toNatClampNeg)), (8, .int p1)]) (Ev.cm _) rfl rfl ?_
              refine w_iconst (Ev.cm _) rfl ?_
              refine w_istore (ls2 := [(0, .ref 0), (1, .int p0), (2, .int p1), (3, .int p2), (4, .int p3), (5, .int r1), (6, .int r2), (7, .int (I3 328 p1.toNatClampNeg)), (8, .int p1), (9, .int 0)]) (Ev.cm _) rfl rfl ?_
              show Wp _ _ _ _ _ _ _ 86 [(0, .ref 0), (1, .int p0), (2, .int p1), (3, .int p2), (4, .int p3), (5, .int r1), (6, .int r2), (7, .int (I3 328 p1.toNatClampNeg)), (8, .int p1), (9, .int 0)] [] (HS I3 L3 X)
              refine Wp.sub [0, 1, 2, 3, 4, 5, 6, 7, 8, 9] (ls2 := [(0, .ref 0), (1, .int p0), (2, .int p1), (3, .int p2), (4, .int p3), (5, .int r1), (6, .int r2), (7, .int (I3 328 p1.toNatClampNeg)), (8, .int p1), (9, .int 0)]) rfl ?_
              exact lo_X_quiet_86 g fu _ _ _ _ _ _ _ _ _ _ _ q
            · have c6 : ¬ (p3 < I3 328 p1.toNatClampNeg) := c6
              rw [if_neg c6] at q
              refine w_bipush (Ev.cm _) rfl ?_
              refine w_ireturn (Ev.cm _) rfl trivial rf0 ?_
              cases q
              exact g
        · have c4 : ¬ ((-1) ≤ p3) := c4
          rw [if_neg c4] at q
          refine w_bipush (Ev.cm _) rfl ?_
          refine w_ireturn (Ev.cm _) rfl trivial rf0 ?_
          cases q
          exact g
def FO_X_ways (fu : Nat) (p0 : Int32) (p1 : Int32) (I : Nat → Nat → Int32) (L : Nat → Nat → Int64) : Option (Int64 × (Nat → Nat → Int32) × (Nat → Nat → Int64)) := (FO_X_isWayUp fu p0 p1 I L).bind (fun u1 => let r1 := u1.1; let I1 := u1.2.1; let L1 := u1.2.2; if r1 = 0 then (some ((-1), I1, L1)) else ((FO_X_countWays fu p0 p1 0 I1 L1).bind (fun u2 => let r2 := u2.1; let I2 := u2.2.1; let L2 := u2.2.2; some (r2, I2, L2))))
set_option maxHeartbeats 20000000 in
set_option maxRecDepth 20000 in
theorem eo_X_ways {d fu : Nat} {p0 : Int32} {p1 : Int32} {I : Nat → Nat → Int32} {L : Nat → Nat → Int64} {X : Nat × (Nat → Int32)} {Q : PQ} {res : Int64 × (Nat → Nat → Int32) × (Nat → Nat → Int64)}  (g : Q (some (.long res.1)) (HS res.2.1 res.2.2 X)) (q : FO_X_ways fu p0 p1 I L = some res) : Ev (d + 4) m_X_ways [.ref 0, .int p0, .int p1] (HS I L X) Q := by
  unfold FO_X_ways at q
  refine ev_start (d := d + 3) rfl rfl rfl (Nat.le_of_ble_eq_true rfl) ?_
  show Wp (Ev (d + 3)) cd_X_ways (0, 0) (some .long) _ _ Q 0 [(0, .ref 0), (1, .int p0), (2, .int p1)] [] (HS I L X)
  refine w_iload_n (Ev.cm _) rfl rfl ?_
  refine w_iload_n (Ev.cm _) rfl rfl ?_
  obtain ⟨⟨r1, I1, L1⟩, e1, q⟩ := obs q
  dsimp only at q
  refine w_cstat (as := [.int p0, .int p1]) (st := []) (Ev.cm _) rfl rfl rfl (Nat.le_of_ble_eq_true rfl) (Nat.le_of_ble_eq_true rfl) (eo_X_isWayUp (g := ?_) e1)
  show Wp _ _ _ _ _ _ _ 5 [(0, .ref 0), (1, .int p0), (2, .int p1)] [.int r1] (HS I1 L1 X)
  refine w_if_ne (Ev.cm _) rfl (fun c1 => ?_) (fun c1 => ?_)
  · have c1 : ¬ (r1 = 0) := c1
    rw [if_neg c1] at q
    refine w_aload_n (Ev.cm _) rfl rfl ?_
    refine w_iload_n (Ev.cm _) rfl rfl ?_
    refine w_iload_n (Ev.cm _) rfl rfl ?_
    refine w_iconst (Ev.cm _) rfl ?_
    obtain ⟨⟨r2, I2, L2⟩, e2, q⟩ := obs q
    dsimp only at q
    refine w_cvirt (o := 0) (as := [.int p0, .int p1, .int 0]) (st := []) (Ev.cm _) rfl rfl rfl (Nat.le_of_ble_eq_true rfl) (Nat.le_of_ble_eq_true rfl) rfl (Nat.le_of_ble_eq_true rfl) (eo_X_countWays (g := ?_) e2)
    show Wp _ _ _ _ _ _ _ 19 [(0, .ref 0), (1, .int p0), (2, .int p1)] [.long r2] (HS I2 L2 X)
    refine w_lreturn (Ev.cm _) rfl rfl rf0 ?_
    cases q
    exact g
  · have c1 : r1 = 0 := c1
    rw [if_pos c1] at q
    refine w_ldc2_w (Ev.cm _) rfl ?_
    refine w_lreturn (Ev.cm _) rfl rfl rf0 ?_
    cases q
    exact g
def FO_X_unheard (fu : Nat) (p0 : Int32) (p1 : Int32) (p2 : Int32) (I : Nat → Nat → Int32) (L : Nat → Nat → Int64) : Option (Int64 × (Nat → Nat → Int32) × (Nat → Nat → Int64)) := if F_X_isLodger I p0 = 0 then (some ((-1), I, L)) else ((FO_X_isWayUp fu p1 p2 I L).bind (fun u1 => let r1 := u1.1; let I1 := u1.2.1; let L1 := u1.2.2; if r1 = 0 then (some ((-1), I1, L1)) else ((FO_X_heardStairs fu p0 1 I1 L1).bind (fun u2 => let r2 := u2.1; let I2 := u2.2.1; let L2 := u2.2.2; (FO_X_countWays fu p1 p2 r2 I2 L2).bind (fun u3 => let r3 := u3.1; let I3 := u3.2.1; let L3 := u3.2.2; some (r3, I3, L3))))))
set_option maxHeartbeats 20000000 in
set_option maxRecDepth 20000 in
theorem eo_X_unheard {d fu : Nat} {p0 : Int32} {p1 : Int32} {p2 : Int32} {I : Nat → Nat → Int32} {L : Nat → Nat → Int64} {X : Nat × (Nat → Int32)} {Q : PQ} {res : Int64 × (Nat → Nat → Int32) × (Nat → Nat → Int64)}  (g : Q (some (.long res.1)) (HS res.2.1 res.2.2 X)) (q : FO_X_unheard fu p0 p1 p2 I L = some res) : Ev (d + 7) m_X_unheard [.ref 0, .int p0, .int p1, .int p2] (HS I L X) Q := by
  unfold FO_X_unheard at q
  refine ev_start (d := d + 6) rfl rfl rfl (Nat.le_of_ble_eq_true rfl) ?_
  show Wp (Ev (d + 6)) cd_X_unheard (0, 0) (some .long) _ _ Q 0 [(0, .ref 0), (1, .int p0), (2, .int p1), (3, .int p2)] [] (HS I L X)
  refine w_aload_n (Ev.cm _) rfl rfl ?_
  refine w_iload_n (Ev.cm _) rfl rfl ?_
  refine w_cvirt (o := 0) (as := [.int p0]) (st := []) (Ev.cm _) rfl rfl rfl (Nat.le_of_ble_eq_true rfl) (Nat.le_of_ble_eq_true rfl) rfl (Nat.le_of_ble_eq_true rfl) (e_X_isLodger ?_)
  show Wp _ _ _ _ _ _ _ 5 [(0, .ref 0), (1, .int p0), (2, .int p1), (3, .int p2)] [.int (F_X_isLodger I p0)] (HS I L X)
  refine w_if_eq (Ev.cm _) rfl (fun c1 => ?_) (fun c1 => ?_)
  · have c1 : F_X_isLodger I p0 = 0 := c1
    rw [if_pos c1] at q
    refine w_ldc2_w (Ev.cm _) rfl ?_
    refine w_lreturn (Ev.cm _) rfl rfl rf0 ?_
    cases q
    exact g
  · have c1 : ¬ (F_X_isLodger I p0 = 0) := c1
    rw [if_neg c1] at q
    refine w_iload_n (Ev.cm _) rfl rfl ?_
    refine w_iload_n (Ev.cm _) rfl rfl ?_
    obtain ⟨⟨r1, I1, L1⟩, e1, q⟩ := obs q
    dsimp only at q
    refine w_cstat (as := [.int p1, .int p2]) (st := []) (Ev.cm _) rfl rfl rfl (Nat.le_of_ble_eq_true rfl) (Nat.le_of_ble_eq_true rfl) (eo_X_isWayUp (g := ?_) e1)
    show Wp _ _ _ _ _ _ _ 13 [(0, .ref 0), (1, .int p0), (2, .int p1), (3, .int p2)] [.int r1] (HS I1 L1 X)
    refine w_if_ne (Ev.cm _) rfl (fun c2 => ?_) (fun c2 => ?_)
    · have c2 : ¬ (r1 = 0) := c2
      rw [if_neg c2] at q
      refine w_aload_n (Ev.cm _) rfl rfl ?_
      refine w_iload_n (Ev.cm _) rfl rfl ?_
      refine w_iload_n (Ev.cm _) rfl rfl ?_
      refine w_aload_n (Ev.cm _) rfl rfl ?_
      refine w_iload_n (Ev.cm _) rfl rfl ?_
      refine w_iconst (Ev.cm _) rfl ?_
      obtain ⟨⟨r2, I2, L2⟩, e2, q⟩ := obs q
      dsimp only at q
      refine w_cvirt (o := 0) (as := [.int p0, .int 1]) (st := [.int p2, .int p1, .ref 0]) (Ev.cm _) rfl rfl rfl (Nat.le_of_ble_eq_true rfl) (Nat.le_of_ble_eq_true rfl) rfl (Nat.le_of_ble_eq_true rfl) (eo_X_heardStairs (g := ?_) e2)
      show Wp _ _ _ _ _ _ _ 29 [(0, .ref 0), (1, .int p0), (2, .int p1), (3, .int p2)] [.int r2, .int p2, .int p1, .ref 0] (HS I2 L2 X)
      obtain ⟨⟨r3, I3, L3⟩, e3, q⟩ := obs q
      dsimp only at q
      refine w_cvirt (o := 0) (as := [.int p1, .int p2, .int r2]) (st := []) (Ev.cm _) rfl rfl rfl (Nat.le_of_ble_eq_true rfl) (Nat.le_of_ble_eq_true rfl) rfl (Nat.le_of_ble_eq_true rfl) (eo_X_countWays (g := ?_) e3)
      show Wp _ _ _ _ _ _ _ 32 [(0, .ref 0), (1, .int p0), (2, .int p1), (3, .int p2)] [.long r3] (HS I3 L3 X)
      refine w_lreturn (Ev.cm _) rfl rfl rf0 ?_
      cases q
      exact g
    · have c2 : r1 = 0 := c2
      rw [if_pos c2] at q
      refine w_ldc2_w (Ev.cm _) rfl ?_
      refine w_lreturn (Ev.cm _) rfl rfl rf0 ?_
      cases q
      exact g
def LO_X_loudest_17 (fu : Nat) : Nat → Int32 → Int32 → Int32 → Int32 → (Nat → Nat → Int32) → (Nat → Nat → Int64) → Option (Int32 × (Nat → Nat → Int32) × (Nat → Nat → Int64))
  | 0, _, _, _, _, _, _ => none
  | n + 1, x1, x2, x3, x4, I, L => if 12 < x4 then (some (x3, I, L)) else ((FO_X_loudness fu x1 x4 1 I L).bind (fun u1 => let r1 := u1.1; let I1 := u1.2.1; let L1 := u1.2.2; (FO_X_loudness fu x1 x4 0 I1 L1).bind (fun u2 => let r2 := u2.1; let I2 := u2.2.1; let L2 := u2.2.2; if F_J_max I2 r1 r2 ≤ x2 then (LO_X_loudest_17 fu n x1 x2 x3 (x4 + 1) I2 L2) else (LO_X_loudest_17 fu n x1 (F_J_max I2 r1 r2) x4 (x4 + 1) I2 L2))))
set_option maxHeartbeats 20000000 in
set_option maxRecDepth 20000 in
theorem lo_X_loudest_17 {d fu n0 s0 : Nat} {X : Nat × (Nat → Int32)} {Q : PQ} {res : Int32 × (Nat → Nat → Int32) × (Nat → Nat → Int64)}  (g : Q (some (.int res.1)) (HS res.2.1 res.2.2 X)) : ∀ (n : Nat) (x1 : Int32) (x2 : Int32) (x3 : Int32) (x4 : Int32) (I : Nat → Nat → Int32) (L : Nat → Nat → Int64), LO_X_loudest_17 fu n x1 x2 x3 x4 I L = some res → Wp (Ev (d + 5)) cd_X_loudest (0, 0) (some .int) n0 s0 Q 17 [(0, .ref 0), (1, .int x1), (2, .int x2), (3, .int x3), (4, .int x4)] [] (HS I L X) := by
  intro n
  induction n with
  | zero => intro _ _ _ _ _ _ q; cases q
  | succ n ih =>
    intro x1 x2 x3 x4 I L q
    unfold LO_X_loudest_17 at q
    refine w_iload (Ev.cm _) rfl rfl ?_
    refine w_bipush (Ev.cm _) rfl ?_
    refine w_icmp_gt (Ev.cm _) rfl (fun c1 => ?_) (fun c1 => ?_)
    · have c1 : 12 < x4 := c1
      rw [if_pos c1] at q
      refine w_iload_n (Ev.cm _) rfl rfl ?_
      refine w_ireturn (Ev.cm _) rfl trivial rf0 ?_
      cases q
      exact g
    · have c1 : ¬ (12 < x4) := c1
      rw [if_neg c1] at q
      refine w_aload_n (Ev.cm _) rfl rfl ?_
      refine w_iload_n (Ev.cm _) rfl rfl ?_
      refine w_iload (Ev.cm _) rfl rfl ?_
      refine w_iconst (Ev.cm _) rfl ?_
      obtain ⟨⟨r1, I1, L1⟩, e1, q⟩ := obs q
      dsimp only at q
      refine w_cvirt (o := 0) (as := [.int x1, .int x4, .int 1]) (st := []) (Ev.cm _) rfl rfl rfl (Nat.le_of_ble_eq_true rfl) (Nat.le_of_ble_eq_true rfl) rfl (Nat.le_of_ble_eq_true rfl) (eo_X_loudness (g := ?_) e1)
      show Wp _ _ _ _ _ _ _ 32 [(0, .ref 0), (1, .int x1), (2, .int x2), (3, .int x3), (4, .int x4)] [.int r1] (HS I1 L1 X)
      refine w_aload_n (Ev.cm _) rfl rfl ?_
      refine w_iload_n (Ev.cm _) rfl rfl ?_
      refine w_iload (Ev.cm _) rfl rfl ?_
      refine w_iconst (Ev.cm _) rfl ?_
      obtain ⟨⟨r2, I2, L2⟩, e2, q⟩ := obs q
      dsimp only at q
      refine w_cvirt (o := 0) (as := [.int x1, .int x4, .int 0]) (st := [.int r1]) (Ev.cm _) rfl rfl rfl (Nat.le_of_ble_eq_true rfl) (Nat.le_of_ble_eq_true rfl) rfl (Nat.le_of_ble_eq_true rfl) (eo_X_loudness (g := ?_) e2)
      show Wp _ _ _ _ _ _ _ 40 [(0, .ref 0), (1, .int x1), (2, .int x2), (3, .int x3), (4, .int x4)] [.int r2, .int r1] (HS I2 L2 X)
      refine w_cstat (as := [.int r1, .int r2]) (st := []) (Ev.cm _) rfl rfl rfl (Nat.le_of_ble_eq_true rfl) (Nat.le_of_ble_eq_true rfl) (e_J_max ?_)
      show Wp _ _ _ _ _ _ _ 43 [(0, .ref 0), (1, .int x1), (2, .int x2), (3, .int x3), (4, .int x4)] [.int (F_J_max I2 r1 r2)] (HS I2 L2 X)
      refine w_istore (ls2 := [(0, .ref 0), (1, .int x1), (2, .int x2), (3, .int x3), (4, .int x4), (5, .int (F_J_max I2 r1 r2))]) (Ev.cm _) rfl rfl ?_
      refine w_iload (Ev.cm _) rfl rfl ?_
      refine w_iload_n (Ev.cm _) rfl rfl ?_
      refine w_icmp_le (Ev.cm _) rfl (fun c2 => ?_) (fun c2 => ?_)
      · have c2 : F_J_max I2 r1 r2 ≤ x2 := c2
        rw [if_pos c2] at q
        refine w_iinc (ls2 := [(0, .ref 0), (1, .int x1), (2, .int x2), (3, .int x3), (4, .int (x4 + 1)), (5, .int (F_J_max I2 r1 r2))]) (Ev.cm _) rfl rfl rfl ?_
        refine w_goto (Ev.cm _) rfl ?_
        show Wp _ _ _ _ _ _ _ 17 [(0, .ref 0), (1, .int x1), (2, .int x2), (3, .int x3), (4, .int (x4 + 1)), (5, .int (F_J_max I2 r1 r2))] [] (HS I2 L2 X)
        refine Wp.sub [0, 1, 2, 3, 4] (ls2 := [(0, .ref 0), (1, .int x1), (2, .int x2), (3, .int x3), (4, .int (x4 + 1))]) rfl ?_
        exact ih _ _ _ _ _ _ q
      · have c2 : ¬ (F_J_max I2 r1 r2 ≤ x2) := c2
        rw [if_neg c2] at q
        refine w_iload (Ev.cm _) rfl rfl ?_
        refine w_istore_n (ls2 := [(0, .ref 0), (1, .int x1), (2, .int (F_J_max I2 r1 r2)), (3, .int x3), (4, .int x4), (5, .int (F_J_max I2 r1 r2))]) (Ev.cm _) rfl rfl ?_
        refine w_iload (Ev.cm _) rfl rfl ?_
        refine w_istore_n (ls2 := [(0, .ref 0), (1, .int x1), (2, .int (F_J_max I2 r1 r2)), (3, .int x4), (4, .int x4), (5, .int (F_J_max I2 r1 r2))]) (Ev.cm _) rfl rfl ?_
        refine w_iinc (ls2 := [(0, .ref 0), (1, .int x1), (2, .int (F_J_max I2 r1 r2)), (3, .int x4), (4, .int (x4 + 1)), (5, .int (F_J_max I2 r1 r2))]) (Ev.cm _) rfl rfl rfl ?_
        refine w_goto (Ev.cm _) rfl ?_
        show Wp _ _ _ _ _ _ _ 17 [(0, .ref 0), (1, .int x1), (2, .int (F_J_max I2 r1 r2)), (3, .int x4), (4, .int (x4 + 1)), (5, .int (F_J_max I2 r1 r2))] [] (HS I2 L2 X)
        refine Wp.sub [0, 1, 2, 3, 4] (ls2 := [(0, .ref 0), (1, .int x1), (2, .int (F_J_max I2 r1 r2)), (3, .int x4), (4, .int (x4 + 1))]) rfl ?_
        exact ih _ _ _ _ _ _ q
def FO_X_loudest (fu : Nat) (p0 : Int32) (I : Nat → Nat → Int32) (L : Nat → Nat → Int64) : Option (Int32 × (Nat → Nat → Int32) × (Nat → Nat → Int64)) := if F_X_isLodger I p0 = 0 then (some ((-1), I, L)) else (LO_X_loudest_17 fu fu p0 0 (-1) 1 I L)
set_option maxHeartbeats 20000000 in
set_option maxRecDepth 20000 in
theorem eo_X_loudest {d fu : Nat} {p0 : Int32} {I : Nat → Nat → Int32} {L : Nat → Nat → Int64} {X : Nat × (Nat → Int32)} {Q : PQ} {res : Int32 × (Nat → Nat → Int32) × (Nat → Nat → Int64)}  (g : Q (some (.int res.1)) (HS res.2.1 res.2.2 X)) (q : FO_X_loudest fu p0 I L = some res) : Ev (d + 6) m_X_loudest [.ref 0, .int p0] (HS I L X) Q := by
  unfold FO_X_loudest at q
  refine ev_start (d := d + 5) rfl rfl rfl (Nat.le_of_ble_eq_true rfl) ?_
  show Wp (Ev (d + 5)) cd_X_loudest (0, 0) (some .int) _ _ Q 0 [(0, .ref 0), (1, .int p0)] [] (HS I L X)
  refine w_aload_n (Ev.cm _) rfl rfl ?_
  refine w_iload_n (Ev.cm _) rfl rfl ?_
  refine w_cvirt (o := 0) (as := [.int p0]) (st := []) (Ev.cm _) rfl rfl rfl (Nat.le_of_ble_eq_true rfl) (Nat.le_of_ble_eq_true rfl) rfl (Nat.le_of_ble_eq_true rfl) (e_X_isLodger ?_)
  show Wp _ _ _ _ _ _ _ 5 [(0, .ref 0), (1, .int p0)] [.int (F_X_isLodger I p0)] (HS I L X)
  refine w_if_ne (Ev.cm _) rfl (fun c1 => ?_) (fun c1 => ?_)
  · have c1 : ¬ (F_X_isLodger I p0 = 0) := c1
    rw [if_neg c1] at q
    refine w_iconst (Ev.cm _) rfl ?_
    refine w_istore_n (ls2 := [(0, .ref 0), (1, .int p0), (2, .int 0)]) (Ev.cm _) rfl rfl ?_
    refine w_iconst (Ev.cm _) rfl ?_
    refine w_istore_n (ls2 := [(0, .ref 0), (1, .int p0), (2, .int 0), (3, .int (-1))]) (Ev.cm _) rfl rfl ?_
    refine w_iconst (Ev.cm _) rfl ?_
    refine w_istore (ls2 := [(0, .ref 0), (1, .int p0), (2, .int 0), (3, .int (-1)), (4, .int 1)]) (Ev.cm _) rfl rfl ?_
    show Wp _ _ _ _ _ _ _ 17 [(0, .ref 0), (1, .int p0), (2, .int 0), (3, .int (-1)), (4, .int 1)] [] (HS I L X)
    refine Wp.sub [0, 1, 2, 3, 4] (ls2 := [(0, .ref 0), (1, .int p0), (2, .int 0), (3, .int (-1)), (4, .int 1)]) rfl ?_
    exact lo_X_loudest_17 g fu _ _ _ _ _ _ q
  · have c1 : F_X_isLodger I p0 = 0 := c1
    rw [if_pos c1] at q
    refine w_iconst (Ev.cm _) rfl ?_
    refine w_ireturn (Ev.cm _) rfl trivial rf0 ?_
    cases q
    exact g
def FO_X_heardOn (fu : Nat) (p0 : Int32) (p1 : Int32) (I : Nat → Nat → Int32) (L : Nat → Nat → Int64) : Option (Int32 × (Nat → Nat → Int32) × (Nat → Nat → Int64)) := if F_X_isLodger I p0 = 0 then (some ((-1), I, L)) else ((FO_X_heardStairs fu p0 p1 I L).bind (fun u1 => let r1 := u1.1; let I1 := u1.2.1; let L1 := u1.2.2; some (r1, I1, L1)))
set_option maxHeartbeats 20000000 in
set_option maxRecDepth 20000 in
theorem eo_X_heardOn {d fu : Nat} {p0 : Int32} {p1 : Int32} {I : Nat → Nat → Int32} {L : Nat → Nat → Int64} {X : Nat × (Nat → Int32)} {Q : PQ} {res : Int32 × (Nat → Nat → Int32) × (Nat → Nat → Int64)}  (g : Q (some (.int res.1)) (HS res.2.1 res.2.2 X)) (q : FO_X_heardOn fu p0 p1 I L = some res) : Ev (d + 7) m_X_heardOn [.ref 0, .int p0, .int p1] (HS I L X) Q := by
  unfold FO_X_heardOn at q
  refine ev_start (d := d + 6) rfl rfl rfl (Nat.le_of_ble_eq_true rfl) ?_
  show Wp (Ev (d + 6)) cd_X_heardOn (0, 0) (some .int) _ _ Q 0 [(0, .ref 0), (1, .int p0), (2, .int p1)] [] (HS I L X)
  refine w_aload_n (Ev.cm _) rfl rfl ?_
  refine w_iload_n (Ev.cm _) rfl rfl ?_
  refine w_cvirt (o := 0) (as := [.int p0]) (st := []) (Ev.cm _) rfl rfl rfl (Nat.le_of_ble_eq_true rfl) (Nat.le_of_ble_eq_true rfl) rfl (Nat.le_of_ble_eq_true rfl) (e_X_isLodger ?_)
  show Wp _ _ _ _ _ _ _ 5 [(0, .ref 0), (1, .int p0), (2, .int p1)] [.int (F_X_isLodger I p0)] (HS I L X)
  refine w_if_ne (Ev.cm _) rfl (fun c1 => ?_) (fun c1 => ?_)
  · have c1 : ¬ (F_X_isLodger I p0 = 0) := c1
    rw [if_neg c1] at q
    refine w_aload_n (Ev.cm _) rfl rfl ?_
    refine w_iload_n (Ev.cm _) rfl rfl ?_
    refine w_iload_n (Ev.cm _) rfl rfl ?_
    obtain ⟨⟨r1, I1, L1⟩, e1, q⟩ := obs q
    dsimp only at q
    refine w_cvirt (o := 0) (as := [.int p0, .int p1]) (st := []) (Ev.cm _) rfl rfl rfl (Nat.le_of_ble_eq_true rfl) (Nat.le_of_ble_eq_true rfl) rfl (Nat.le_of_ble_eq_true rfl) (eo_X_heardStairs (g := ?_) e1)
    show Wp _ _ _ _ _ _ _ 16 [(0, .ref 0), (1, .int p0), (2, .int p1)] [.int r1] (HS I1 L1 X)
    refine w_ireturn (Ev.cm _) rfl trivial rf0 ?_
    cases q
    exact g
  · have c1 : F_X_isLodger I p0 = 0 := c1
    rw [if_pos c1] at q
    refine w_iconst (Ev.cm _) rfl ?_
    refine w_ireturn (Ev.cm _) rfl trivial rf0 ?_
    cases q
    exact g
def FO_X_mood (fu : Nat) (p0 : Int32) (p1 : Int32) (p2 : Int32) (I : Nat → Nat → Int32) (L : Nat → Nat → Int64) : Option (Int64 × (Nat → Nat → Int32) × (Nat → Nat → Int64)) := if (0 : Int32) ≤ p0 ∧ p0 ≤ ((I 1 11) - 1) then (if 0 ≤ p1 ∧ p1 ≤ 2 then ((FO_O_weighFromFront fu  I L).bind (fun u1 => let r1 := u1.1; let I1 := u1.2.1; let L1 := u1.2.2; (FO_O_weighFromBack fu 0 I1 L1).bind (fun u2 => let r2 := u2.1; let I2 := u2.2.1; let L2 := u2.2.2; (FO_O_through fu p0 p1 I2 L2).bind (fun u3 => let r3 := u3.1; let I3 := u3.2.1; let L3 := u3.2.2; (FO_O_all fu (I3 1 11) I3 L3).bind (fun u4 => let r4 := u4.1; let I4 := u4.2.1; let L4 := u4.2.2; (FO_X_part fu r3 r4 p2 I4 L4).bind (fun u5 => let r5 := u5.1; let I5 := u5.2.1; let L5 := u5.2.2; some (r5, I5, L5))))))) else (some ((-1), I, L))) else (some ((-1), I, L))
set_option maxHeartbeats 20000000 in
set_option maxRecDepth 20000 in
theorem eo_X_mood {d fu : Nat} {p0 : Int32} {p1 : Int32} {p2 : Int32} {I : Nat → Nat → Int32} {L : Nat → Nat → Int64} {X : Nat × (Nat → Int32)} {Q : PQ} {res : Int64 × (Nat → Nat → Int32) × (Nat → Nat → Int64)}  (g : Q (some (.long res.1)) (HS res.2.1 res.2.2 X)) (q : FO_X_mood fu p0 p1 p2 I L = some res) : Ev (d + 6) m_X_mood [.ref 0, .int p0, .int p1, .int p2] (HS I L X) Q := by
  unfold FO_X_mood at q
  refine ev_start (d := d + 5) rfl rfl rfl (Nat.le_of_ble_eq_true rfl) ?_
  show Wp (Ev (d + 5)) cd_X_mood (0, 0) (some .long) _ _ Q 0 [(0, .ref 0), (1, .int p0), (2, .int p1), (3, .int p2)] [] (HS I L X)
  refine w_iload_n (Ev.cm _) rfl rfl ?_
  refine w_iconst (Ev.cm _) rfl ?_
  refine w_aload_n (Ev.cm _) rfl rfl ?_
  refine w_getR (q := 1) (Ev.cm _) rfl (Nat.le_of_ble_eq_true rfl) rfl rfl ?_
  refine w_getI (Ev.cm _) rfl (Nat.le_of_ble_eq_true rfl) rfl ?_
  refine w_iconst (Ev.cm _) rfl ?_
  refine w_isub (Ev.cm _) rfl ?_
  refine w_cstat (as := [.int p0, .int 0, .int ((I 1 11) - 1)]) (st := []) (Ev.cm _) rfl rfl rfl (Nat.le_of_ble_eq_true rfl) (Nat.le_of_ble_eq_true rfl) (x_within ?_)
  show Wp _ _ _ _ _ _ _ 14 [(0, .ref 0), (1, .int p0), (2, .int p1), (3, .int p2)] [.int (bI ((0 : Int32) ≤ p0 ∧ p0 ≤ ((I 1 11) - 1)))] (HS I L X)
  refine w_if_eq (Ev.cm _) rfl (fun c1 => ?_) (fun c1 => ?_)
  · have c1 : ¬ ((0 : Int32) ≤ p0 ∧ p0 ≤ ((I 1 11) - 1)) := bI_0.mp c1
    rw [if_neg c1] at q
    refine w_ldc2_w (Ev.cm _) rfl ?_
    refine w_lreturn (Ev.cm _) rfl rfl rf0 ?_
    cases q
    exact g
  · have c1 : (0 : Int32) ≤ p0 ∧ p0 ≤ ((I 1 11) - 1) := bI_1.mp c1
    rw [if_pos c1] at q
    refine w_iload_n (Ev.cm _) rfl rfl ?_
    refine w_cstat (as := [.int p1]) (st := []) (Ev.cm _) rfl rfl rfl (Nat.le_of_ble_eq_true rfl) (Nat.le_of_ble_eq_true rfl) (x_isMood ?_)
    show Wp _ _ _ _ _ _ _ 21 [(0, .ref 0), (1, .int p0), (2, .int p1), (3, .int p2)] [.int (bI (0 ≤ p1 ∧ p1 ≤ 2))] (HS I L X)
    refine w_if_ne (Ev.cm _) rfl (fun c2 => ?_) (fun c2 => ?_)
    · have c2 : 0 ≤ p1 ∧ p1 ≤ 2 := bI_1.mp c2
      rw [if_pos c2] at q
      refine w_aload_n (Ev.cm _) rfl rfl ?_
      refine w_getR (q := 322) (Ev.cm _) rfl (Nat.le_of_ble_eq_true rfl) rfl rfl ?_
      refine w_aload_n (Ev.cm _) rfl rfl ?_
      refine w_getR (q := 1) (Ev.cm _) rfl (Nat.le_of_ble_eq_true rfl) rfl rfl ?_
      obtain ⟨⟨r1, I1, L1⟩, e1, q⟩ := obs q
      dsimp only at q
      refine w_cvirt (o := 322) (as := [.ref 1]) (st := []) (Ev.cm _) rfl rfl rfl (Nat.le_of_ble_eq_true rfl) (Nat.le_of_ble_eq_true rfl) rfl (Nat.le_of_ble_eq_true rfl) (eo_O_weighFromFront (g := ?_) e1)
      show Wp _ _ _ _ _ _ _ 39 [(0, .ref 0), (1, .int p0), (2, .int p1), (3, .int p2)] [] (HS I1 L1 X)
      refine w_aload_n (Ev.cm _) rfl rfl ?_
      refine w_getR (q := 322) (Ev.cm _) rfl (Nat.le_of_ble_eq_true rfl) rfl rfl ?_
      refine w_aload_n (Ev.cm _) rfl rfl ?_
      refine w_getR (q := 1) (Ev.cm _) rfl (Nat.le_of_ble_eq_true rfl) rfl rfl ?_
      refine w_iconst (Ev.cm _) rfl ?_
      obtain ⟨⟨r2, I2, L2⟩, e2, q⟩ := obs q
      dsimp only at q
      refine w_cvirt (o := 322) (as := [.ref 1, .int 0]) (st := []) (Ev.cm _) rfl rfl rfl (Nat.le_of_ble_eq_true rfl) (Nat.le_of_ble_eq_true rfl) rfl (Nat.le_of_ble_eq_true rfl) (eo_O_weighFromBack (g := ?_) e2)
      show Wp _ _ _ _ _ _ _ 51 [(0, .ref 0), (1, .int p0), (2, .int p1), (3, .int p2)] [] (HS I2 L2 X)
      refine w_aload_n (Ev.cm _) rfl rfl ?_
      refine w_getR (q := 322) (Ev.cm _) rfl (Nat.le_of_ble_eq_true rfl) rfl rfl ?_
      refine w_iload_n (Ev.cm _) rfl rfl ?_
      refine w_iload_n (Ev.cm _) rfl rfl ?_
      obtain ⟨⟨r3, I3, L3⟩, e3, q⟩ := obs q
      dsimp only at q
      refine w_cvirt (o := 322) (as := [.int p0, .int p1]) (st := []) (Ev.cm _) rfl rfl rfl (Nat.le_of_ble_eq_true rfl) (Nat.le_of_ble_eq_true rfl) rfl (Nat.le_of_ble_eq_true rfl) (eo_O_through (g := ?_) e3)
      show Wp _ _ _ _ _ _ _ 60 [(0, .ref 0), (1, .int p0), (2, .int p1), (3, .int p2)] [.long r3] (HS I3 L3 X)
      refine w_aload_n (Ev.cm _) rfl rfl ?_
      refine w_getR (q := 322) (Ev.cm _) rfl (Nat.le_of_ble_eq_true rfl) rfl rfl ?_
      refine w_aload_n (Ev.cm _) rfl rfl ?_
      refine w_getR (q := 1) (Ev.cm _) rfl (Nat.le_of_ble_eq_true rfl) rfl rfl ?_
      refine w_getI (Ev.cm _) rfl (Nat.le_of_ble_eq_true rfl) rfl ?_
      obtain ⟨⟨r4, I4, L4⟩, e4, q⟩ := obs q
      dsimp only at q
      refine w_cvirt (o := 322) (as := [.int (I3 1 11)]) (st := [.long r3]) (Ev.cm _) rfl rfl rfl (Nat.le_of_ble_eq_true rfl) (Nat.le_of_ble_eq_true rfl) rfl (Nat.le_of_ble_eq_true rfl) (eo_O_all (g := ?_) e4)
      show Wp _ _ _ _ _ _ _ 74 [(0, .ref 0), (1, .int p0), (2, .int p1), (3, .int p2)] [.long r4, .long r3] (HS I4 L4 X)
      refine w_iload_n (Ev.cm _) rfl rfl ?_
      obtain ⟨⟨r5, I5, L5⟩, e5, q⟩ := obs q
      dsimp only at q
      refine w_cstat (as := [.long r3, .long r4, .int p2]) (st := []) (Ev.cm _) rfl rfl rfl (Nat.le_of_ble_eq_true rfl) (Nat.le_of_ble_eq_true rfl) (eo_X_part (g := ?_) e5)
      show Wp _ _ _ _ _ _ _ 78 [(0, .ref 0), (1, .int p0), (2, .int p1), (3, .int p2)] [.long r5] (HS I5 L5 X)
      refine w_lreturn (Ev.cm _) rfl rfl rf0 ?_
      cases q
      exact g
    · have c2 : ¬ (0 ≤ p1 ∧ p1 ≤ 2) := bI_0.mp c2
      rw [if_neg c2] at q
      refine w_ldc2_w (Ev.cm _) rfl ?_
      refine w_lreturn (Ev.cm _) rfl rfl rf0 ?_
      cases q
      exact g
def LO_X_moods_46 (fu : Nat) : Nat → Int32 → Int32 → Int32 → (Nat → Nat → Int32) → (Nat → Nat → Int64) → Option (Int32 × (Nat → Nat → Int32) × (Nat → Nat → Int64))
  | 0, _, _, _, _, _ => none
  | n + 1, x1, x2, x3, I, L => if 3 ≤ x3 then (some (x2, I, L)) else ((FO_O_through fu x1 x3 I L).bind (fun u1 => let r1 := u1.1; let I1 := u1.2.1; let L1 := u1.2.2; if lg_cmp r1 0 ≤ 0 then (LO_X_moods_46 fu n x1 x2 (x3 + 1) I1 L1) else (LO_X_moods_46 fu n x1 (x2 ||| ((1 : Int32) <<< (x3 &&& 31))) (x3 + 1) I1 L1)))
set_option maxHeartbeats 20000000 in
set_option maxRecDepth 20000 in
theorem lo_X_moods_46 {d fu n0 s0 : Nat} {X : Nat × (Nat → Int32)} {Q : PQ} {res : Int32 × (Nat → Nat → Int32) × (Nat → Nat → Int64)}  (g : Q (some (.int res.1)) (HS res.2.1 res.2.2 X)) : ∀ (n : Nat) (x1 : Int32) (x2 : Int32) (x3 : Int32) (I : Nat → Nat → Int32) (L : Nat → Nat → Int64), LO_X_moods_46 fu n x1 x2 x3 I L = some res → Wp (Ev (d + 5)) cd_X_moods (0, 0) (some .int) n0 s0 Q 46 [(0, .ref 0), (1, .int x1), (2, .int x2), (3, .int x3)] [] (HS I L X) := by
  intro n
  induction n with
  | zero => intro _ _ _ _ _ q; cases q
  | succ n ih =>
    intro x1 x2 x3 I L q
    unfold LO_X_moods_46 at q
    refine w_iload_n (Ev.cm _) rfl rfl ?_
    refine w_iconst (Ev.cm _) rfl ?_
    refine w_icmp_ge (Ev.cm _) rfl (fun c1 => ?_) (fun c1 => ?_)
    · have c1 : 3 ≤ x3 := c1
      rw [if_pos c1] at q
      refine w_iload_n (Ev.cm _) rfl rfl ?_
      refine w_ireturn (Ev.cm _) rfl trivial rf0 ?_
      cases q
      exact g
    · have c1 : ¬ (3 ≤ x3) := c1
      rw [if_neg c1] at q
      refine w_aload_n (Ev.cm _) rfl rfl ?_
      refine w_getR (q := 322) (Ev.cm _) rfl (Nat.le_of_ble_eq_true rfl) rfl rfl ?_
      refine w_iload_n (Ev.cm _) rfl rfl ?_
      refine w_iload_n (Ev.cm _) rfl rfl ?_
      obtain ⟨⟨r1, I1, L1⟩, e1, q⟩ := obs q
      dsimp only at q
      refine w_cvirt (o := 322) (as := [.int x1, .int x3]) (st := []) (Ev.cm _) rfl rfl rfl (Nat.le_of_ble_eq_true rfl) (Nat.le_of_ble_eq_true rfl) rfl (Nat.le_of_ble_eq_true rfl) (eo_O_through (g := ?_) e1)
      show Wp _ _ _ _ _ _ _ 60 [(0, .ref 0), (1, .int x1), (2, .int x2), (3, .int x3)] [.long r1] (HS I1 L1 X)
      refine w_lconst (Ev.cm _) rfl ?_
      refine w_lcmp (Ev.cm _) rfl ?_
      refine w_if_le (Ev.cm _) rfl (fun c2 => ?_) (fun c2 => ?_)
      · have c2 : lg_cmp r1 0 ≤ 0 := c2
        rw [if_pos c2] at q
        refine w_iinc (ls2 := [(0, .ref 0), (1, .int x1), (2, .int x2), (3, .int (x3 + 1))]) (Ev.cm _) rfl rfl rfl ?_
        refine w_goto (Ev.cm _) rfl ?_
        show Wp _ _ _ _ _ _ _ 46 [(0, .ref 0), (1, .int x1), (2, .int x2), (3, .int (x3 + 1))] [] (HS I1 L1 X)
        refine Wp.sub [0, 1, 2, 3] (ls2 := [(0, .ref 0), (1, .int x1), (2, .int x2), (3, .int (x3 + 1))]) rfl ?_
        exact ih _ _ _ _ _ q
      · have c2 : ¬ (lg_cmp r1 0 ≤ 0) := c2
        rw [if_neg c2] at q
        refine w_iload_n (Ev.cm _) rfl rfl ?_
        refine w_iconst (Ev.cm _) rfl ?_
        refine w_iload_n (Ev.cm _) rfl rfl ?_
        refine w_ishl (Ev.cm _) rfl ?_
        refine w_ior (Ev.cm _) rfl ?_
        refine w_istore_n (ls2 := [(0, .ref 0), (1, .int x1), (2, .int (x2 ||| ((1 : Int32) <<< (x3 &&& 31)))), (3, .int x3)]) (Ev.cm _) rfl rfl ?_
        refine w_iinc (ls2 := [(0, .ref 0), (1, .int x1), (2, .int (x2 ||| ((1 : Int32) <<< (x3 &&& 31)))), (3, .int (x3 + 1))]) (Ev.cm _) rfl rfl rfl ?_
        refine w_goto (Ev.cm _) rfl ?_
        show Wp _ _ _ _ _ _ _ 46 [(0, .ref 0), (1, .int x1), (2, .int (x2 ||| ((1 : Int32) <<< (x3 &&& 31)))), (3, .int (x3 + 1))] [] (HS I1 L1 X)
        refine Wp.sub [0, 1, 2, 3] (ls2 := [(0, .ref 0), (1, .int x1), (2, .int (x2 ||| ((1 : Int32) <<< (x3 &&& 31)))), (3, .int (x3 + 1))]) rfl ?_
        exact ih _ _ _ _ _ q
def FO_X_moods (fu : Nat) (p0 : Int32) (I : Nat → Nat → Int32) (L : Nat → Nat → Int64) : Option (Int32 × (Nat → Nat → Int32) × (Nat → Nat → Int64)) := if (0 : Int32) ≤ p0 ∧ p0 ≤ ((I 1 11) - 1) then ((FO_O_weighFromFront fu  I L).bind (fun u1 => let r1 := u1.1; let I1 := u1.2.1; let L1 := u1.2.2; (FO_O_weighFromBack fu 0 I1 L1).bind (fun u2 => let r2 := u2.1; let I2 := u2.2.1; let L2 := u2.2.2; LO_X_moods_46 fu fu p0 0 0 I2 L2))) else (some ((-1), I, L))
set_option maxHeartbeats 20000000 in
set_option maxRecDepth 20000 in
theorem eo_X_moods {d fu : Nat} {p0 : Int32} {I : Nat → Nat → Int32} {L : Nat → Nat → Int64} {X : Nat × (Nat → Int32)} {Q : PQ} {res : Int32 × (Nat → Nat → Int32) × (Nat → Nat → Int64)}  (g : Q (some (.int res.1)) (HS res.2.1 res.2.2 X)) (q : FO_X_moods fu p0 I L = some res) : Ev (d + 6) m_X_moods [.ref 0, .int p0] (HS I L X) Q := by
  unfold FO_X_moods at q
  refine ev_start (d := d + 5) rfl rfl rfl (Nat.le_of_ble_eq_true rfl) ?_
  show Wp (Ev (d + 5)) cd_X_moods (0, 0) (some .int) _ _ Q 0 [(0, .ref 0), (1, .int p0)] [] (HS I L X)
  refine w_iload_n (Ev.cm _) rfl rfl ?_
  refine w_iconst (Ev.cm _) rfl ?_
  refine w_aload_n (Ev.cm _) rfl rfl ?_
  refine w_getR (q := 1) (Ev.cm _) rfl (Nat.le_of_ble_eq_true rfl) rfl rfl ?_
  refine w_getI (Ev.cm _) rfl (Nat.le_of_ble_eq_true rfl) rfl ?_
  refine w_iconst (Ev.cm _) rfl ?_
  refine w_isub (Ev.cm _) rfl ?_
  refine w_cstat (as := [.int p0, .int 0, .int ((I 1 11) - 1)]) (st := []) (Ev.cm _) rfl rfl rfl (Nat.le_of_ble_eq_true rfl) (Nat.le_of_ble_eq_true rfl) (x_within ?_)
  show Wp _ _ _ _ _ _ _ 14 [(0, .ref 0), (1, .int p0)] [.int (bI ((0 : Int32) ≤ p0 ∧ p0 ≤ ((I 1 11) - 1)))] (HS I L X)
  refine w_if_ne (Ev.cm _) rfl (fun c1 => ?_) (fun c1 => ?_)
  · have c1 : (0 : Int32) ≤ p0 ∧ p0 ≤ ((I 1 11) - 1) := bI_1.mp c1
    rw [if_pos c1] at q
    refine w_aload_n (Ev.cm _) rfl rfl ?_
    refine w_getR (q := 322) (Ev.cm _) rfl (Nat.le_of_ble_eq_true rfl) rfl rfl ?_
    refine w_aload_n (Ev.cm _) rfl rfl ?_
    refine w_getR (q := 1) (Ev.cm _) rfl (Nat.le_of_ble_eq_true rfl) rfl rfl ?_
    obtain ⟨⟨r1, I1, L1⟩, e1, q⟩ := obs q
    dsimp only at q
    refine w_cvirt (o := 322) (as := [.ref 1]) (st := []) (Ev.cm _) rfl rfl rfl (Nat.le_of_ble_eq_true rfl) (Nat.le_of_ble_eq_true rfl) rfl (Nat.le_of_ble_eq_true rfl) (eo_O_weighFromFront (g := ?_) e1)
    show Wp _ _ _ _ _ _ _ 30 [(0, .ref 0), (1, .int p0)] [] (HS I1 L1 X)
    refine w_aload_n (Ev.cm _) rfl rfl ?_
    refine w_getR (q := 322) (Ev.cm _) rfl (Nat.le_of_ble_eq_true rfl) rfl rfl ?_
    refine w_aload_n (Ev.cm _) rfl rfl ?_
    refine w_getR (q := 1) (Ev.cm _) rfl (Nat.le_of_ble_eq_true rfl) rfl rfl ?_
    refine w_iconst (Ev.cm _) rfl ?_
    obtain ⟨⟨r2, I2, L2⟩, e2, q⟩ := obs q
    dsimp only at q
    refine w_cvirt (o := 322) (as := [.ref 1, .int 0]) (st := []) (Ev.cm _) rfl rfl rfl (Nat.le_of_ble_eq_true rfl) (Nat.le_of_ble_eq_true rfl) rfl (Nat.le_of_ble_eq_true rfl) (eo_O_weighFromBack (g := ?_) e2)
    show Wp _ _ _ _ _ _ _ 42 [(0, .ref 0), (1, .int p0)] [] (HS I2 L2 X)
    refine w_iconst (Ev.cm _) rfl ?_
    refine w_istore_n (ls2 := [(0, .ref 0), (1, .int p0), (2, .int 0)]) (Ev.cm _) rfl rfl ?_
    refine w_iconst (Ev.cm _) rfl ?_
    refine w_istore_n (ls2 := [(0, .ref 0), (1, .int p0), (2, .int 0), (3, .int 0)]) (Ev.cm _) rfl rfl ?_
    show Wp _ _ _ _ _ _ _ 46 [(0, .ref 0), (1, .int p0), (2, .int 0), (3, .int 0)] [] (HS I2 L2 X)
    refine Wp.sub [0, 1, 2, 3] (ls2 := [(0, .ref 0), (1, .int p0), (2, .int 0), (3, .int 0)]) rfl ?_
    exact lo_X_moods_46 g fu _ _ _ _ _ q
  · have c1 : ¬ ((0 : Int32) ≤ p0 ∧ p0 ≤ ((I 1 11) - 1)) := bI_0.mp c1
    rw [if_neg c1] at q
    refine w_iconst (Ev.cm _) rfl ?_
    refine w_ireturn (Ev.cm _) rfl trivial rf0 ?_
    cases q
    exact g
def LO_X_likeliest_35 (fu : Nat) : Nat → Int32 → Int32 → Int32 → (Nat → Nat → Int32) → (Nat → Nat → Int64) → Option (Int32 × (Nat → Nat → Int32) × (Nat → Nat → Int64))
  | 0, _, _, _, _, _ => none
  | n + 1, x1, x2, x3, I, L => if x1 < x3 then (some (x2, I, L)) else ((FO_O_heaviestBehind fu x3 x2 I L).bind (fun u1 => let r1 := u1.1; let I1 := u1.2.1; let L1 := u1.2.2; LO_X_likeliest_35 fu n x1 r1 (x3 + 1) I1 L1))
set_option maxHeartbeats 20000000 in
set_option maxRecDepth 20000 in
theorem lo_X_likeliest_35 {d fu n0 s0 : Nat} {X : Nat × (Nat → Int32)} {Q : PQ} {res : Int32 × (Nat → Nat → Int32) × (Nat → Nat → Int64)}  (g : Q (some (.int res.1)) (HS res.2.1 res.2.2 X)) : ∀ (n : Nat) (x1 : Int32) (x2 : Int32) (x3 : Int32) (I : Nat → Nat → Int32) (L : Nat → Nat → Int64), LO_X_likeliest_35 fu n x1 x2 x3 I L = some res → Wp (Ev (d + 5)) cd_X_likeliest (0, 0) (some .int) n0 s0 Q 35 [(0, .ref 0), (1, .int x1), (2, .int x2), (3, .int x3)] [] (HS I L X) := by
  intro n
  induction n with
  | zero => intro _ _ _ _ _ q; cases q
  | succ n ih =>
    intro x1 x2 x3 I L q
    unfold LO_X_likeliest_35 at q
    refine w_iload_n (Ev.cm _) rfl rfl ?_
    refine w_iload_n (Ev.cm _) rfl rfl ?_
    refine w_icmp_gt (Ev.cm _) rfl (fun c1 => ?_) (fun c1 => ?_)
    · have c1 : x1 < x3 := c1
      rw [if_pos c1] at q
      refine w_iload_n (Ev.cm _) rfl rfl ?_
      refine w_ireturn (Ev.cm _) rfl trivial rf0 ?_
      cases q
      exact g
    · have c1 : ¬ (x1 < x3) := c1
      rw [if_neg c1] at q
      refine w_aload_n (Ev.cm _) rfl rfl ?_
      refine w_getR (q := 322) (Ev.cm _) rfl (Nat.le_of_ble_eq_true rfl) rfl rfl ?_
      refine w_aload_n (Ev.cm _) rfl rfl ?_
      refine w_getR (q := 1) (Ev.cm _) rfl (Nat.le_of_ble_eq_true rfl) rfl rfl ?_
      refine w_iload_n (Ev.cm _) rfl rfl ?_
      refine w_iload_n (Ev.cm _) rfl rfl ?_
      obtain ⟨⟨r1, I1, L1⟩, e1, q⟩ := obs q
      dsimp only at q
      refine w_cvirt (o := 322) (as := [.ref 1, .int x3, .int x2]) (st := []) (Ev.cm _) rfl rfl rfl (Nat.le_of_ble_eq_true rfl) (Nat.le_of_ble_eq_true rfl) rfl (Nat.le_of_ble_eq_true rfl) (eo_O_heaviestBehind (g := ?_) e1)
      show Wp _ _ _ _ _ _ _ 53 [(0, .ref 0), (1, .int x1), (2, .int x2), (3, .int x3)] [.int r1] (HS I1 L1 X)
      refine w_istore_n (ls2 := [(0, .ref 0), (1, .int x1), (2, .int r1), (3, .int x3)]) (Ev.cm _) rfl rfl ?_
      refine w_iinc (ls2 := [(0, .ref 0), (1, .int x1), (2, .int r1), (3, .int (x3 + 1))]) (Ev.cm _) rfl rfl rfl ?_
      refine w_goto (Ev.cm _) rfl ?_
      show Wp _ _ _ _ _ _ _ 35 [(0, .ref 0), (1, .int x1), (2, .int r1), (3, .int (x3 + 1))] [] (HS I1 L1 X)
      refine Wp.sub [0, 1, 2, 3] (ls2 := [(0, .ref 0), (1, .int x1), (2, .int r1), (3, .int (x3 + 1))]) rfl ?_
      exact ih _ _ _ _ _ q
def FO_X_likeliest (fu : Nat) (p0 : Int32) (I : Nat → Nat → Int32) (L : Nat → Nat → Int64) : Option (Int32 × (Nat → Nat → Int32) × (Nat → Nat → Int64)) := if (0 : Int32) ≤ p0 ∧ p0 ≤ ((I 1 11) - 1) then ((FO_O_weighFromBack fu 1 I L).bind (fun u1 => let r1 := u1.1; let I1 := u1.2.1; let L1 := u1.2.2; LO_X_likeliest_35 fu fu p0 (-1) 0 I1 L1)) else (some ((-1), I, L))
set_option maxHeartbeats 20000000 in
set_option maxRecDepth 20000 in
theorem eo_X_likeliest {d fu : Nat} {p0 : Int32} {I : Nat → Nat → Int32} {L : Nat → Nat → Int64} {X : Nat × (Nat → Int32)} {Q : PQ} {res : Int32 × (Nat → Nat → Int32) × (Nat → Nat → Int64)}  (g : Q (some (.int res.1)) (HS res.2.1 res.2.2 X)) (q : FO_X_likeliest fu p0 I L = some res) : Ev (d + 6) m_X_likeliest [.ref 0, .int p0] (HS I L X) Q := by
  unfold FO_X_likeliest at q
  refine ev_start (d := d + 5) rfl rfl rfl (Nat.le_of_ble_eq_true rfl) ?_
  show Wp (Ev (d + 5)) cd_X_likeliest (0, 0) (some .int) _ _ Q 0 [(0, .ref 0), (1, .int p0)] [] (HS I L X)
  refine w_iload_n (Ev.cm _) rfl rfl ?_
  refine w_iconst (Ev.cm _) rfl ?_
  refine w_aload_n (Ev.cm _) rfl rfl ?_
  refine w_getR (q := 1) (Ev.cm _) rfl (Nat.le_of_ble_eq_true rfl) rfl rfl ?_
  refine w_getI (Ev.cm _) rfl (Nat.le_of_ble_eq_true rfl) rfl ?_
  refine w_iconst (Ev.cm _) rfl ?_
  refine w_isub (Ev.cm _) rfl ?_
  refine w_cstat (as := [.int p0, .int 0, .int ((I 1 11) - 1)]) (st := []) (Ev.cm _) rfl rfl rfl (Nat.le_of_ble_eq_true rfl) (Nat.le_of_ble_eq_true rfl) (x_within ?_)
  show Wp _ _ _ _ _ _ _ 14 [(0, .ref 0), (1, .int p0)] [.int (bI ((0 : Int32) ≤ p0 ∧ p0 ≤ ((I 1 11) - 1)))] (HS I L X)
  refine w_if_ne (Ev.cm _) rfl (fun c1 => ?_) (fun c1 => ?_)
  · have c1 : (0 : Int32) ≤ p0 ∧ p0 ≤ ((I 1 11) - 1) := bI_1.mp c1
    rw [if_pos c1] at q
    refine w_aload_n (Ev.cm _) rfl rfl ?_
    refine w_getR (q := 322) (Ev.cm _) rfl (Nat.le_of_ble_eq_true rfl) rfl rfl ?_
    refine w_aload_n (Ev.cm _) rfl rfl ?_
    refine w_getR (q := 1) (Ev.cm _) rfl (Nat.le_of_ble_eq_true rfl) rfl rfl ?_
    refine w_iconst (Ev.cm _) rfl ?_
    obtain ⟨⟨r1, I1, L1⟩, e1, q⟩ := obs q
    dsimp only at q
    refine w_cvirt (o := 322) (as := [.ref 1, .int 1]) (st := []) (Ev.cm _) rfl rfl rfl (Nat.le_of_ble_eq_true rfl) (Nat.le_of_ble_eq_true rfl) rfl (Nat.le_of_ble_eq_true rfl) (eo_O_weighFromBack (g := ?_) e1)
    show Wp _ _ _ _ _ _ _ 31 [(0, .ref 0), (1, .int p0)] [] (HS I1 L1 X)
    refine w_iconst (Ev.cm _) rfl ?_
    refine w_istore_n (ls2 := [(0, .ref 0), (1, .int p0), (2, .int (-1))]) (Ev.cm _) rfl rfl ?_
    refine w_iconst (Ev.cm _) rfl ?_
    refine w_istore_n (ls2 := [(0, .ref 0), (1, .int p0), (2, .int (-1)), (3, .int 0)]) (Ev.cm _) rfl rfl ?_
    show Wp _ _ _ _ _ _ _ 35 [(0, .ref 0), (1, .int p0), (2, .int (-1)), (3, .int 0)] [] (HS I1 L1 X)
    refine Wp.sub [0, 1, 2, 3] (ls2 := [(0, .ref 0), (1, .int p0), (2, .int (-1)), (3, .int 0)]) rfl ?_
    exact lo_X_likeliest_35 g fu _ _ _ _ _ q
  · have c1 : ¬ ((0 : Int32) ≤ p0 ∧ p0 ≤ ((I 1 11) - 1)) := bI_0.mp c1
    rw [if_neg c1] at q
    refine w_iconst (Ev.cm _) rfl ?_
    refine w_ireturn (Ev.cm _) rfl trivial rf0 ?_
    cases q
    exact g
def FO_X_clear (fu : Nat) (I : Nat → Nat → Int32) (L : Nat → Nat → Int64) : Option (Int32 × (Nat → Nat → Int32) × (Nat → Nat → Int64)) := (FO_C_shortestDoubt fu  I L).bind (fun u1 => let r1 := u1.1; let I1 := u1.2.1; let L1 := u1.2.2; if r1 = (-1) then (some (1, I1, L1)) else (some (0, I1, L1)))
set_option maxHeartbeats 20000000 in
set_option maxRecDepth 20000 in
theorem eo_X_clear {d fu : Nat} {I : Nat → Nat → Int32} {L : Nat → Nat → Int64} {X : Nat × (Nat → Int32)} {Q : PQ} {res : Int32 × (Nat → Nat → Int32) × (Nat → Nat → Int64)}  (g : Q (some (.int res.1)) (HS res.2.1 res.2.2 X)) (q : FO_X_clear fu  I L = some res) : Ev (d + 5) m_X_clear [.ref 0] (HS I L X) Q := by
  unfold FO_X_clear at q
  refine ev_start (d := d + 4) rfl rfl rfl (Nat.le_of_ble_eq_true rfl) ?_
  show Wp (Ev (d + 4)) cd_X_clear (0, 0) (some .int) _ _ Q 0 [(0, .ref 0)] [] (HS I L X)
  refine w_aload_n (Ev.cm _) rfl rfl ?_
  refine w_getR (q := 325) (Ev.cm _) rfl (Nat.le_of_ble_eq_true rfl) rfl rfl ?_
  refine w_aload_n (Ev.cm _) rfl rfl ?_
  refine w_getR (q := 1) (Ev.cm _) rfl (Nat.le_of_ble_eq_true rfl) rfl rfl ?_
  obtain ⟨⟨r1, I1, L1⟩, e1, q⟩ := obs q
  dsimp only at q
  refine w_cvirt (o := 325) (as := [.ref 1]) (st := []) (Ev.cm _) rfl rfl rfl (Nat.le_of_ble_eq_true rfl) (Nat.le_of_ble_eq_true rfl) rfl (Nat.le_of_ble_eq_true rfl) (eo_C_shortestDoubt (g := ?_) e1)
  show Wp _ _ _ _ _ _ _ 11 [(0, .ref 0)] [.int r1] (HS I1 L1 X)
  refine w_iconst (Ev.cm _) rfl ?_
  refine w_icmp_ne (Ev.cm _) rfl (fun c1 => ?_) (fun c1 => ?_)
  · have c1 : ¬ (r1 = (-1)) := c1
    rw [if_neg c1] at q
    refine w_iconst (Ev.cm _) rfl ?_
    refine w_ireturn (Ev.cm _) rfl trivial rf0 ?_
    cases q
    exact g
  · have c1 : r1 = (-1) := c1
    rw [if_pos c1] at q
    refine w_iconst (Ev.cm _) rfl ?_
    refine w_goto (Ev.cm _) rfl ?_
    refine w_ireturn (Ev.cm _) rfl trivial rf0 ?_
    cases q
    exact g
def FO_X_doubt (fu : Nat) (I : Nat → Nat → Int32) (L : Nat → Nat → Int64) : Option (Int32 × (Nat → Nat → Int32) × (Nat → Nat → Int64)) := (FO_C_shortestDoubt fu  I L).bind (fun u1 => let r1 := u1.1; let I1 := u1.2.1; let L1 := u1.2.2; some (r1, I1, L1))
set_option maxHeartbeats 20000000 in
set_option maxRecDepth 20000 in
theorem eo_X_doubt {d fu : Nat} {I : Nat → Nat → Int32} {L : Nat → Nat → Int64} {X : Nat × (Nat → Int32)} {Q : PQ} {res : Int32 × (Nat → Nat → Int32) × (Nat → Nat → Int64)}  (g : Q (some (.int res.1)) (HS res.2.1 res.2.2 X)) (q : FO_X_doubt fu  I L = some res) : Ev (d + 5) m_X_doubt [.ref 0] (HS I L X) Q := by
  unfold FO_X_doubt at q
  refine ev_start (d := d + 4) rfl rfl rfl (Nat.le_of_ble_eq_true rfl) ?_
  show Wp (Ev (d + 4)) cd_X_doubt (0, 0) (some .int) _ _ Q 0 [(0, .ref 0)] [] (HS I L X)
  refine w_aload_n (Ev.cm _) rfl rfl ?_
  refine w_getR (q := 325) (Ev.cm _) rfl (Nat.le_of_ble_eq_true rfl) rfl rfl ?_
  refine w_aload_n (Ev.cm _) rfl rfl ?_
  refine w_getR (q := 1) (Ev.cm _) rfl (Nat.le_of_ble_eq_true rfl) rfl rfl ?_
  obtain ⟨⟨r1, I1, L1⟩, e1, q⟩ := obs q
  dsimp only at q
  refine w_cvirt (o := 325) (as := [.ref 1]) (st := []) (Ev.cm _) rfl rfl rfl (Nat.le_of_ble_eq_true rfl) (Nat.le_of_ble_eq_true rfl) rfl (Nat.le_of_ble_eq_true rfl) (eo_C_shortestDoubt (g := ?_) e1)
  show Wp _ _ _ _ _ _ _ 11 [(0, .ref 0)] [.int r1] (HS I1 L1 X)
  refine w_ireturn (Ev.cm _) rfl trivial rf0 ?_
  cases q
  exact g
def LO_X_whose_4 (fu : Nat) : Nat → Int32 → Int32 → (Nat → Nat → Int32) → (Nat → Nat → Int64) → Option (Int32 × (Nat → Nat → Int32) × (Nat → Nat → Int64))
  | 0, _, _, _, _ => none
  | n + 1, x1, x2, I, L => if I 1 6 ≤ x2 then (some (x1, I, L)) else (if isLib I x2 then ((FO_X_agreesWithSaid_o fu (274 + 8 * x2.toNatClampNeg) I L).bind (fun u1 => let r1 := u1.1; let I1 := u1.2.1; let L1 := u1.2.2; if r1 = 0 then (LO_X_whose_4 fu n x1 (x2 + 1) I1 L1) else (LO_X_whose_4 fu n (x1 ||| ((1 : Int32) <<< (x2 &&& 31))) (x2 + 1) I1 L1))) else ((FO_X_agreesWithSaid_n fu  I L).bind (fun u2 => let r2 := u2.1; let I2 := u2.2.1; let L2 := u2.2.2; if r2 = 0 then (LO_X_whose_4 fu n x1 (x2 + 1) I2 L2) else (LO_X_whose_4 fu n (x1 ||| ((1 : Int32) <<< (x2 &&& 31))) (x2 + 1) I2 L2))))
set_option maxHeartbeats 20000000 in
set_option maxRecDepth 20000 in
theorem lo_X_whose_4 {d fu n0 s0 : Nat} {X : Nat × (Nat → Int32)} {Q : PQ} {res : Int32 × (Nat → Nat → Int32) × (Nat → Nat → Int64)}  (g : Q (some (.int res.1)) (HS res.2.1 res.2.2 X)) : ∀ (n : Nat) (x1 : Int32) (x2 : Int32) (I : Nat → Nat → Int32) (L : Nat → Nat → Int64), LO_X_whose_4 fu n x1 x2 I L = some res → Wp (Ev (d + 5)) cd_X_whose (0, 0) (some .int) n0 s0 Q 4 [(0, .ref 0), (1, .int x1), (2, .int x2)] [] (HS I L X) := by
  intro n
  induction n with
  | zero => intro _ _ _ _ q; cases q
  | succ n ih =>
    intro x1 x2 I L q
    unfold LO_X_whose_4 at q
    refine w_iload_n (Ev.cm _) rfl rfl ?_
    refine w_aload_n (Ev.cm _) rfl rfl ?_
    refine w_getR (q := 1) (Ev.cm _) rfl (Nat.le_of_ble_eq_true rfl) rfl rfl ?_
    refine w_getI (Ev.cm _) rfl (Nat.le_of_ble_eq_true rfl) rfl ?_
    refine w_icmp_ge (Ev.cm _) rfl (fun c1 => ?_) (fun c1 => ?_)
    · have c1 : I 1 6 ≤ x2 := c1
      rw [if_pos c1] at q
      refine w_iload_n (Ev.cm _) rfl rfl ?_
      refine w_ireturn (Ev.cm _) rfl trivial rf0 ?_
      cases q
      exact g
    · have c1 : ¬ (I 1 6 ≤ x2) := c1
      rw [if_neg c1] at q
      refine w_aload_n (Ev.cm _) rfl rfl ?_
      refine w_aload_n (Ev.cm _) rfl rfl ?_
      refine w_iload_n (Ev.cm _) rfl rfl ?_
      rcases Decidable.em (isLib I x2) with c2 | c2
      · rw [if_pos c2] at q
        refine w_cvirt (o := 0) (as := [.int x2]) (st := [.ref 0]) (Ev.cm _) rfl rfl rfl (Nat.le_of_ble_eq_true rfl) (Nat.le_of_ble_eq_true rfl) rfl (Nat.le_of_ble_eq_true rfl) (x_textOf_t c2 ?_)
        show Wp _ _ _ _ _ _ _ 21 [(0, .ref 0), (1, .int x1), (2, .int x2)] [.ref (274 + 8 * x2.toNatClampNeg), .ref 0] (HS I L X)
        obtain ⟨⟨r1, I1, L1⟩, e1, q⟩ := obs q
        dsimp only at q
        refine w_cvirt (o := 0) (as := [.ref (274 + 8 * x2.toNatClampNeg)]) (st := []) (Ev.cm _) rfl rfl rfl (Nat.le_of_ble_eq_true rfl) (Nat.le_of_ble_eq_true rfl) rfl (Nat.le_of_ble_eq_true rfl) (eo_X_agreesWithSaid_o (isT_lib c2) (g := ?_) e1)
        show Wp _ _ _ _ _ _ _ 24 [(0, .ref 0), (1, .int x1), (2, .int x2)] [.int r1] (HS I1 L1 X)
        refine w_if_eq (Ev.cm _) rfl (fun c3 => ?_) (fun c3 => ?_)
        · have c3 : r1 = 0 := c3
          rw [if_pos c3] at q
          refine w_iinc (ls2 := [(0, .ref 0), (1, .int x1), (2, .int (x2 + 1))]) (Ev.cm _) rfl rfl rfl ?_
          refine w_goto (Ev.cm _) rfl ?_
          show Wp _ _ _ _ _ _ _ 4 [(0, .ref 0), (1, .int x1), (2, .int (x2 + 1))] [] (HS I1 L1 X)
          refine Wp.sub [0, 1, 2] (ls2 := [(0, .ref 0), (1, .int x1), (2, .int (x2 + 1))]) rfl ?_
          exact ih _ _ _ _ q
        · have c3 : ¬ (r1 = 0) := c3
          rw [if_neg c3] at q
          refine w_iload_n (Ev.cm _) rfl rfl ?_
          refine w_iconst (Ev.cm _) rfl ?_
          refine w_iload_n (Ev.cm _) rfl rfl ?_
          refine w_ishl (Ev.cm _) rfl ?_
          refine w_ior (Ev.cm _) rfl ?_
          refine w_istore_n (ls2 := [(0, .ref 0), (1, .int (x1 ||| ((1 : Int32) <<< (x2 &&& 31)))), (2, .int x2)]) (Ev.cm _) rfl rfl ?_
          refine w_iinc (ls2 := [(0, .ref 0), (1, .int (x1 ||| ((1 : Int32) <<< (x2 &&& 31)))), (2, .int (x2 + 1))]) (Ev.cm _) rfl rfl rfl ?_
          refine w_goto (Ev.cm _) rfl ?_
          show Wp _ _ _ _ _ _ _ 4 [(0, .ref 0), (1, .int (x1 ||| ((1 : Int32) <<< (x2 &&& 31)))), (2, .int (x2 + 1))] [] (HS I1 L1 X)
          refine Wp.sub [0, 1, 2] (ls2 := [(0, .ref 0), (1, .int (x1 ||| ((1 : Int32) <<< (x2 &&& 31)))), (2, .int (x2 + 1))]) rfl ?_
          exact ih _ _ _ _ q
      · rw [if_neg c2] at q
        refine w_cvirt (o := 0) (as := [.int x2]) (st := [.ref 0]) (Ev.cm _) rfl rfl rfl (Nat.le_of_ble_eq_true rfl) (Nat.le_of_ble_eq_true rfl) rfl (Nat.le_of_ble_eq_true rfl) (x_textOf_n c2 ?_)
        show Wp _ _ _ _ _ _ _ 21 [(0, .ref 0), (1, .int x1), (2, .int x2)] [.null, .ref 0] (HS I L X)
        obtain ⟨⟨r2, I2, L2⟩, e2, q⟩ := obs q
        dsimp only at q
        refine w_cvirt (o := 0) (as := [.null]) (st := []) (Ev.cm _) rfl rfl rfl (Nat.le_of_ble_eq_true rfl) (Nat.le_of_ble_eq_true rfl) rfl (Nat.le_of_ble_eq_true rfl) (eo_X_agreesWithSaid_n (g := ?_) e2)
        show Wp _ _ _ _ _ _ _ 24 [(0, .ref 0), (1, .int x1), (2, .int x2)] [.int r2] (HS I2 L2 X)
        refine w_if_eq (Ev.cm _) rfl (fun c4 => ?_) (fun c4 => ?_)
        · have c4 : r2 = 0 := c4
          rw [if_pos c4] at q
          refine w_iinc (ls2 := [(0, .ref 0), (1, .int x1), (2, .int (x2 + 1))]) (Ev.cm _) rfl rfl rfl ?_
          refine w_goto (Ev.cm _) rfl ?_
          show Wp _ _ _ _ _ _ _ 4 [(0, .ref 0), (1, .int x1), (2, .int (x2 + 1))] [] (HS I2 L2 X)
          refine Wp.sub [0, 1, 2] (ls2 := [(0, .ref 0), (1, .int x1), (2, .int (x2 + 1))]) rfl ?_
          exact ih _ _ _ _ q
        · have c4 : ¬ (r2 = 0) := c4
          rw [if_neg c4] at q
          refine w_iload_n (Ev.cm _) rfl rfl ?_
          refine w_iconst (Ev.cm _) rfl ?_
          refine w_iload_n (Ev.cm _) rfl rfl ?_
          refine w_ishl (Ev.cm _) rfl ?_
          refine w_ior (Ev.cm _) rfl ?_
          refine w_istore_n (ls2 := [(0, .ref 0), (1, .int (x1 ||| ((1 : Int32) <<< (x2 &&& 31)))), (2, .int x2)]) (Ev.cm _) rfl rfl ?_
          refine w_iinc (ls2 := [(0, .ref 0), (1, .int (x1 ||| ((1 : Int32) <<< (x2 &&& 31)))), (2, .int (x2 + 1))]) (Ev.cm _) rfl rfl rfl ?_
          refine w_goto (Ev.cm _) rfl ?_
          show Wp _ _ _ _ _ _ _ 4 [(0, .ref 0), (1, .int (x1 ||| ((1 : Int32) <<< (x2 &&& 31)))), (2, .int (x2 + 1))] [] (HS I2 L2 X)
          refine Wp.sub [0, 1, 2] (ls2 := [(0, .ref 0), (1, .int (x1 ||| ((1 : Int32) <<< (x2 &&& 31)))), (2, .int (x2 + 1))]) rfl ?_
          exact ih _ _ _ _ q
def FO_X_whose (fu : Nat) (I : Nat → Nat → Int32) (L : Nat → Nat → Int64) : Option (Int32 × (Nat → Nat → Int32) × (Nat → Nat → Int64)) := LO_X_whose_4 fu fu 0 0 I L
set_option maxHeartbeats 20000000 in
set_option maxRecDepth 20000 in
theorem eo_X_whose {d fu : Nat} {I : Nat → Nat → Int32} {L : Nat → Nat → Int64} {X : Nat × (Nat → Int32)} {Q : PQ} {res : Int32 × (Nat → Nat → Int32) × (Nat → Nat → Int64)}  (g : Q (some (.int res.1)) (HS res.2.1 res.2.2 X)) (q : FO_X_whose fu  I L = some res) : Ev (d + 6) m_X_whose [.ref 0] (HS I L X) Q := by
  unfold FO_X_whose at q
  refine ev_start (d := d + 5) rfl rfl rfl (Nat.le_of_ble_eq_true rfl) ?_
  show Wp (Ev (d + 5)) cd_X_whose (0, 0) (some .int) _ _ Q 0 [(0, .ref 0)] [] (HS I L X)
  refine w_iconst (Ev.cm _) rfl ?_
  refine w_istore_n (ls2 := [(0, .ref 0), (1, .int 0)]) (Ev.cm _) rfl rfl ?_
  refine w_iconst (Ev.cm _) rfl ?_
  refine w_istore_n (ls2 := [(0, .ref 0), (1, .int 0), (2, .int 0)]) (Ev.cm _) rfl rfl ?_
  show Wp _ _ _ _ _ _ _ 4 [(0, .ref 0), (1, .int 0), (2, .int 0)] [] (HS I L X)
  refine Wp.sub [0, 1, 2] (ls2 := [(0, .ref 0), (1, .int 0), (2, .int 0)]) rfl ?_
  exact lo_X_whose_4 g fu _ _ _ _ q
def FO_X_go (fu : Nat) (p0 : Int32) (p1 : Int32) (I : Nat → Nat → Int32) (L : Nat → Nat → Int64) : Option (Int32 × (Nat → Nat → Int32) × (Nat → Nat → Int64)) := if 0 ≤ p0 ∧ p0 < 6 then (if p1 ≤ 0 then ((FO_X_loudness fu p0 ((I 3 p0.toNatClampNeg) + p1) 0 I L).bind (fun u2 => let r2 := u2.1; let I2 := u2.2.1; let L2 := u2.2.2; if 0 ≤ p0 ∧ p0 < 6 then (if 0 ≤ p0 ∧ p0 < 6 then (if 0 ≤ p0 ∧ p0 < 6 then (if r2 ≤ 0 then (some (r2, sI (sI I2 3 p0.toNatClampNeg ((I 3 p0.toNatClampNeg) + p1)) 4 p0.toNatClampNeg (F_J_min (sI I2 3 p0.toNatClampNeg ((I 3 p0.toNatClampNeg) + p1)) ((I2 4 p0.toNatClampNeg) + 1) 9999), L2)) else ((FO_H_write fu ((I 3 p0.toNatClampNeg) + p1) r2 (sI (sI I2 3 p0.toNatClampNeg ((I 3 p0.toNatClampNeg) + p1)) 4 p0.toNatClampNeg (F_J_min (sI I2 3 p0.toNatClampNeg ((I 3 p0.toNatClampNeg) + p1)) ((I2 4 p0.toNatClampNeg) + 1) 9999)) L2).bind (fun u6 => let r6 := u6.1; let I6 := u6.2.1; let L6 := u6.2.2; some (r2, I6, L6)))) else none) else none) else none)) else ((FO_X_loudness fu p0 ((I 3 p0.toNatClampNeg) + p1) 1 I L).bind (fun u7 => let r7 := u7.1; let I7 := u7.2.1; let L7 := u7.2.2; if 0 ≤ p0 ∧ p0 < 6 then (if 0 ≤ p0 ∧ p0 < 6 then (if 0 ≤ p0 ∧ p0 < 6 then (if r7 ≤ 0 then (some (r7, sI (sI I7 3 p0.toNatClampNeg ((I 3 p0.toNatClampNeg) + p1)) 4 p0.toNatClampNeg (F_J_min (sI I7 3 p0.toNatClampNeg ((I 3 p0.toNatClampNeg) + p1)) ((I7 4 p0.toNatClampNeg) + 1) 9999), L7)) else ((FO_H_write fu ((I 3 p0.toNatClampNeg) + p1) r7 (sI (sI I7 3 p0.toNatClampNeg ((I 3 p0.toNatClampNeg) + p1)) 4 p0.toNatClampNeg (F_J_min (sI I7 3 p0.toNatClampNeg ((I 3 p0.toNatClampNeg) + p1)) ((I7 4 p0.toNatClampNeg) + 1) 9999)) L7).bind (fun u11 => let r11 := u11.1; let I11 := u11.2.1; let L11 := u11.2.2; some (r7, I11, L11)))) else none) else none) else none))) else none
set_option maxHeartbeats 20000000 in
set_option maxRecDepth 20000 in
theorem eo_X_go {d fu : Nat} {p0 : Int32} {p1 : Int32} {I : Nat → Nat → Int32} {L : Nat → Nat → Int64} {X : Nat × (Nat → Int32)} {Q : PQ} {res : Int32 × (Nat → Nat → Int32) × (Nat → Nat → Int64)}  (g : Q (some (.int res.1)) (HS res.2.1 res.2.2 X)) (q : FO_X_go fu p0 p1 I L = some res) : Ev (d + 6) m_X_go [.ref 0, .int p0, .int p1] (HS I L X) Q := by
  unfold FO_X_go at q
  refine ev_start (d := d + 5) rfl rfl rfl (Nat.le_of_ble_eq_true rfl) ?_
  show Wp (Ev (d + 5)) cd_X_go (0, 0) (some .int) _ _ Q 0 [(0, .ref 0), (1, .int p0), (2, .int p1)] [] (HS I L X)
  refine w_aload_n (Ev.cm _) rfl rfl ?_
  refine w_getR (q := 1) (Ev.cm _) rfl (Nat.le_of_ble_eq_true rfl) rfl rfl ?_
  refine w_getR (q := 2) (Ev.cm _) rfl (Nat.le_of_ble_eq_true rfl) rfl rfl ?_
  refine w_astore_n (ls2 := [(0, .ref 0), (1, .int p0), (2, .int p1), (3, .ref 2)]) (Ev.cm _) rfl trivial rfl ?_
  refine w_aload_n (Ev.cm _) rfl rfl ?_
  refine w_getR (q := 3) (Ev.cm _) rfl (Nat.le_of_ble_eq_true rfl) rfl rfl ?_
  refine w_iload_n (Ev.cm _) rfl rfl ?_
  obtain ⟨b1, q⟩ := ois q
  refine w_iald (Ev.cm _) rfl (Nat.le_of_ble_eq_true rfl) rfl (show vp_in p0 6 from vpI 6 (by decide) b1.1 b1.2) ?_
  refine w_iload_n (Ev.cm _) rfl rfl ?_
  refine w_iadd (Ev.cm _) rfl ?_
  refine w_istore (ls2 := [(0, .ref 0), (1, .int p0), (2, .int p1), (3, .ref 2), (4, .int ((I 3 p0.toNatClampNeg) + p1))]) (Ev.cm _) rfl rfl ?_
  refine w_aload_n (Ev.cm _) rfl rfl ?_
  refine w_iload_n (Ev.cm _) rfl rfl ?_
  refine w_iload (Ev.cm _) rfl rfl ?_
  refine w_iload_n (Ev.cm _) rfl rfl ?_
  refine w_if_le (Ev.cm _) rfl (fun c1 => ?_) (fun c1 => ?_)
  · have c1 : p1 ≤ 0 := c1
    rw [if_pos c1] at q
    refine w_iconst (Ev.cm _) rfl ?_
    obtain ⟨⟨r2, I2, L2⟩, e2, q⟩ := obs q
    dsimp only at q
    refine w_cvirt (o := 0) (as := [.int p0, .int ((I 3 p0.toNatClampNeg) + p1), .int 0]) (st := []) (Ev.cm _) rfl rfl rfl (Nat.le_of_ble_eq_true rfl) (Nat.le_of_ble_eq_true rfl) rfl (Nat.le_of_ble_eq_true rfl) (eo_X_loudness (g := ?_) e2)
    show Wp _ _ _ _ _ _ _ 34 [(0, .ref 0), (1, .int p0), (2, .int p1), (3, .ref 2), (4, .int ((I 3 p0.toNatClampNeg) + p1))] [.int r2] (HS I2 L2 X)
    refine w_istore (ls2 := [(0, .ref 0), (1, .int p0), (2, .int p1), (3, .ref 2), (4, .int ((I 3 p0.toNatClampNeg) + p1)), (5, .int r2)]) (Ev.cm _) rfl rfl ?_
    refine w_aload_n (Ev.cm _) rfl rfl ?_
    refine w_getR (q := 3) (Ev.cm _) rfl (Nat.le_of_ble_eq_true rfl) rfl rfl ?_
    refine w_iload_n (Ev.cm _) rfl rfl ?_
    refine w_iload (Ev.cm _) rfl rfl ?_
    obtain ⟨b3, q⟩ := ois q
    refine w_iast (Ev.cm _) rfl (Nat.le_of_ble_eq_true rfl) rfl (show vp_in p0 6 from vpI 6 (by decide) b3.1 b3.2) ?_
    refine w_aload_n (Ev.cm _) rfl rfl ?_
    refine w_getR (q := 4) (Ev.cm _) rfl (Nat.le_of_ble_eq_true rfl) rfl rfl ?_
    refine w_iload_n (Ev.cm _) rfl rfl ?_
    refine w_aload_n (Ev.cm _) rfl rfl ?_
    refine w_getR (q := 4) (Ev.cm _) rfl (Nat.le_of_ble_eq_true rfl) rfl rfl ?_
    refine w_iload_n (Ev.cm _) rfl rfl ?_
    obtain ⟨b4, q⟩ := ois q
    refine w_iald (Ev.cm _) rfl (Nat.le_of_ble_eq_true rfl) rfl (show vp_in p0 6 from vpI 6 (by decide) b4.1 b4.2) ?_
    refine w_iconst (Ev.cm _) rfl ?_
    refine w_iadd (Ev.cm _) rfl ?_
    refine w_sipush (Ev.cm _) rfl ?_
    refine w_cstat (as := [.int ((I2 4 p0.toNatClampNeg) + 1), .int 9999]) (st := [.int p0, .ref 4]) (Ev.cm _) rfl rfl rfl (Nat.le_of_ble_eq_true rfl) (Nat.le_of_ble_eq_true rfl) (e_J_min ?_)
    show Wp _ _ _ _ _ _ _ 63 [(0, .ref 0), (1, .int p0), (2, .int p1), (3, .ref 2), (4, .int ((I 3 p0.toNatClampNeg) + p1)), (5, .int r2)] [.int (F_J_min (sI I2 3 p0.toNatClampNeg ((I 3 p0.toNatClampNeg) + p1)) ((I2 4 p0.toNatClampNeg) + 1) 9999), .int p0, .ref 4] (HS (sI I2 3 p0.toNatClampNeg ((I 3 p0.toNatClampNeg) + p1)) L2 X)
    obtain ⟨b5, q⟩ := ois q
    refine w_iast (Ev.cm _) rfl (Nat.le_of_ble_eq_true rfl) rfl (show vp_in p0 6 from vpI 6 (by decide) b5.1 b5.2) ?_
    refine w_iload (Ev.cm _) rfl rfl ?_
    refine w_if_le (Ev.cm _) rfl (fun c2 => ?_) (fun c2 => ?_)
    · have c2 : r2 ≤ 0 := c2
      rw [if_pos c2] at q
      refine w_iload (Ev.cm _) rfl rfl ?_
      refine w_ireturn (Ev.cm _) rfl trivial rf0 ?_
      cases q
      exact g
    · have c2 : ¬ (r2 ≤ 0) := c2
      rw [if_neg c2] at q
      refine w_aload_n (Ev.cm _) rfl rfl ?_
      refine w_iload (Ev.cm _) rfl rfl ?_
      refine w_iload (Ev.cm _) rfl rfl ?_
      obtain ⟨⟨r6, I6, L6⟩, e6, q⟩ := obs q
      dsimp only at q
      refine w_cvirt (o := 2) (as := [.int ((I 3 p0.toNatClampNeg) + p1), .int r2]) (st := []) (Ev.cm _) rfl rfl rfl (Nat.le_of_ble_eq_true rfl) (Nat.le_of_ble_eq_true rfl) rfl (Nat.le_of_ble_eq_true rfl) (eo_H_write (g := ?_) e6)
      show Wp _ _ _ _ _ _ _ 77 [(0, .ref 0), (1, .int p0), (2, .int p1), (3, .ref 2), (4, .int ((I 3 p0.toNatClampNeg) + p1)), (5, .int r2)] [] (HS I6 L6 X)
      refine w_iload (Ev.cm _) rfl rfl ?_
      refine w_ireturn (Ev.cm _) rfl trivial rf0 ?_
      cases q
      exact g
  · have c1 : ¬ (p1 ≤ 0) := c1
    rw [if_neg c1] at q
    refine w_iconst (Ev.cm _) rfl ?_
    refine w_goto (Ev.cm _) rfl ?_
    obtain ⟨⟨r7, I7, L7⟩, e7, q⟩ := obs q
    dsimp only at q
    refine w_cvirt (o := 0) (as := [.int p0, .int ((I 3 p0.toNatClampNeg) + p1), .int 1]) (st := []) (Ev.cm _) rfl rfl rfl (Nat.le_of_ble_eq_true rfl) (Nat.le_of_ble_eq_true rfl) rfl (Nat.le_of_ble_eq_true rfl) (eo_X_loudness (g := ?_) e7)
    show Wp _ _ _ _ _ _ _ 34 [(0, .ref 0), (1, .int p0), (2, .int p1), (3, .ref 2), (4, .int ((I 3 p0.toNatClampNeg) + p1))] [.int r7] (HS I7 L7 X)
    refine w_istore (ls2 := [(0, .ref 0), (1, .int p0), (2, .int p1), (3, .ref 2), (4, .int ((I 3 p0.toNatClampNeg) + p1)), (5, .int r7)]) (Ev.cm _) rfl rfl ?_
    refine w_aload_n (Ev.cm _) rfl rfl ?_
    refine w_getR (q := 3) (Ev.cm _) rfl (Nat.le_of_ble_eq_true rfl) rfl rfl ?_
    refine w_iload_n (Ev.cm _) rfl rfl ?_
    refine w_iload (Ev.cm _) rfl rfl ?_
    obtain ⟨b8, q⟩ := ois q
    refine w_iast (Ev.cm _) rfl (Nat.le_of_ble_eq_true rfl) rfl (show vp_in p0 6 from vpI 6 (by decide) b8.1 b8.2) ?_
    refine w_aload_n (Ev.cm _) rfl rfl ?_
    refine w_getR (q := 4) (Ev.cm _) rfl (Nat.le_of_ble_eq_true rfl) rfl rfl ?_
    refine w_iload_n (Ev.cm _) rfl rfl ?_
    refine w_aload_n (Ev.cm _) rfl rfl ?_
    refine w_getR (q := 4) (Ev.cm _) rfl (Nat.le_of_ble_eq_true rfl) rfl rfl ?_
    refine w_iload_n (Ev.cm _) rfl rfl ?_
    obtain ⟨b9, q⟩ := ois q
    refine w_iald (Ev.cm _) rfl (Nat.le_of_ble_eq_true rfl) rfl (show vp_in p0 6 from vpI 6 (by decide) b9.1 b9.2) ?_
    refine w_iconst (Ev.cm _) rfl ?_
    refine w_iadd (Ev.cm _) rfl ?_
    refine w_sipush (Ev.cm _) rfl ?_
    refine w_cstat (as := [.int ((I7 4 p0.toNatClampNeg) + 1), .int 9999]) (st := [.int p0, .ref 4]) (Ev.cm _) rfl rfl rfl (Nat.le_of_ble_eq_true rfl) (Nat.le_of_ble_eq_true rfl) (e_J_min ?_)
    show Wp _ _ _ _ _ _ _ 63 [(0, .ref 0), (1, .int p0), (2, .int p1), (3, .ref 2), (4, .int ((I 3 p0.toNatClampNeg) + p1)), (5, .int r7)] [.int (F_J_min (sI I7 3 p0.toNatClampNeg ((I 3 p0.toNatClampNeg) + p1)) ((I7 4 p0.toNatClampNeg) + 1) 9999), .int p0, .ref 4] (HS (sI I7 3 p0.toNatClampNeg ((I 3 p0.toNatClampNeg) + p1)) L7 X)
    obtain ⟨b10, q⟩ := ois q
    refine w_iast (Ev.cm _) rfl (Nat.le_of_ble_eq_true rfl) rfl (show vp_in p0 6 from vpI 6 (by decide) b10.1 b10.2) ?_
    refine w_iload (Ev.cm _) rfl rfl ?_
    refine w_if_le (Ev.cm _) rfl (fun c3 => ?_) (fun c3 => ?_)
    · have c3 : r7 ≤ 0 := c3
      rw [if_pos c3] at q
      refine w_iload (Ev.cm _) rfl rfl ?_
      refine w_ireturn (Ev.cm _) rfl trivial rf0 ?_
      cases q
      exact g
    · have c3 : ¬ (r7 ≤ 0) := c3
      rw [if_neg c3] at q
      refine w_aload_n (Ev.cm _) rfl rfl ?_
      refine w_iload (Ev.cm _) rfl rfl ?_
      refine w_iload (Ev.cm _) rfl rfl ?_
      obtain ⟨⟨r11, I11, L11⟩, e11, q⟩ := obs q
      dsimp only at q
      refine w_cvirt (o := 2) (as := [.int ((I 3 p0.toNatClampNeg) + p1), .int r7]) (st := []) (Ev.cm _) rfl rfl rfl (Nat.le_of_ble_eq_true rfl) (Nat.le_of_ble_eq_true rfl) rfl (Nat.le_of_ble_eq_true rfl) (eo_H_write (g := ?_) e11)
      show Wp _ _ _ _ _ _ _ 77 [(0, .ref 0), (1, .int p0), (2, .int p1), (3, .ref 2), (4, .int ((I 3 p0.toNatClampNeg) + p1)), (5, .int r7)] [] (HS I11 L11 X)
      refine w_iload (Ev.cm _) rfl rfl ?_
      refine w_ireturn (Ev.cm _) rfl trivial rf0 ?_
      cases q
      exact g
def LO_X_passHour_34 (fu : Nat) : Nat → Int32 → Int32 → (Nat → Nat → Int32) → (Nat → Nat → Int64) → Option (Int32 × (Nat → Nat → Int32) × (Nat → Nat → Int64))
  | 0, _, _, _, _ => none
  | n + 1, x2, x3, I, L => if F_X_tenants I  ≤ x3 then (some (x2, sI I 2 0 ((I 2 0) + 1), L)) else (if F_X_goesBy I (iR (I 2 1) 4) = 0 then (LO_X_passHour_34 fu n x2 (x3 + 1) (sI I 2 1 (F_X_afterX I (I 2 1))) L) else ((FO_X_canGo fu x3 (F_X_goesBy I (iR (I 2 1) 4)) (sI I 2 1 (F_X_afterX I (I 2 1))) L).bind (fun u1 => let r1 := u1.1; let I1 := u1.2.1; let L1 := u1.2.2; if r1 = 0 then (LO_X_passHour_34 fu n x2 (x3 + 1) I1 L1) else ((FO_X_go fu x3 (F_X_goesBy I (iR (I 2 1) 4)) I1 L1).bind (fun u2 => let r2 := u2.1; let I2 := u2.2.1; let L2 := u2.2.2; if r2 ≤ 0 then (LO_X_passHour_34 fu n x2 (x3 + 1) I2 L2) else (LO_X_passHour_34 fu n (x2 + 1) (x3 + 1) I2 L2))))))
set_option maxHeartbeats 20000000 in
set_option maxRecDepth 20000 in
theorem lo_X_passHour_34 {d fu n0 s0 : Nat} {X : Nat × (Nat → Int32)} {Q : PQ} {res : Int32 × (Nat → Nat → Int32) × (Nat → Nat → Int64)}  (g : Q (some (.int res.1)) (HS res.2.1 res.2.2 X)) : ∀ (n : Nat) (x2 : Int32) (x3 : Int32) (I : Nat → Nat → Int32) (L : Nat → Nat → Int64), LO_X_passHour_34 fu n x2 x3 I L = some res → Wp (Ev (d + 6)) cd_X_passHour (0, 0) (some .int) n0 s0 Q 34 [(0, .ref 0), (1, .ref 2), (2, .int x2), (3, .int x3)] [] (HS I L X) := by
  intro n
  induction n with
  | zero => intro _ _ _ _ q; cases q
  | succ n ih =>
    intro x2 x3 I L q
    unfold LO_X_passHour_34 at q
    refine w_iload_n (Ev.cm _) rfl rfl ?_
    refine w_aload_n (Ev.cm _) rfl rfl ?_
    refine w_cvirt (o := 0) (as := []) (st := [.int x3]) (Ev.cm _) rfl rfl rfl (Nat.le_of_ble_eq_true rfl) (Nat.le_of_ble_eq_true rfl) rfl (Nat.le_of_ble_eq_true rfl) (e_X_tenants ?_)
    show Wp _ _ _ _ _ _ _ 39 [(0, .ref 0), (1, .ref 2), (2, .int x2), (3, .int x3)] [.int (F_X_tenants I ), .int x3] (HS I L X)
    refine w_icmp_ge (Ev.cm _) rfl (fun c1 => ?_) (fun c1 => ?_)
    · have c1 : F_X_tenants I  ≤ x3 := c1
      rw [if_pos c1] at q
      refine w_aload_n (Ev.cm _) rfl rfl ?_
      refine w_dup (Ev.cm _) rfl rfl ?_
      refine w_getI (Ev.cm _) rfl (Nat.le_of_ble_eq_true rfl) rfl ?_
      refine w_iconst (Ev.cm _) rfl ?_
      refine w_iadd (Ev.cm _) rfl ?_
      refine w_putI (Ev.cm _) rfl (Nat.le_of_ble_eq_true rfl) rfl ?_
      refine w_iload_n (Ev.cm _) rfl rfl ?_
      refine w_ireturn (Ev.cm _) rfl trivial rf0 ?_
      cases q
      exact g
    · have c1 : ¬ (F_X_tenants I  ≤ x3) := c1
      rw [if_neg c1] at q
      refine w_aload_n (Ev.cm _) rfl rfl ?_
      refine w_getI (Ev.cm _) rfl (Nat.le_of_ble_eq_true rfl) rfl ?_
      refine w_iconst (Ev.cm _) rfl ?_
      refine w_irem (Ev.cm _) rfl (by decide) ?_
      refine w_cstat (as := [.int (iR (I 2 1) 4)]) (st := []) (Ev.cm _) rfl rfl rfl (Nat.le_of_ble_eq_true rfl) (Nat.le_of_ble_eq_true rfl) (e_X_goesBy ?_)
      show Wp _ _ _ _ _ _ _ 51 [(0, .ref 0), (1, .ref 2), (2, .int x2), (3, .int x3)] [.int (F_X_goesBy I (iR (I 2 1) 4))] (HS I L X)
      refine w_istore (ls2 := [(0, .ref 0), (1, .ref 2), (2, .int x2), (3, .int x3), (4, .int (F_X_goesBy I (iR (I 2 1) 4)))]) (Ev.cm _) rfl rfl ?_
      refine w_aload_n (Ev.cm _) rfl rfl ?_
      refine w_aload_n (Ev.cm _) rfl rfl ?_
      refine w_getI (Ev.cm _) rfl (Nat.le_of_ble_eq_true rfl) rfl ?_
      refine w_cstat (as := [.int (I 2 1)]) (st := [.ref 2]) (Ev.cm _) rfl rfl rfl (Nat.le_of_ble_eq_true rfl) (Nat.le_of_ble_eq_true rfl) (e_X_afterX ?_)
      show Wp _ _ _ _ _ _ _ 61 [(0, .ref 0), (1, .ref 2), (2, .int x2), (3, .int x3), (4, .int (F_X_goesBy I (iR (I 2 1) 4)))] [.int (F_X_afterX I (I 2 1)), .ref 2] (HS I L X)
      refine w_putI (Ev.cm _) rfl (Nat.le_of_ble_eq_true rfl) rfl ?_
      refine w_iload (Ev.cm _) rfl rfl ?_
      refine w_if_eq (Ev.cm _) rfl (fun c2 => ?_) (fun c2 => ?_)
      · have c2 : F_X_goesBy I (iR (I 2 1) 4) = 0 := c2
        rw [if_pos c2] at q
        refine w_iinc (ls2 := [(0, .ref 0), (1, .ref 2), (2, .int x2), (3, .int (x3 + 1)), (4, .int (F_X_goesBy I (iR (I 2 1) 4)))]) (Ev.cm _) rfl rfl rfl ?_
        refine w_goto (Ev.cm _) rfl ?_
        show Wp _ _ _ _ _ _ _ 34 [(0, .ref 0), (1, .ref 2), (2, .int x2), (3, .int (x3 + 1)), (4, .int (F_X_goesBy I (iR (I 2 1) 4)))] [] (HS (sI I 2 1 (F_X_afterX I (I 2 1))) L X)
        refine Wp.sub [0, 1, 2, 3] (ls2 := [(0, .ref 0), (1, .ref 2), (2, .int x2), (3, .int (x3 + 1))]) rfl ?_
        exact ih _ _ _ _ q
      · have c2 : ¬ (F_X_goesBy I (iR (I 2 1) 4) = 0) := c2
        rw [if_neg c2] at q
        refine w_aload_n (Ev.cm _) rfl rfl ?_
        refine w_iload_n (Ev.cm _) rfl rfl ?_
        refine w_iload (Ev.cm _) rfl rfl ?_
        obtain ⟨⟨r1, I1, L1⟩, e1, q⟩ := obs q
        dsimp only at q
        refine w_cvirt (o := 0) (as := [.int x3, .int (F_X_goesBy I (iR (I 2 1) 4))]) (st := []) (Ev.cm _) rfl rfl rfl (Nat.le_of_ble_eq_true rfl) (Nat.le_of_ble_eq_true rfl) rfl (Nat.le_of_ble_eq_true rfl) (eo_X_canGo (g := ?_) e1)
        show Wp _ _ _ _ _ _ _ 76 [(0, .ref 0), (1, .ref 2), (2, .int x2), (3, .int x3), (4, .int (F_X_goesBy I (iR (I 2 1) 4)))] [.int r1] (HS I1 L1 X)
        refine w_if_eq (Ev.cm _) rfl (fun c3 => ?_) (fun c3 => ?_)
        · have c3 : r1 = 0 := c3
          rw [if_pos c3] at q
          refine w_iinc (ls2 := [(0, .ref 0), (1, .ref 2), (2, .int x2), (3, .int (x3 + 1)), (4, .int (F_X_goesBy I (iR (I 2 1) 4)))]) (Ev.cm _) rfl rfl rfl ?_
          refine w_goto (Ev.cm _) rfl ?_
          show Wp _ _ _ _ _ _ _ 34 [(0, .ref 0), (1, .ref 2), (2, .int x2), (3, .int (x3 + 1)), (4, .int (F_X_goesBy I (iR (I 2 1) 4)))] [] (HS I1 L1 X)
          refine Wp.sub [0, 1, 2, 3] (ls2 := [(0, .ref 0), (1, .ref 2), (2, .int x2), (3, .int (x3 + 1))]) rfl ?_
          exact ih _ _ _ _ q
        · have c3 : ¬ (r1 = 0) := c3
          rw [if_neg c3] at q
          refine w_aload_n (Ev.cm _) rfl rfl ?_
          refine w_iload_n (Ev.cm _) rfl rfl ?_
          refine w_iload (Ev.cm _) rfl rfl ?_
          obtain ⟨⟨r2, I2, L2⟩, e2, q⟩ := obs q
          dsimp only at q
          refine w_cvirt (o := 0) (as := [.int x3, .int (F_X_goesBy I (iR (I 2 1) 4))]) (st := []) (Ev.cm _) rfl rfl rfl (Nat.le_of_ble_eq_true rfl) (Nat.le_of_ble_eq_true rfl) rfl (Nat.le_of_ble_eq_true rfl) (eo_X_go (g := ?_) e2)
          show Wp _ _ _ _ _ _ _ 86 [(0, .ref 0), (1, .ref 2), (2, .int x2), (3, .int x3), (4, .int (F_X_goesBy I (iR (I 2 1) 4)))] [.int r2] (HS I2 L2 X)
          refine w_if_le (Ev.cm _) rfl (fun c4 => ?_) (fun c4 => ?_)
          · have c4 : r2 ≤ 0 := c4
            rw [if_pos c4] at q
            refine w_iinc (ls2 := [(0, .ref 0), (1, .ref 2), (2, .int x2), (3, .int (x3 + 1)), (4, .int (F_X_goesBy I (iR (I 2 1) 4)))]) (Ev.cm _) rfl rfl rfl ?_
            refine w_goto (Ev.cm _) rfl ?_
            show Wp _ _ _ _ _ _ _ 34 [(0, .ref 0), (1, .ref 2), (2, .int x2), (3, .int (x3 + 1)), (4, .int (F_X_goesBy I (iR (I 2 1) 4)))] [] (HS I2 L2 X)
            refine Wp.sub [0, 1, 2, 3] (ls2 := [(0, .ref 0), (1, .ref 2), (2, .int x2), (3, .int (x3 + 1))]) rfl ?_
            exact ih _ _ _ _ q
          · have c4 : ¬ (r2 ≤ 0) := c4
            rw [if_neg c4] at q
            refine w_iinc (ls2 := [(0, .ref 0), (1, .ref 2), (2, .int (x2 + 1)), (3, .int x3), (4, .int (F_X_goesBy I (iR (I 2 1) 4)))]) (Ev.cm _) rfl rfl rfl ?_
            refine w_iinc (ls2 := [(0, .ref 0), (1, .ref 2), (2, .int (x2 + 1)), (3, .int (x3 + 1)), (4, .int (F_X_goesBy I (iR (I 2 1) 4)))]) (Ev.cm _) rfl rfl rfl ?_
            refine w_goto (Ev.cm _) rfl ?_
            show Wp _ _ _ _ _ _ _ 34 [(0, .ref 0), (1, .ref 2), (2, .int (x2 + 1)), (3, .int (x3 + 1)), (4, .int (F_X_goesBy I (iR (I 2 1) 4)))] [] (HS I2 L2 X)
            refine Wp.sub [0, 1, 2, 3] (ls2 := [(0, .ref 0), (1, .ref 2), (2, .int (x2 + 1)), (3, .int (x3 + 1))]) rfl ?_
            exact ih _ _ _ _ q
def FO_X_passHour (fu : Nat) (I : Nat → Nat → Int32) (L : Nat → Nat → Int64) : Option (Int32 × (Nat → Nat → Int32) × (Nat → Nat → Int64)) := LO_X_passHour_34 fu fu 0 0 (sI (sI I 2 2 (iR (I 2 1) 10)) 2 1 (F_X_afterX (sI I 2 2 (iR (I 2 1) 10)) (I 2 1))) L
set_option maxHeartbeats 20000000 in
set_option maxRecDepth 20000 in
theorem eo_X_passHour {d fu : Nat} {I : Nat → Nat → Int32} {L : Nat → Nat → Int64} {X : Nat × (Nat → Int32)} {Q : PQ} {res : Int32 × (Nat → Nat → Int32) × (Nat → Nat → Int64)}  (g : Q (some (.int res.1)) (HS res.2.1 res.2.2 X)) (q : FO_X_passHour fu  I L = some res) : Ev (d + 7) m_X_passHour [.ref 0] (HS I L X) Q := by
  unfold FO_X_passHour at q
  refine ev_start (d := d + 6) rfl rfl rfl (Nat.le_of_ble_eq_true rfl) ?_
  show Wp (Ev (d + 6)) cd_X_passHour (0, 0) (some .int) _ _ Q 0 [(0, .ref 0)] [] (HS I L X)
  refine w_aload_n (Ev.cm _) rfl rfl ?_
  refine w_getR (q := 1) (Ev.cm _) rfl (Nat.le_of_ble_eq_true rfl) rfl rfl ?_
  refine w_getR (q := 2) (Ev.cm _) rfl (Nat.le_of_ble_eq_true rfl) rfl rfl ?_
  refine w_astore_n (ls2 := [(0, .ref 0), (1, .ref 2)]) (Ev.cm _) rfl trivial rfl ?_
  refine w_iconst (Ev.cm _) rfl ?_
  refine w_istore_n (ls2 := [(0, .ref 0), (1, .ref 2), (2, .int 0)]) (Ev.cm _) rfl rfl ?_
  refine w_aload_n (Ev.cm _) rfl rfl ?_
  refine w_aload_n (Ev.cm _) rfl rfl ?_
  refine w_getI (Ev.cm _) rfl (Nat.le_of_ble_eq_true rfl) rfl ?_
  refine w_bipush (Ev.cm _) rfl ?_
  refine w_irem (Ev.cm _) rfl (by decide) ?_
  refine w_putI (Ev.cm _) rfl (Nat.le_of_ble_eq_true rfl) rfl ?_
  refine w_aload_n (Ev.cm _) rfl rfl ?_
  refine w_aload_n (Ev.cm _) rfl rfl ?_
  refine w_getI (Ev.cm _) rfl (Nat.le_of_ble_eq_true rfl) rfl ?_
  refine w_cstat (as := [.int (I 2 1)]) (st := [.ref 2]) (Ev.cm _) rfl rfl rfl (Nat.le_of_ble_eq_true rfl) (Nat.le_of_ble_eq_true rfl) (e_X_afterX ?_)
  show Wp _ _ _ _ _ _ _ 29 [(0, .ref 0), (1, .ref 2), (2, .int 0)] [.int (F_X_afterX (sI I 2 2 (iR (I 2 1) 10)) (I 2 1)), .ref 2] (HS (sI I 2 2 (iR (I 2 1) 10)) L X)
  refine w_putI (Ev.cm _) rfl (Nat.le_of_ble_eq_true rfl) rfl ?_
  refine w_iconst (Ev.cm _) rfl ?_
  refine w_istore_n (ls2 := [(0, .ref 0), (1, .ref 2), (2, .int 0), (3, .int 0)]) (Ev.cm _) rfl rfl ?_
  show Wp _ _ _ _ _ _ _ 34 [(0, .ref 0), (1, .ref 2), (2, .int 0), (3, .int 0)] [] (HS (sI (sI I 2 2 (iR (I 2 1) 10)) 2 1 (F_X_afterX (sI I 2 2 (iR (I 2 1) 10)) (I 2 1))) L X)
  refine Wp.sub [0, 1, 2, 3] (ls2 := [(0, .ref 0), (1, .ref 2), (2, .int 0), (3, .int 0)]) rfl ?_
  exact lo_X_passHour_34 g fu _ _ _ _ q
def LO_R_sum_8 (fu : Nat) (kO : Int32 → Int32 → (Nat → Nat → Int32) → (Nat → Nat → Int64) → Option (Int32 × (Nat → Nat → Int32) × (Nat → Nat → Int64))) (kA : Int32 → (Nat → Nat → Int32) → (Nat → Nat → Int64) → Option (Int32 × (Nat → Nat → Int32) × (Nat → Nat → Int64))) : Nat → Int32 → Int32 → Int32 → (Nat → Nat → Int32) → (Nat → Nat → Int64) → Option (Int32 × (Nat → Nat → Int32) × (Nat → Nat → Int64))
  | 0, _, _, _, _, _ => none
  | n + 1, x1, x2, x3, I, L => if 300 < x3 then (if x2 = 0 ∨ x2 = 1 then (some (x2, I, L)) else none) else (if x2 = 0 then (if x2 = 0 ∨ x2 = 1 then (some (x2, I, L)) else none) else (if I 307 9 = 14 then ((FO_R_comeTo fu ((I 307 8) + 1) I L).bind (fun u3 => let r3 := u3.1; let I3 := u3.2.1; let L3 := u3.2.2; (FO_R_product fu kO kA x1 I3 L3).bind (fun u4 => let r4 := u4.1; let I4 := u4.2.1; let L4 := u4.2.2; (FO_T_addCode fu (I 307 9) 0 I4 L4).bind (fun u5 => let r5 := u5.1; let I5 := u5.2.1; let L5 := u5.2.2; LO_R_sum_8 fu kO kA n x1 r4 (x3 + 1) I5 L5)))) else (if I 307 9 = 15 then ((FO_R_comeTo fu ((I 307 8) + 1) I L).bind (fun u7 => let r7 := u7.1; let I7 := u7.2.1; let L7 := u7.2.2; (FO_R_product fu kO kA x1 I7 L7).bind (fun u8 => let r8 := u8.1; let I8 := u8.2.1; let L8 := u8.2.2; (FO_T_addCode fu (I 307 9) 0 I8 L8).bind (fun u9 => let r9 := u9.1; let I9 := u9.2.1; let L9 := u9.2.2; LO_R_sum_8 fu kO kA n x1 r8 (x3 + 1) I9 L9)))) else (if x2 = 0 ∨ x2 = 1 then (some (x2, I, L)) else none))))
set_option maxHeartbeats 20000000 in
set_option maxRecDepth 20000 in
theorem lo_R_sum_8 {d fu n0 s0 : Nat} {kO : Int32 → Int32 → (Nat → Nat → Int32) → (Nat → Nat → Int64) → Option (Int32 × (Nat → Nat → Int32) × (Nat → Nat → Int64))} {kA : Int32 → (Nat → Nat → Int32) → (Nat → Nat → Int64) → Option (Int32 × (Nat → Nat → Int32) × (Nat → Nat → Int64))} {X : Nat × (Nat → Int32)} {Q : PQ} {res : Int32 × (Nat → Nat → Int32) × (Nat → Nat → Int64)}  (hO : cbO (d + 4) kO) (hA : cbA (d + 4) kA) (g : Q (some (.int res.1)) (HS res.2.1 res.2.2 X)) : ∀ (n : Nat) (x1 : Int32) (x2 : Int32) (x3 : Int32) (I : Nat → Nat → Int32) (L : Nat → Nat → Int64), LO_R_sum_8 fu kO kA n x1 x2 x3 I L = some res → Wp (Ev (d + 6)) cd_R_sum (0, 0) (some .boolean) n0 s0 Q 8 [(0, .ref 307), (1, .int x1), (2, .int x2), (3, .int x3)] [] (HS I L X) := by
  intro n
  induction n with
  | zero => intro _ _ _ _ _ q; cases q
  | succ n ih =>
    intro x1 x2 x3 I L q
    unfold LO_R_sum_8 at q
    refine w_iload_n (Ev.cm _) rfl rfl ?_
    refine w_sipush (Ev.cm _) rfl ?_
    refine w_icmp_gt (Ev.cm _) rfl (fun c1 => ?_) (fun c1 => ?_)
    · have c1 : 300 < x3 := c1
      rw [if_pos c1] at q
      refine w_iload_n (Ev.cm _) rfl rfl ?_
      obtain ⟨b1, q⟩ := ois q
      refine w_ireturn (Ev.cm _) rfl (show rok (some .boolean) _ from b1) rf0 ?_
      cases q
      exact g
    · have c1 : ¬ (300 < x3) := c1
      rw [if_neg c1] at q
      refine w_iload_n (Ev.cm _) rfl rfl ?_
      refine w_if_eq (Ev.cm _) rfl (fun c2 => ?_) (fun c2 => ?_)
      · have c2 : x2 = 0 := c2
        rw [if_pos c2] at q
        refine w_iload_n (Ev.cm _) rfl rfl ?_
        obtain ⟨b2, q⟩ := ois q
        refine w_ireturn (Ev.cm _) rfl (show rok (some .boolean) _ from b2) rf0 ?_
        cases q
        exact g
      · have c2 : ¬ (x2 = 0) := c2
        rw [if_neg c2] at q
        refine w_aload_n (Ev.cm _) rfl rfl ?_
        refine w_getI (Ev.cm _) rfl (Nat.le_of_ble_eq_true rfl) rfl ?_
        refine w_bipush (Ev.cm _) rfl ?_
        refine w_icmp_eq (Ev.cm _) rfl (fun c3 => ?_) (fun c3 => ?_)
        · have c3 : I 307 9 = 14 := c3
          rw [if_pos c3] at q
          refine w_aload_n (Ev.cm _) rfl rfl ?_
          refine w_getI (Ev.cm _) rfl (Nat.le_of_ble_eq_true rfl) rfl ?_
          refine w_istore (ls2 := [(0, .ref 307), (1, .int x1), (2, .int x2), (3, .int x3), (4, .int (I 307 9))]) (Ev.cm _) rfl rfl ?_
          refine w_aload_n (Ev.cm _) rfl rfl ?_
          refine w_aload_n (Ev.cm _) rfl rfl ?_
          refine w_getI (Ev.cm _) rfl (Nat.le_of_ble_eq_true rfl) rfl ?_
          refine w_iconst (Ev.cm _) rfl ?_
          refine w_iadd (Ev.cm _) rfl ?_
          obtain ⟨⟨r3, I3, L3⟩, e3, q⟩ := obs q
          dsimp only at q
          refine w_cvirt (o := 307) (as := [.int ((I 307 8) + 1)]) (st := []) (Ev.cm _) rfl rfl rfl (Nat.le_of_ble_eq_true rfl) (Nat.le_of_ble_eq_true rfl) rfl (Nat.le_of_ble_eq_true rfl) (eo_R_comeTo (g := ?_) e3)
          show Wp _ _ _ _ _ _ _ 53 [(0, .ref 307), (1, .int x1), (2, .int x2), (3, .int x3), (4, .int (I 307 9))] [] (HS I3 L3 X)
          refine w_aload_n (Ev.cm _) rfl rfl ?_
          refine w_iload_n (Ev.cm _) rfl rfl ?_
          obtain ⟨⟨r4, I4, L4⟩, e4, q⟩ := obs q
          dsimp only at q
          refine w_cvirt (o := 307) (as := [.int x1]) (st := []) (Ev.cm _) rfl rfl rfl (Nat.le_of_ble_eq_true rfl) (Nat.le_of_ble_eq_true rfl) rfl (Nat.le_of_ble_eq_true rfl) (ev_le (show d + 6 ≤ d + 6 by omega) (eo_R_product (d := d) hO hA (g := ?_) e4))
          show Wp _ _ _ _ _ _ _ 58 [(0, .ref 307), (1, .int x1), (2, .int x2), (3, .int x3), (4, .int (I 307 9))] [.int r4] (HS I4 L4 X)
          refine w_istore_n (ls2 := [(0, .ref 307), (1, .int x1), (2, .int r4), (3, .int x3), (4, .int (I 307 9))]) (Ev.cm _) rfl rfl ?_
          refine w_aload_n (Ev.cm _) rfl rfl ?_
          refine w_getR (q := 308) (Ev.cm _) rfl (Nat.le_of_ble_eq_true rfl) rfl rfl ?_
          refine w_iload (Ev.cm _) rfl rfl ?_
          refine w_iconst (Ev.cm _) rfl ?_
          obtain ⟨⟨r5, I5, L5⟩, e5, q⟩ := obs q
          dsimp only at q
          refine w_cvirt (o := 308) (as := [.int (I 307 9), .int 0]) (st := []) (Ev.cm _) rfl rfl rfl (Nat.le_of_ble_eq_true rfl) (Nat.le_of_ble_eq_true rfl) rfl (Nat.le_of_ble_eq_true rfl) (eo_T_addCode (g := ?_) e5)
          show Wp _ _ _ _ _ _ _ 69 [(0, .ref 307), (1, .int x1), (2, .int r4), (3, .int x3), (4, .int (I 307 9))] [.int r5] (HS I5 L5 X)
          refine w_pop (Ev.cm _) rfl rfl ?_
          refine w_iinc (ls2 := [(0, .ref 307), (1, .int x1), (2, .int r4), (3, .int (x3 + 1)), (4, .int (I 307 9))]) (Ev.cm _) rfl rfl rfl ?_
          refine w_goto (Ev.cm _) rfl ?_
          show Wp _ _ _ _ _ _ _ 8 [(0, .ref 307), (1, .int x1), (2, .int r4), (3, .int (x3 + 1)), (4, .int (I 307 9))] [] (HS I5 L5 X)
          refine Wp.sub [0, 1, 2, 3] (ls2 := [(0, .ref 307), (1, .int x1), (2, .int r4), (3, .int (x3 + 1))]) rfl ?_
          exact ih _ _ _ _ _ q
        · have c3 : ¬ (I 307 9 = 14) := c3
          rw [if_neg c3] at q
          refine w_aload_n (Ev.cm _) rfl rfl ?_
          refine w_getI (Ev.cm _) rfl (Nat.le_of_ble_eq_true rfl) rfl ?_
          refine w_bipush (Ev.cm _) rfl ?_
          refine w_icmp_ne (Ev.cm _) rfl (fun c4 => ?_) (fun c4 => ?_)
          · have c4 : ¬ (I 307 9 = 15) := c4
            rw [if_neg c4] at q
            refine w_iload_n (Ev.cm _) rfl rfl ?_
            obtain ⟨b6, q⟩ := ois q
            refine w_ireturn (Ev.cm _) rfl (show rok (some .boolean) _ from b6) rf0 ?_
            cases q
            exact g
          · have c4 : I 307 9 = 15 := c4
            rw [if_pos c4] at q
            refine w_aload_n (Ev.cm _) rfl rfl ?_
            refine w_getI (Ev.cm _) rfl (Nat.le_of_ble_eq_true rfl) rfl ?_
            refine w_istore (ls2 := [(0, .ref 307), (1, .int x1), (2, .int x2), (3, .int x3), (4, .int (I 307 9))]) (Ev.cm _) rfl rfl ?_
            refine w_aload_n (Ev.cm _) rfl rfl ?_
            refine w_aload_n (Ev.cm _) rfl rfl ?_
            refine w_getI (Ev.cm _) rfl (Nat.le_of_ble_eq_true rfl) rfl ?_
            refine w_iconst (Ev.cm _) rfl ?_
            refine w_iadd (Ev.cm _) rfl ?_
            obtain ⟨⟨r7, I7, L7⟩, e7, q⟩ := obs q
            dsimp only at q
            refine w_cvirt (o := 307) (as := [.int ((I 307 8) + 1)]) (st := []) (Ev.cm _) rfl rfl rfl (Nat.le_of_ble_eq_true rfl) (Nat.le_of_ble_eq_true rfl) rfl (Nat.le_of_ble_eq_true rfl) (eo_R_comeTo (g := ?_) e7)
            show Wp _ _ _ _ _ _ _ 53 [(0, .ref 307), (1, .int x1), (2, .int x2), (3, .int x3), (4, .int (I 307 9))] [] (HS I7 L7 X)
            refine w_aload_n (Ev.cm _) rfl rfl ?_
            refine w_iload_n (Ev.cm _) rfl rfl ?_
            obtain ⟨⟨r8, I8, L8⟩, e8, q⟩ := obs q
            dsimp only at q
            refine w_cvirt (o := 307) (as := [.int x1]) (st := []) (Ev.cm _) rfl rfl rfl (Nat.le_of_ble_eq_true rfl) (Nat.le_of_ble_eq_true rfl) rfl (Nat.le_of_ble_eq_true rfl) (ev_le (show d + 6 ≤ d + 6 by omega) (eo_R_product (d := d) hO hA (g := ?_) e8))
            show Wp _ _ _ _ _ _ _ 58 [(0, .ref 307), (1, .int x1), (2, .int x2), (3, .int x3), (4, .int (I 307 9))] [.int r8] (HS I8 L8 X)
            refine w_istore_n (ls2 := [(0, .ref 307), (1, .int x1), (2, .int r8), (3, .int x3), (4, .int (I 307 9))]) (Ev.cm _) rfl rfl ?_
            refine w_aload_n (Ev.cm _) rfl rfl ?_
            refine w_getR (q := 308) (Ev.cm _) rfl (Nat.le_of_ble_eq_true rfl) rfl rfl ?_
            refine w_iload (Ev.cm _) rfl rfl ?_
            refine w_iconst (Ev.cm _) rfl ?_
            obtain ⟨⟨r9, I9, L9⟩, e9, q⟩ := obs q
            dsimp only at q
            refine w_cvirt (o := 308) (as := [.int (I 307 9), .int 0]) (st := []) (Ev.cm _) rfl rfl rfl (Nat.le_of_ble_eq_true rfl) (Nat.le_of_ble_eq_true rfl) rfl (Nat.le_of_ble_eq_true rfl) (eo_T_addCode (g := ?_) e9)
            show Wp _ _ _ _ _ _ _ 69 [(0, .ref 307), (1, .int x1), (2, .int r8), (3, .int x3), (4, .int (I 307 9))] [.int r9] (HS I9 L9 X)
            refine w_pop (Ev.cm _) rfl rfl ?_
            refine w_iinc (ls2 := [(0, .ref 307), (1, .int x1), (2, .int r8), (3, .int (x3 + 1)), (4, .int (I 307 9))]) (Ev.cm _) rfl rfl rfl ?_
            refine w_goto (Ev.cm _) rfl ?_
            show Wp _ _ _ _ _ _ _ 8 [(0, .ref 307), (1, .int x1), (2, .int r8), (3, .int (x3 + 1)), (4, .int (I 307 9))] [] (HS I9 L9 X)
            refine Wp.sub [0, 1, 2, 3] (ls2 := [(0, .ref 307), (1, .int x1), (2, .int r8), (3, .int (x3 + 1))]) rfl ?_
            exact ih _ _ _ _ _ q
def FO_R_sum (fu : Nat) (kO : Int32 → Int32 → (Nat → Nat → Int32) → (Nat → Nat → Int64) → Option (Int32 × (Nat → Nat → Int32) × (Nat → Nat → Int64))) (kA : Int32 → (Nat → Nat → Int32) → (Nat → Nat → Int64) → Option (Int32 × (Nat → Nat → Int32) × (Nat → Nat → Int64))) (p0 : Int32) (I : Nat → Nat → Int32) (L : Nat → Nat → Int64) : Option (Int32 × (Nat → Nat → Int32) × (Nat → Nat → Int64)) := (FO_R_product fu kO kA p0 I L).bind (fun u1 => let r1 := u1.1; let I1 := u1.2.1; let L1 := u1.2.2; LO_R_sum_8 fu kO kA fu p0 r1 0 I1 L1)
set_option maxHeartbeats 20000000 in
set_option maxRecDepth 20000 in
theorem eo_R_sum {d fu : Nat} {kO : Int32 → Int32 → (Nat → Nat → Int32) → (Nat → Nat → Int64) → Option (Int32 × (Nat → Nat → Int32) × (Nat → Nat → Int64))} {kA : Int32 → (Nat → Nat → Int32) → (Nat → Nat → Int64) → Option (Int32 × (Nat → Nat → Int32) × (Nat → Nat → Int64))} {p0 : Int32} {I : Nat → Nat → Int32} {L : Nat → Nat → Int64} {X : Nat × (Nat → Int32)} {Q : PQ} {res : Int32 × (Nat → Nat → Int32) × (Nat → Nat → Int64)}  (hO : cbO (d + 4) kO) (hA : cbA (d + 4) kA) (g : Q (some (.int res.1)) (HS res.2.1 res.2.2 X)) (q : FO_R_sum fu kO kA p0 I L = some res) : Ev (d + 7) m_R_sum [.ref 307, .int p0] (HS I L X) Q := by
  unfold FO_R_sum at q
  refine ev_start (d := d + 6) rfl rfl rfl (Nat.le_of_ble_eq_true rfl) ?_
  show Wp (Ev (d + 6)) cd_R_sum (0, 0) (some .boolean) _ _ Q 0 [(0, .ref 307), (1, .int p0)] [] (HS I L X)
  refine w_aload_n (Ev.cm _) rfl rfl ?_
  refine w_iload_n (Ev.cm _) rfl rfl ?_
  obtain ⟨⟨r1, I1, L1⟩, e1, q⟩ := obs q
  dsimp only at q
  refine w_cvirt (o := 307) (as := [.int p0]) (st := []) (Ev.cm _) rfl rfl rfl (Nat.le_of_ble_eq_true rfl) (Nat.le_of_ble_eq_true rfl) rfl (Nat.le_of_ble_eq_true rfl) (ev_le (show d + 6 ≤ d + 6 by omega) (eo_R_product (d := d) hO hA (g := ?_) e1))
  show Wp _ _ _ _ _ _ _ 5 [(0, .ref 307), (1, .int p0)] [.int r1] (HS I1 L1 X)
  refine w_istore_n (ls2 := [(0, .ref 307), (1, .int p0), (2, .int r1)]) (Ev.cm _) rfl rfl ?_
  refine w_iconst (Ev.cm _) rfl ?_
  refine w_istore_n (ls2 := [(0, .ref 307), (1, .int p0), (2, .int r1), (3, .int 0)]) (Ev.cm _) rfl rfl ?_
  show Wp _ _ _ _ _ _ _ 8 [(0, .ref 307), (1, .int p0), (2, .int r1), (3, .int 0)] [] (HS I1 L1 X)
  refine Wp.sub [0, 1, 2, 3] (ls2 := [(0, .ref 307), (1, .int p0), (2, .int r1), (3, .int 0)]) rfl ?_
  exact lo_R_sum_8 hO hA g fu _ _ _ _ _ q
def FO_R_ask (fu : Nat) (kO : Int32 → Int32 → (Nat → Nat → Int32) → (Nat → Nat → Int64) → Option (Int32 × (Nat → Nat → Int32) × (Nat → Nat → Int64))) (kA : Int32 → (Nat → Nat → Int32) → (Nat → Nat → Int64) → Option (Int32 × (Nat → Nat → Int32) × (Nat → Nat → Int64))) (p0 : Int32) (I : Nat → Nat → Int32) (L : Nat → Nat → Int64) : Option (Int32 × (Nat → Nat → Int32) × (Nat → Nat → Int64)) := if I 307 9 = 53 then (if p0 < 8 then ((FO_R_comeTo fu ((I 307 8) + 1) I L).bind (fun u16 => let r16 := u16.1; let I16 := u16.2.1; let L16 := u16.2.2; (kA (p0 + 1) I16 L16).bind (fun u17 => let r17 := u17.1; let I17 := u17.2.1; let L17 := u17.2.2; (FO_T_addCode fu 53 0 I17 L17).bind (fun u18 => let r18 := u18.1; let I18 := u18.2.1; let L18 := u18.2.2; if r17 = 0 ∨ r17 = 1 then (some (r17, I18, L18)) else none)))) else ((FO_R_fail fu 3 I L).bind (fun u20 => let r20 := u20.1; let I20 := u20.2.1; let L20 := u20.2.2; if r20 = 0 ∨ r20 = 1 then (some (r20, I20, L20)) else none))) else ((FO_R_sum fu kO kA p0 I L).bind (fun u1 => let r1 := u1.1; let I1 := u1.2.1; let L1 := u1.2.2; if r1 = 0 then (some (0, I1, L1)) else (if (10 : Int32) ≤ (I1 307 9) ∧ (I1 307 9) ≤ (13 : Int32) then ((FO_R_comeTo fu ((I1 307 8) + 1) I1 L1).bind (fun u2 => let r2 := u2.1; let I2 := u2.2.1; let L2 := u2.2.2; (FO_R_sum fu kO kA p0 I2 L2).bind (fun u3 => let r3 := u3.1; let I3 := u3.2.1; let L3 := u3.2.2; (FO_T_addCode fu (I1 307 9) 0 I3 L3).bind (fun u4 => let r4 := u4.1; let I4 := u4.2.1; let L4 := u4.2.2; if r3 = 0 ∨ r3 = 1 then (some (r3, I4, L4)) else none)))) else (if I1 307 9 = 3 then ((FO_R_comeTo fu ((I1 307 8) + 1) I1 L1).bind (fun u6 => let r6 := u6.1; let I6 := u6.2.1; let L6 := u6.2.2; (FO_R_sum fu kO kA p0 I6 L6).bind (fun u7 => let r7 := u7.1; let I7 := u7.2.1; let L7 := u7.2.2; (FO_T_addCode fu (I1 307 9) 0 I7 L7).bind (fun u8 => let r8 := u8.1; let I8 := u8.2.1; let L8 := u8.2.2; if r7 = 0 ∨ r7 = 1 then (some (r7, I8, L8)) else none)))) else (if I1 307 9 = 4 then ((FO_R_comeTo fu ((I1 307 8) + 1) I1 L1).bind (fun u10 => let r10 := u10.1; let I10 := u10.2.1; let L10 := u10.2.2; (FO_R_sum fu kO kA p0 I10 L10).bind (fun u11 => let r11 := u11.1; let I11 := u11.2.1; let L11 := u11.2.2; (FO_T_addCode fu (I1 307 9) 0 I11 L11).bind (fun u12 => let r12 := u12.1; let I12 := u12.2.1; let L12 := u12.2.2; if r11 = 0 ∨ r11 = 1 then (some (r11, I12, L12)) else none)))) else ((FO_R_fail fu 1 I1 L1).bind (fun u14 => let r14 := u14.1; let I14 := u14.2.1; let L14 := u14.2.2; if r14 = 0 ∨ r14 = 1 then (some (r14, I14, L14)) else none)))))))
set_option maxHeartbeats 20000000 in
set_option maxRecDepth 20000 in
theorem eo_R_ask {d fu : Nat} {kO : Int32 → Int32 → (Nat → Nat → Int32) → (Nat → Nat → Int64) → Option (Int32 × (Nat → Nat → Int32) × (Nat → Nat → Int64))} {kA : Int32 → (Nat → Nat → Int32) → (Nat → Nat → Int64) → Option (Int32 × (Nat → Nat → Int32) × (Nat → Nat → Int64))} {p0 : Int32} {I : Nat → Nat → Int32} {L : Nat → Nat → Int64} {X : Nat × (Nat → Int32)} {Q : PQ} {res : Int32 × (Nat → Nat → Int32) × (Nat → Nat → Int64)}  (hO : cbO (d + 4) kO) (hA : cbA (d + 4) kA) (g : Q (some (.int res.1)) (HS res.2.1 res.2.2 X)) (q : FO_R_ask fu kO kA p0 I L = some res) : Ev (d + 8) m_R_ask [.ref 307, .int p0] (HS I L X) Q := by
  unfold FO_R_ask at q
  refine ev_start (d := d + 7) rfl rfl rfl (Nat.le_of_ble_eq_true rfl) ?_
  show Wp (Ev (d + 7)) cd_R_ask (0, 0) (some .boolean) _ _ Q 0 [(0, .ref 307), (1, .int p0)] [] (HS I L X)
  refine w_aload_n (Ev.cm _) rfl rfl ?_
  refine w_getI (Ev.cm _) rfl (Nat.le_of_ble_eq_true rfl) rfl ?_
  refine w_bipush (Ev.cm _) rfl ?_
  refine w_icmp_ne (Ev.cm _) rfl (fun c1 => ?_) (fun c1 => ?_)
  · have c1 : ¬ (I 307 9 = 53) := c1
    rw [if_neg c1] at q
    refine w_aload_n (Ev.cm _) rfl rfl ?_
    refine w_iload_n (Ev.cm _) rfl rfl ?_
    obtain ⟨⟨r1, I1, L1⟩, e1, q⟩ := obs q
    dsimp only at q
    refine w_cvirt (o := 307) (as := [.int p0]) (st := []) (Ev.cm _) rfl rfl rfl (Nat.le_of_ble_eq_true rfl) (Nat.le_of_ble_eq_true rfl) rfl (Nat.le_of_ble_eq_true rfl) (ev_le (show d + 7 ≤ d + 7 by omega) (eo_R_sum (d := d) hO hA (g := ?_) e1))
    show Wp _ _ _ _ _ _ _ 57 [(0, .ref 307), (1, .int p0)] [.int r1] (HS I1 L1 X)
    refine w_if_ne (Ev.cm _) rfl (fun c2 => ?_) (fun c2 => ?_)
    · have c2 : ¬ (r1 = 0) := c2
      rw [if_neg c2] at q
      refine w_aload_n (Ev.cm _) rfl rfl ?_
      refine w_getI (Ev.cm _) rfl (Nat.le_of_ble_eq_true rfl) rfl ?_
      refine w_istore_n (ls2 := [(0, .ref 307), (1, .int p0), (2, .int (I1 307 9))]) (Ev.cm _) rfl rfl ?_
      refine w_iload_n (Ev.cm _) rfl rfl ?_
      refine w_bipush (Ev.cm _) rfl ?_
      refine w_bipush (Ev.cm _) rfl ?_
      refine w_cnest (as := [.int (I1 307 9), .int 10, .int 13]) (st := []) (Ev.cm _) rfl rfl rfl (Nat.le_of_ble_eq_true rfl) (Nat.le_of_ble_eq_true rfl) (x_within ?_)
      show Wp _ _ _ _ _ _ _ 75 [(0, .ref 307), (1, .int p0), (2, .int (I1 307 9))] [.int (bI ((10 : Int32) ≤ (I1 307 9) ∧ (I1 307 9) ≤ (13 : Int32)))] (HS I1 L1 X)
      refine w_if_ne (Ev.cm _) rfl (fun c3 => ?_) (fun c3 => ?_)
      · have c3 : (10 : Int32) ≤ (I1 307 9) ∧ (I1 307 9) ≤ (13 : Int32) := bI_1.mp c3
        rw [if_pos c3] at q
        refine w_aload_n (Ev.cm _) rfl rfl ?_
        refine w_aload_n (Ev.cm _) rfl rfl ?_
        refine w_getI (Ev.cm _) rfl (Nat.le_of_ble_eq_true rfl) rfl ?_
        refine w_iconst (Ev.cm _) rfl ?_
        refine w_iadd (Ev.cm _) rfl ?_
        obtain ⟨⟨r2, I2, L2⟩, e2, q⟩ := obs q
        dsimp only at q
        refine w_cvirt (o := 307) (as := [.int ((I1 307 8) + 1)]) (st := []) (Ev.cm _) rfl rfl rfl (Nat.le_of_ble_eq_true rfl) (Nat.le_of_ble_eq_true rfl) rfl (Nat.le_of_ble_eq_true rfl) (eo_R_comeTo (g := ?_) e2)
        show Wp _ _ _ _ _ _ _ 104 [(0, .ref 307), (1, .int p0), (2, .int (I1 307 9))] [] (HS I2 L2 X)
        refine w_aload_n (Ev.cm _) rfl rfl ?_
        refine w_iload_n (Ev.cm _) rfl rfl ?_
        obtain ⟨⟨r3, I3, L3⟩, e3, q⟩ := obs q
        dsimp only at q
        refine w_cvirt (o := 307) (as := [.int p0]) (st := []) (Ev.cm _) rfl rfl rfl (Nat.le_of_ble_eq_true rfl) (Nat.le_of_ble_eq_true rfl) rfl (Nat.le_of_ble_eq_true rfl) (ev_le (show d + 7 ≤ d + 7 by omega) (eo_R_sum (d := d) hO hA (g := ?_) e3))
        show Wp _ _ _ _ _ _ _ 109 [(0, .ref 307), (1, .int p0), (2, .int (I1 307 9))] [.int r3] (HS I3 L3 X)
        refine w_istore_n (ls2 := [(0, .ref 307), (1, .int p0), (2, .int (I1 307 9)), (3, .int r3)]) (Ev.cm _) rfl rfl ?_
        refine w_aload_n (Ev.cm _) rfl rfl ?_
        refine w_getR (q := 308) (Ev.cm _) rfl (Nat.le_of_ble_eq_true rfl) rfl rfl ?_
        refine w_iload_n (Ev.cm _) rfl rfl ?_
        refine w_iconst (Ev.cm _) rfl ?_
        obtain ⟨⟨r4, I4, L4⟩, e4, q⟩ := obs q
        dsimp only at q
        refine w_cvirt (o := 308) (as := [.int (I1 307 9), .int 0]) (st := []) (Ev.cm _) rfl rfl rfl (Nat.le_of_ble_eq_true rfl) (Nat.le_of_ble_eq_true rfl) rfl (Nat.le_of_ble_eq_true rfl) (eo_T_addCode (g := ?_) e4)
        show Wp _ _ _ _ _ _ _ 119 [(0, .ref 307), (1, .int p0), (2, .int (I1 307 9)), (3, .int r3)] [.int r4] (HS I4 L4 X)
        refine w_pop (Ev.cm _) rfl rfl ?_
        refine w_iload_n (Ev.cm _) rfl rfl ?_
        obtain ⟨b5, q⟩ := ois q
        refine w_ireturn (Ev.cm _) rfl (show rok (some .boolean) _ from b5) rf0 ?_
        cases q
        exact g
      · have c3 : ¬ ((10 : Int32) ≤ (I1 307 9) ∧ (I1 307 9) ≤ (13 : Int32)) := bI_0.mp c3
        rw [if_neg c3] at q
        refine w_iload_n (Ev.cm _) rfl rfl ?_
        refine w_iconst (Ev.cm _) rfl ?_
        refine w_icmp_eq (Ev.cm _) rfl (fun c4 => ?_) (fun c4 => ?_)
        · have c4 : I1 307 9 = 3 := c4
          rw [if_pos c4] at q
          refine w_aload_n (Ev.cm _) rfl rfl ?_
          refine w_aload_n (Ev.cm _) rfl rfl ?_
          refine w_getI (Ev.cm _) rfl (Nat.le_of_ble_eq_true rfl) rfl ?_
          refine w_iconst (Ev.cm _) rfl ?_
          refine w_iadd (Ev.cm _) rfl ?_
          obtain ⟨⟨r6, I6, L6⟩, e6, q⟩ := obs q
          dsimp only at q
          refine w_cvirt (o := 307) (as := [.int ((I1 307 8) + 1)]) (st := []) (Ev.cm _) rfl rfl rfl (Nat.le_of_ble_eq_true rfl) (Nat.le_of_ble_eq_true rfl) rfl (Nat.le_of_ble_eq_true rfl) (eo_R_comeTo (g := ?_) e6)
          show Wp _ _ _ _ _ _ _ 104 [(0, .ref 307), (1, .int p0), (2, .int (I1 307 9))] [] (HS I6 L6 X)
          refine w_aload_n (Ev.cm _) rfl rfl ?_
          refine w_iload_n (Ev.cm _) rfl rfl ?_
          obtain ⟨⟨r7, I7, L7⟩, e7, q⟩ := obs q
          dsimp only at q
          refine w_cvirt (o := 307) (as := [.int p0]) (st := []) (Ev.cm _) rfl rfl rfl (Nat.le_of_ble_eq_true rfl) (Nat.le_of_ble_eq_true rfl) rfl (Nat.le_of_ble_eq_true rfl) (ev_le (show d + 7 ≤ d + 7 by omega) (eo_R_sum (d := d) hO hA (g := ?_) e7))
          show Wp _ _ _ _ _ _ _ 109 [(0, .ref 307), (1, .int p0), (2, .int (I1 307 9))] [.int r7] (HS I7 L7 X)
          refine w_istore_n (ls2 := [(0, .ref 307), (1, .int p0), (2, .int (I1 307 9)), (3, .int r7)]) (Ev.cm _) rfl rfl ?_
          refine w_aload_n (Ev.cm _) rfl rfl ?_
          refine w_getR (q := 308) (Ev.cm _) rfl (Nat.le_of_ble_eq_true rfl) rfl rfl ?_
          refine w_iload_n (Ev.cm _) rfl rfl ?_
          refine w_iconst (Ev.cm _) rfl ?_
          obtain ⟨⟨r8, I8, L8⟩, e8, q⟩ := obs q
          dsimp only at q
          refine w_cvirt (o := 308) (as := [.int (I1 307 9), .int 0]) (st := []) (Ev.cm _) rfl rfl rfl (Nat.le_of_ble_eq_true rfl) (Nat.le_of_ble_eq_true rfl) rfl (Nat.le_of_ble_eq_true rfl) (eo_T_addCode (g := ?_) e8)
          show Wp _ _ _ _ _ _ _ 119 [(0, .ref 307), (1, .int p0), (2, .int (I1 307 9)), (3, .int r7)] [.int r8] (HS I8 L8 X)
          refine w_pop (Ev.cm _) rfl rfl ?_
          refine w_iload_n (Ev.cm _) rfl rfl ?_
          obtain ⟨b9, q⟩ := ois q
          refine w_ireturn (Ev.cm _) rfl (show rok (some .boolean) _ from b9) rf0 ?_
          cases q
          exact g
        · have c4 : ¬ (I1 307 9 = 3) := c4
          rw [if_neg c4] at q
          refine w_iload_n (Ev.cm _) rfl rfl ?_
          refine w_iconst (Ev.cm _) rfl ?_
          refine w_icmp_eq (Ev.cm _) rfl (fun c5 => ?_) (fun c5 => ?_)
          · have c5 : I1 307 9 = 4 := c5
            rw [if_pos c5] at q
            refine w_aload_n (Ev.cm _) rfl rfl ?_
            refine w_aload_n (Ev.cm _) rfl rfl ?_
            refine w_getI (Ev.cm _) rfl (Nat.le_of_ble_eq_true rfl) rfl ?_
            refine w_iconst (Ev.cm _) rfl ?_
            refine w_iadd (Ev.cm _) rfl ?_
            obtain ⟨⟨r10, I10, L10⟩, e10, q⟩ := obs q
            dsimp only at q
            refine w_cvirt (o := 307) (as := [.int ((I1 307 8) + 1)]) (st := []) (Ev.cm _) rfl rfl rfl (Nat.le_of_ble_eq_true rfl) (Nat.le_of_ble_eq_true rfl) rfl (Nat.le_of_ble_eq_true rfl) (eo_R_comeTo (g := ?_) e10)
            show Wp _ _ _ _ _ _ _ 104 [(0, .ref 307), (1, .int p0), (2, .int (I1 307 9))] [] (HS I10 L10 X)
            refine w_aload_n (Ev.cm _) rfl rfl ?_
            refine w_iload_n (Ev.cm _) rfl rfl ?_
            obtain ⟨⟨r11, I11, L11⟩, e11, q⟩ := obs q
            dsimp only at q
            refine w_cvirt (o := 307) (as := [.int p0]) (st := []) (Ev.cm _) rfl rfl rfl (Nat.le_of_ble_eq_true rfl) (Nat.le_of_ble_eq_true rfl) rfl (Nat.le_of_ble_eq_true rfl) (ev_le (show d + 7 ≤ d + 7 by omega) (eo_R_sum (d := d) hO hA (g := ?_) e11))
            show Wp _ _ _ _ _ _ _ 109 [(0, .ref 307), (1, .int p0), (2, .int (I1 307 9))] [.int r11] (HS I11 L11 X)
            refine w_istore_n (ls2 := [(0, .ref 307), (1, .int p0), (2, .int (I1 307 9)), (3, .int r11)]) (Ev.cm _) rfl rfl ?_
            refine w_aload_n (Ev.cm _) rfl rfl ?_
            refine w_getR (q := 308) (Ev.cm _) rfl (Nat.le_of_ble_eq_true rfl) rfl rfl ?_
            refine w_iload_n (Ev.cm _) rfl rfl ?_
            refine w_iconst (Ev.cm _) rfl ?_
            obtain ⟨⟨r12, I12, L12⟩, e12, q⟩ := obs q
            dsimp only at q
            refine w_cvirt (o := 308) (as := [.int (I1 307 9), .int 0]) (st := []) (Ev.cm _) rfl rfl rfl (Nat.le_of_ble_eq_true rfl) (Nat.le_of_ble_eq_true rfl) rfl (Nat.le_of_ble_eq_true rfl) (eo_T_addCode (g := ?_) e12)
            show Wp _ _ _ _ _ _ _ 119 [(0, .ref 307), (1, .int p0), (2, .int (I1 307 9)), (3, .int r11)] [.int r12] (HS I12 L12 X)
            refine w_pop (Ev.cm _) rfl rfl ?_
            refine w_iload_n (Ev.cm _) rfl rfl ?_
            obtain ⟨b13, q⟩ := ois q
            refine w_ireturn (Ev.cm _) rfl (show rok (some .boolean) _ from b13) rf0 ?_
            cases q
            exact g
          · have c5 : ¬ (I1 307 9 = 4) := c5
            rw [if_neg c5] at q
            refine w_aload_n (Ev.cm _) rfl rfl ?_
            refine w_iconst (Ev.cm _) rfl ?_
            obtain ⟨⟨r14, I14, L14⟩, e14, q⟩ := obs q
            dsimp only at q
            refine w_cvirt (o := 307) (as := [.int 1]) (st := []) (Ev.cm _) rfl rfl rfl (Nat.le_of_ble_eq_true rfl) (Nat.le_of_ble_eq_true rfl) rfl (Nat.le_of_ble_eq_true rfl) (eo_R_fail (g := ?_) e14)
            show Wp _ _ _ _ _ _ _ 93 [(0, .ref 307), (1, .int p0), (2, .int (I1 307 9))] [.int r14] (HS I14 L14 X)
            obtain ⟨b15, q⟩ := ois q
            refine w_ireturn (Ev.cm _) rfl (show rok (some .boolean) _ from b15) rf0 ?_
            cases q
            exact g
    · have c2 : r1 = 0 := c2
      rw [if_pos c2] at q
      refine w_iconst (Ev.cm _) rfl ?_
      refine w_ireturn (Ev.cm _) rfl (by first | exact rok_0 | exact rok_1 | exact rok_b) rf0 ?_
      cases q
      exact g
  · have c1 : I 307 9 = 53 := c1
    rw [if_pos c1] at q
    refine w_iload_n (Ev.cm _) rfl rfl ?_
    refine w_bipush (Ev.cm _) rfl ?_
    refine w_icmp_lt (Ev.cm _) rfl (fun c6 => ?_) (fun c6 => ?_)
    · have c6 : p0 < 8 := c6
      rw [if_pos c6] at q
      refine w_aload_n (Ev.cm _) rfl rfl ?_
      refine w_aload_n (Ev.cm _) rfl rfl ?_
      refine w_getI (Ev.cm _) rfl (Nat.le_of_ble_eq_true rfl) rfl ?_
      refine w_iconst (Ev.cm _) rfl ?_
      refine w_iadd (Ev.cm _) rfl ?_
      obtain ⟨⟨r16, I16, L16⟩, e16, q⟩ := obs q
      dsimp only at q
      refine w_cvirt (o := 307) (as := [.int ((I 307 8) + 1)]) (st := []) (Ev.cm _) rfl rfl rfl (Nat.le_of_ble_eq_true rfl) (Nat.le_of_ble_eq_true rfl) rfl (Nat.le_of_ble_eq_true rfl) (eo_R_comeTo (g := ?_) e16)
      show Wp _ _ _ _ _ _ _ 31 [(0, .ref 307), (1, .int p0)] [] (HS I16 L16 X)
      refine w_aload_n (Ev.cm _) rfl rfl ?_
      refine w_iload_n (Ev.cm _) rfl rfl ?_
      refine w_iconst (Ev.cm _) rfl ?_
      refine w_iadd (Ev.cm _) rfl ?_
      obtain ⟨⟨r17, I17, L17⟩, e17, q⟩ := obs q
      dsimp only at q
      refine w_cvirt (o := 307) (as := [.int (p0 + 1)]) (st := []) (Ev.cm _) rfl rfl rfl (Nat.le_of_ble_eq_true rfl) (Nat.le_of_ble_eq_true rfl) rfl (Nat.le_of_ble_eq_true rfl) (ev_le (show d + 4 ≤ d + 7 by omega) (hA _ _ _ _ _ _  ?_ e17))
      show Wp _ _ _ _ _ _ _ 38 [(0, .ref 307), (1, .int p0)] [.int r17] (HS I17 L17 X)
      refine w_istore_n (ls2 := [(0, .ref 307), (1, .int p0), (2, .int r17)]) (Ev.cm _) rfl rfl ?_
      refine w_aload_n (Ev.cm _) rfl rfl ?_
      refine w_getR (q := 308) (Ev.cm _) rfl (Nat.le_of_ble_eq_true rfl) rfl rfl ?_
      refine w_bipush (Ev.cm _) rfl ?_
      refine w_iconst (Ev.cm _) rfl ?_
      obtain ⟨⟨r18, I18, L18⟩, e18, q⟩ := obs q
      dsimp only at q
      refine w_cvirt (o := 308) (as := [.int 53, .int 0]) (st := []) (Ev.cm _) rfl rfl rfl (Nat.le_of_ble_eq_true rfl) (Nat.le_of_ble_eq_true rfl) rfl (Nat.le_of_ble_eq_true rfl) (eo_T_addCode (g := ?_) e18)
      show Wp _ _ _ _ _ _ _ 49 [(0, .ref 307), (1, .int p0), (2, .int r17)] [.int r18] (HS I18 L18 X)
      refine w_pop (Ev.cm _) rfl rfl ?_
      refine w_iload_n (Ev.cm _) rfl rfl ?_
      obtain ⟨b19, q⟩ := ois q
      refine w_ireturn (Ev.cm _) rfl (show rok (some .boolean) _ from b19) rf0 ?_
      cases q
      exact g
    · have c6 : ¬ (p0 < 8) := c6
      rw [if_neg c6] at q
      refine w_aload_n (Ev.cm _) rfl rfl ?_
      refine w_iconst (Ev.cm _) rfl ?_
      obtain ⟨⟨r20, I20, L20⟩, e20, q⟩ := obs q
      dsimp only at q
      refine w_cvirt (o := 307) (as := [.int 3]) (st := []) (Ev.cm _) rfl rfl rfl (Nat.le_of_ble_eq_true rfl) (Nat.le_of_ble_eq_true rfl) rfl (Nat.le_of_ble_eq_true rfl) (eo_R_fail (g := ?_) e20)
      show Wp _ _ _ _ _ _ _ 20 [(0, .ref 307), (1, .int p0)] [.int r20] (HS I20 L20 X)
      obtain ⟨b21, q⟩ := ois q
      refine w_ireturn (Ev.cm _) rfl (show rok (some .boolean) _ from b21) rf0 ?_
      cases q
      exact g
def LO_X_hour_34 (fu : Nat) : Nat → Int32 → Int32 → Int32 → (Nat → Nat → Int32) → (Nat → Nat → Int64) → Option (Int32 × (Nat → Nat → Int32) × (Nat → Nat → Int64))
  | 0, _, _, _, _, _ => none
  | n + 1, x1, x2, x3, I, L => if x1 ≤ x3 then (some (x2, I, L)) else ((FO_S_keep fu  I L).bind (fun u1 => let r1 := u1.1; let I1 := u1.2.1; let L1 := u1.2.2; (FO_X_passHour fu  I1 L1).bind (fun u2 => let r2 := u2.1; let I2 := u2.2.1; let L2 := u2.2.2; LO_X_hour_34 fu n x1 (x2 + r2) (x3 + 1) I2 L2)))
set_option maxHeartbeats 20000000 in
set_option maxRecDepth 20000 in
theorem lo_X_hour_34 {d fu n0 s0 : Nat} {X : Nat × (Nat → Int32)} {Q : PQ} {res : Int32 × (Nat → Nat → Int32) × (Nat → Nat → Int64)}  (g : Q (some (.int res.1)) (HS res.2.1 res.2.2 X)) : ∀ (n : Nat) (x1 : Int32) (x2 : Int32) (x3 : Int32) (I : Nat → Nat → Int32) (L : Nat → Nat → Int64), LO_X_hour_34 fu n x1 x2 x3 I L = some res → Wp (Ev (d + 7)) cd_X_hour (0, 0) (some .int) n0 s0 Q 34 [(0, .ref 0), (1, .int x1), (2, .int x2), (3, .int x3)] [] (HS I L X) := by
  intro n
  induction n with
  | zero => intro _ _ _ _ _ q; cases q
  | succ n ih =>
    intro x1 x2 x3 I L q
    unfold LO_X_hour_34 at q
    refine w_iload_n (Ev.cm _) rfl rfl ?_
    refine w_iload_n (Ev.cm _) rfl rfl ?_
    refine w_icmp_ge (Ev.cm _) rfl (fun c1 => ?_) (fun c1 => ?_)
    · have c1 : x1 ≤ x3 := c1
      rw [if_pos c1] at q
      refine w_iload_n (Ev.cm _) rfl rfl ?_
      refine w_ireturn (Ev.cm _) rfl trivial rf0 ?_
      cases q
      exact g
    · have c1 : ¬ (x1 ≤ x3) := c1
      rw [if_neg c1] at q
      refine w_aload_n (Ev.cm _) rfl rfl ?_
      refine w_getR (q := 1) (Ev.cm _) rfl (Nat.le_of_ble_eq_true rfl) rfl rfl ?_
      refine w_getR (q := 6) (Ev.cm _) rfl (Nat.le_of_ble_eq_true rfl) rfl rfl ?_
      refine w_aload_n (Ev.cm _) rfl rfl ?_
      refine w_getR (q := 1) (Ev.cm _) rfl (Nat.le_of_ble_eq_true rfl) rfl rfl ?_
      refine w_getR (q := 2) (Ev.cm _) rfl (Nat.le_of_ble_eq_true rfl) rfl rfl ?_
      obtain ⟨⟨r1, I1, L1⟩, e1, q⟩ := obs q
      dsimp only at q
      refine w_cvirt (o := 6) (as := [.ref 2]) (st := []) (Ev.cm _) rfl rfl rfl (Nat.le_of_ble_eq_true rfl) (Nat.le_of_ble_eq_true rfl) rfl (Nat.le_of_ble_eq_true rfl) (eo_S_keep (g := ?_) e1)
      show Wp _ _ _ _ _ _ _ 56 [(0, .ref 0), (1, .int x1), (2, .int x2), (3, .int x3)] [] (HS I1 L1 X)
      refine w_iload_n (Ev.cm _) rfl rfl ?_
      refine w_aload_n (Ev.cm _) rfl rfl ?_
      obtain ⟨⟨r2, I2, L2⟩, e2, q⟩ := obs q
      dsimp only at q
      refine w_cvirt (o := 0) (as := []) (st := [.int x2]) (Ev.cm _) rfl rfl rfl (Nat.le_of_ble_eq_true rfl) (Nat.le_of_ble_eq_true rfl) rfl (Nat.le_of_ble_eq_true rfl) (eo_X_passHour (g := ?_) e2)
      show Wp _ _ _ _ _ _ _ 61 [(0, .ref 0), (1, .int x1), (2, .int x2), (3, .int x3)] [.int r2, .int x2] (HS I2 L2 X)
      refine w_iadd (Ev.cm _) rfl ?_
      refine w_istore_n (ls2 := [(0, .ref 0), (1, .int x1), (2, .int (x2 + r2)), (3, .int x3)]) (Ev.cm _) rfl rfl ?_
      refine w_iinc (ls2 := [(0, .ref 0), (1, .int x1), (2, .int (x2 + r2)), (3, .int (x3 + 1))]) (Ev.cm _) rfl rfl rfl ?_
      refine w_goto (Ev.cm _) rfl ?_
      show Wp _ _ _ _ _ _ _ 34 [(0, .ref 0), (1, .int x1), (2, .int (x2 + r2)), (3, .int (x3 + 1))] [] (HS I2 L2 X)
      refine Wp.sub [0, 1, 2, 3] (ls2 := [(0, .ref 0), (1, .int x1), (2, .int (x2 + r2)), (3, .int (x3 + 1))]) rfl ?_
      exact ih _ _ _ _ _ q
def FO_X_hour (fu : Nat) (p0 : Int32) (I : Nat → Nat → Int32) (L : Nat → Nat → Int64) : Option (Int32 × (Nat → Nat → Int32) × (Nat → Nat → Int64)) := if (1 : Int32) ≤ p0 ∧ p0 ≤ (60 : Int32) then (if (I 2 0) + p0 ≤ 9999 then (LO_X_hour_34 fu fu p0 0 0 I L) else (some ((-1), I, L))) else (some ((-1), I, L))
set_option maxHeartbeats 20000000 in
set_option maxRecDepth 20000 in
theorem eo_X_hour {d fu : Nat} {p0 : Int32} {I : Nat → Nat → Int32} {L : Nat → Nat → Int64} {X : Nat × (Nat → Int32)} {Q : PQ} {res : Int32 × (Nat → Nat → Int32) × (Nat → Nat → Int64)}  (g : Q (some (.int res.1)) (HS res.2.1 res.2.2 X)) (q : FO_X_hour fu p0 I L = some res) : Ev (d + 8) m_X_hour [.ref 0, .int p0] (HS I L X) Q := by
  unfold FO_X_hour at q
  refine ev_start (d := d + 7) rfl rfl rfl (Nat.le_of_ble_eq_true rfl) ?_
  show Wp (Ev (d + 7)) cd_X_hour (0, 0) (some .int) _ _ Q 0 [(0, .ref 0), (1, .int p0)] [] (HS I L X)
  refine w_iload_n (Ev.cm _) rfl rfl ?_
  refine w_iconst (Ev.cm _) rfl ?_
  refine w_bipush (Ev.cm _) rfl ?_
  refine w_cstat (as := [.int p0, .int 1, .int 60]) (st := []) (Ev.cm _) rfl rfl rfl (Nat.le_of_ble_eq_true rfl) (Nat.le_of_ble_eq_true rfl) (x_within ?_)
  show Wp _ _ _ _ _ _ _ 7 [(0, .ref 0), (1, .int p0)] [.int (bI ((1 : Int32) ≤ p0 ∧ p0 ≤ (60 : Int32)))] (HS I L X)
  refine w_if_eq (Ev.cm _) rfl (fun c1 => ?_) (fun c1 => ?_)
  · have c1 : ¬ ((1 : Int32) ≤ p0 ∧ p0 ≤ (60 : Int32)) := bI_0.mp c1
    rw [if_neg c1] at q
    refine w_iconst (Ev.cm _) rfl ?_
    refine w_ireturn (Ev.cm _) rfl trivial rf0 ?_
    cases q
    exact g
  · have c1 : (1 : Int32) ≤ p0 ∧ p0 ≤ (60 : Int32) := bI_1.mp c1
    rw [if_pos c1] at q
    refine w_aload_n (Ev.cm _) rfl rfl ?_
    refine w_getR (q := 1) (Ev.cm _) rfl (Nat.le_of_ble_eq_true rfl) rfl rfl ?_
    refine w_getR (q := 2) (Ev.cm _) rfl (Nat.le_of_ble_eq_true rfl) rfl rfl ?_
    refine w_getI (Ev.cm _) rfl (Nat.le_of_ble_eq_true rfl) rfl ?_
    refine w_iload_n (Ev.cm _) rfl rfl ?_
    refine w_iadd (Ev.cm _) rfl ?_
    refine w_sipush (Ev.cm _) rfl ?_
    refine w_icmp_le (Ev.cm _) rfl (fun c2 => ?_) (fun c2 => ?_)
    · have c2 : (I 2 0) + p0 ≤ 9999 := c2
      rw [if_pos c2] at q
      refine w_iconst (Ev.cm _) rfl ?_
      refine w_istore_n (ls2 := [(0, .ref 0), (1, .int p0), (2, .int 0)]) (Ev.cm _) rfl rfl ?_
      refine w_iconst (Ev.cm _) rfl ?_
      refine w_istore_n (ls2 := [(0, .ref 0), (1, .int p0), (2, .int 0), (3, .int 0)]) (Ev.cm _) rfl rfl ?_
      show Wp _ _ _ _ _ _ _ 34 [(0, .ref 0), (1, .int p0), (2, .int 0), (3, .int 0)] [] (HS I L X)
      refine Wp.sub [0, 1, 2, 3] (ls2 := [(0, .ref 0), (1, .int p0), (2, .int 0), (3, .int 0)]) rfl ?_
      exact lo_X_hour_34 g fu _ _ _ _ _ q
    · have c2 : ¬ ((I 2 0) + p0 ≤ 9999) := c2
      rw [if_neg c2] at q
      refine w_iconst (Ev.cm _) rfl ?_
      refine w_ireturn (Ev.cm _) rfl trivial rf0 ?_
      cases q
      exact g
def LO_X_nights_56 (fu : Nat) : Nat → Int32 → Int32 → Int32 → (Nat → Nat → Int32) → (Nat → Nat → Int64) → Option (Int32 × (Nat → Nat → Int32) × (Nat → Nat → Int64))
  | 0, _, _, _, _, _ => none
  | n + 1, x1, x2, x4, I, L => if x2 ≤ x4 then (some (I 2 0, I, L)) else (if 2 ≤ iR (I 2 1) 6 then (if iR (I 2 1) 6 = 2 then (LO_X_nights_56 fu n x1 x2 (x4 + 1) (sI (sI I 2 1 (F_X_afterX I (I 2 1))) 2 3 ((I 2 3) ||| ((1 : Int32) <<< (((1 : Int32) + (iR ((I 2 1) / 6) 12)) &&& 31)))) L) else (if iR (I 2 1) 6 = 3 then (LO_X_nights_56 fu n x1 x2 (x4 + 1) (sI (sI I 2 1 (F_X_afterX I (I 2 1))) 2 3 ((I 2 3) &&& (((1 : Int32) <<< (((1 : Int32) + (iR ((I 2 1) / 6) 12)) &&& 31)) ^^^ (-1)))) L) else (if 9999 ≤ I 2 0 then (LO_X_nights_56 fu n x1 x2 (x4 + 1) (sI I 2 1 (F_X_afterX I (I 2 1))) L) else ((FO_X_passHour fu  (sI I 2 1 (F_X_afterX I (I 2 1))) L).bind (fun u1 => let r1 := u1.1; let I1 := u1.2.1; let L1 := u1.2.2; LO_X_nights_56 fu n x1 x2 (x4 + 1) I1 L1))))) else (if I 1 2 ≤ 0 then (if iR (I 2 1) 6 = 0 then ((FO_X_canGo fu (-1) ((1 : Int32) + (iR (I 2 1) 3)) (sI I 2 1 (F_X_afterX I (I 2 1))) L).bind (fun u4 => let r4 := u4.1; let I4 := u4.2.1; let L4 := u4.2.2; if r4 = 0 then (LO_X_nights_56 fu n x1 x2 (x4 + 1) I4 L4) else ((FO_X_go fu (-1) ((1 : Int32) + (iR (I 2 1) 3)) I4 L4).bind (fun u5 => let r5 := u5.1; let I5 := u5.2.1; let L5 := u5.2.2; LO_X_nights_56 fu n x1 x2 (x4 + 1) I5 L5)))) else ((FO_X_canGo fu (-1) ((-1 : Int32) - (iR (I 2 1) 3)) (sI I 2 1 (F_X_afterX I (I 2 1))) L).bind (fun u2 => let r2 := u2.1; let I2 := u2.2.1; let L2 := u2.2.2; if r2 = 0 then (LO_X_nights_56 fu n x1 x2 (x4 + 1) I2 L2) else ((FO_X_go fu (-1) ((-1 : Int32) - (iR (I 2 1) 3)) I2 L2).bind (fun u3 => let r3 := u3.1; let I3 := u3.2.1; let L3 := u3.2.2; LO_X_nights_56 fu n x1 x2 (x4 + 1) I3 L3))))) else (if ¬ I 1 2 = 0 then (if iR (I 2 1) 6 = 0 then ((FO_X_canGo fu (iR (I 2 1) (I 1 2)) ((1 : Int32) + (iR (I 2 1) 3)) (sI I 2 1 (F_X_afterX I (I 2 1))) L).bind (fun u9 => let r9 := u9.1; let I9 := u9.2.1; let L9 := u9.2.2; if r9 = 0 then (LO_X_nights_56 fu n x1 x2 (x4 + 1) I9 L9) else ((FO_X_go fu (iR (I 2 1) (I 1 2)) ((1 : Int32) + (iR (I 2 1) 3)) I9 L9).bind (fun u10 => let r10 := u10.1; let I10 := u10.2.1; let L10 := u10.2.2; LO_X_nights_56 fu n x1 x2 (x4 + 1) I10 L10)))) else ((FO_X_canGo fu (iR (I 2 1) (I 1 2)) ((-1 : Int32) - (iR (I 2 1) 3)) (sI I 2 1 (F_X_afterX I (I 2 1))) L).bind (fun u7 => let r7 := u7.1; let I7 := u7.2.1; let L7 := u7.2.2; if r7 = 0 then (LO_X_nights_56 fu n x1 x2 (x4 + 1) I7 L7) else ((FO_X_go fu (iR (I 2 1) (I 1 2)) ((-1 : Int32) - (iR (I 2 1) 3)) I7 L7).bind (fun u8 => let r8 := u8.1; let I8 := u8.2.1; let L8 := u8.2.2; LO_X_nights_56 fu n x1 x2 (x4 + 1) I8 L8))))) else none)))
set_option maxHeartbeats 20000000 in
set_option maxRecDepth 20000 in
theorem lo_X_nights_56 {d fu n0 s0 : Nat} {X : Nat × (Nat → Int32)} {Q : PQ} {res : Int32 × (Nat → Nat → Int32) × (Nat → Nat → Int64)}  (g : Q (some (.int res.1)) (HS res.2.1 res.2.2 X)) : ∀ (n : Nat) (x1 : Int32) (x2 : Int32) (x4 : Int32) (I : Nat → Nat → Int32) (L : Nat → Nat → Int64), LO_X_nights_56 fu n x1 x2 x4 I L = some res → Wp (Ev (d + 7)) cd_X_nights (0, 0) (some .int) n0 s0 Q 56 [(0, .ref 0), (1, .int x1), (2, .int x2), (3, .ref 2), (4, .int x4)] [] (HS I L X) := by
  intro n
  induction n with
  | zero => intro _ _ _ _ _ q; cases q
  | succ n ih =>
    intro x1 x2 x4 I L q
    unfold LO_X_nights_56 at q
    refine w_iload (Ev.cm _) rfl rfl ?_
    refine w_iload_n (Ev.cm _) rfl rfl ?_
    refine w_icmp_ge (Ev.cm _) rfl (fun c1 => ?_) (fun c1 => ?_)
    · have c1 : x2 ≤ x4 := c1
      rw [if_pos c1] at q
      refine w_aload_n (Ev.cm _) rfl rfl ?_
      refine w_getI (Ev.cm _) rfl (Nat.le_of_ble_eq_true rfl) rfl ?_
      refine w_ireturn (Ev.cm _) rfl trivial rf0 ?_
      cases q
      exact g
    · have c1 : ¬ (x2 ≤ x4) := c1
      rw [if_neg c1] at q
      refine w_aload_n (Ev.cm _) rfl rfl ?_
      refine w_getI (Ev.cm _) rfl (Nat.le_of_ble_eq_true rfl) rfl ?_
      refine w_istore (ls2 := [(0, .ref 0), (1, .int x1), (2, .int x2), (3, .ref 2), (4, .int x4), (5, .int (I 2 1))]) (Ev.cm _) rfl rfl ?_
      refine w_iload (Ev.cm _) rfl rfl ?_
      refine w_bipush (Ev.cm _) rfl ?_
      refine w_irem (Ev.cm _) rfl (by decide) ?_
      refine w_istore (ls2 := [(0, .ref 0), (1, .int x1), (2, .int x2), (3, .ref 2), (4, .int x4), (5, .int (I 2 1)), (6, .int (iR (I 2 1) 6))]) (Ev.cm _) rfl rfl ?_
      refine w_iconst (Ev.cm _) rfl ?_
      refine w_iconst (Ev.cm _) rfl ?_
      refine w_iload (Ev.cm _) rfl rfl ?_
      refine w_bipush (Ev.cm _) rfl ?_
      refine w_idiv (Ev.cm _) rfl (by decide) ?_
      refine w_bipush (Ev.cm _) rfl ?_
      refine w_irem (Ev.cm _) rfl (by decide) ?_
      refine w_iadd (Ev.cm _) rfl ?_
      refine w_ishl (Ev.cm _) rfl ?_
      refine w_istore (ls2 := [(0, .ref 0), (1, .int x1), (2, .int x2), (3, .ref 2), (4, .int x4), (5, .int (I 2 1)), (6, .int (iR (I 2 1) 6)), (7, .int ((1 : Int32) <<< (((1 : Int32) + (iR ((I 2 1) / 6) 12)) &&& 31)))]) (Ev.cm _) rfl rfl ?_
      refine w_aload_n (Ev.cm _) rfl rfl ?_
      refine w_iload (Ev.cm _) rfl rfl ?_
      refine w_cstat (as := [.int (I 2 1)]) (st := [.ref 2]) (Ev.cm _) rfl rfl rfl (Nat.le_of_ble_eq_true rfl) (Nat.le_of_ble_eq_true rfl) (e_X_afterX ?_)
      show Wp _ _ _ _ _ _ _ 95 [(0, .ref 0), (1, .int x1), (2, .int x2), (3, .ref 2), (4, .int x4), (5, .int (I 2 1)), (6, .int (iR (I 2 1) 6)), (7, .int ((1 : Int32) <<< (((1 : Int32) + (iR ((I 2 1) / 6) 12)) &&& 31)))] [.int (F_X_afterX I (I 2 1)), .ref 2] (HS I L X)
      refine w_putI (Ev.cm _) rfl (Nat.le_of_ble_eq_true rfl) rfl ?_
      refine w_iload (Ev.cm _) rfl rfl ?_
      refine w_iconst (Ev.cm _) rfl ?_
      refine w_icmp_ge (Ev.cm _) rfl (fun c2 => ?_) (fun c2 => ?_)
      · have c2 : 2 ≤ iR (I 2 1) 6 := c2
        rw [if_pos c2] at q
        refine w_iload (Ev.cm _) rfl rfl ?_
        refine w_iconst (Ev.cm _) rfl ?_
        refine w_icmp_ne (Ev.cm _) rfl (fun c3 => ?_) (fun c3 => ?_)
        · have c3 : ¬ (iR (I 2 1) 6 = 2) := c3
          rw [if_neg c3] at q
          refine w_iload (Ev.cm _) rfl rfl ?_
          refine w_iconst (Ev.cm _) rfl ?_
          refine w_icmp_ne (Ev.cm _) rfl (fun c4 => ?_) (fun c4 => ?_)
          · have c4 : ¬ (iR (I 2 1) 6 = 3) := c4
            rw [if_neg c4] at q
            refine w_aload_n (Ev.cm _) rfl rfl ?_
            refine w_getI (Ev.cm _) rfl (Nat.le_of_ble_eq_true rfl) rfl ?_
            refine w_sipush (Ev.cm _) rfl ?_
            refine w_icmp_ge (Ev.cm _) rfl (fun c5 => ?_) (fun c5 => ?_)
            · have c5 : 9999 ≤ I 2 0 := c5
              rw [if_pos c5] at q
              refine w_iinc (ls2 := [(0, .ref 0), (1, .int x1), (2, .int x2), (3, .ref 2), (4, .int (x4 + 1)), (5, .int (I 2 1)), (6, .int (iR (I 2 1) 6)), (7, .int ((1 : Int32) <<< (((1 : Int32) + (iR ((I 2 1) / 6) 12)) &&& 31)))]) (Ev.cm _) rfl rfl rfl ?_
              refine w_goto (Ev.cm _) rfl ?_
              show Wp _ _ _ _ _ _ _ 56 [(0, .ref 0), (1, .int x1), (2, .int x2), (3, .ref 2), (4, .int (x4 + 1)), (5, .int (I 2 1)), (6, .int (iR (I 2 1) 6)), (7, .int ((1 : Int32) <<< (((1 : Int32) + (iR ((I 2 1) / 6) 12)) &&& 31)))] [] (HS (sI I 2 1 (F_X_afterX I (I 2 1))) L X)
              refine Wp.sub [0, 1, 2, 3, 4] (ls2 := [(0, .ref 0), (1, .int x1), (2, .int x2), (3, .ref 2), (4, .int (x4 + 1))]) rfl ?_
              exact ih _ _ _ _ _ q
            · have c5 : ¬ (9999 ≤ I 2 0) := c5
              rw [if_neg c5] at q
              refine w_aload_n (Ev.cm _) rfl rfl ?_
              obtain ⟨⟨r1, I1, L1⟩, e1, q⟩ := obs q
              dsimp only at q
              refine w_cvirt (o := 0) (as := []) (st := []) (Ev.cm _) rfl rfl rfl (Nat.le_of_ble_eq_true rfl) (Nat.le_of_ble_eq_true rfl) rfl (Nat.le_of_ble_eq_true rfl) (eo_X_passHour (g := ?_) e1)
              show Wp _ _ _ _ _ _ _ 231 [(0, .ref 0), (1, .int x1), (2, .int x2), (3, .ref 2), (4, .int x4), (5, .int (I 2 1)), (6, .int (iR (I 2 1) 6)), (7, .int ((1 : Int32) <<< (((1 : Int32) + (iR ((I 2 1) / 6) 12)) &&& 31)))] [.int r1] (HS I1 L1 X)
              refine w_pop (Ev.cm _) rfl rfl ?_
              refine w_iinc (ls2 := [(0, .ref 0), (1, .int x1), (2, .int x2), (3, .ref 2), (4, .int (x4 + 1)), (5, .int (I 2 1)), (6, .int (iR (I 2 1) 6)), (7, .int ((1 : Int32) <<< (((1 : Int32) + (iR ((I 2 1) / 6) 12)) &&& 31)))]) (Ev.cm _) rfl rfl rfl ?_
              refine w_goto (Ev.cm _) rfl ?_
              show Wp _ _ _ _ _ _ _ 56 [(0, .ref 0), (1, .int x1), (2, .int x2), (3, .ref 2), (4, .int (x4 + 1)), (5, .int (I 2 1)), (6, .int (iR (I 2 1) 6)), (7, .int ((1 : Int32) <<< (((1 : Int32) + (iR ((I 2 1) / 6) 12)) &&& 31)))] [] (HS I1 L1 X)
              refine Wp.sub [0, 1, 2, 3, 4] (ls2 := [(0, .ref 0), (1, .int x1), (2, .int x2), (3, .ref 2), (4, .int (x4 + 1))]) rfl ?_
              exact ih _ _ _ _ _ q
          · have c4 : iR (I 2 1) 6 = 3 := c4
            rw [if_pos c4] at q
            refine w_aload_n (Ev.cm _) rfl rfl ?_
            refine w_dup (Ev.cm _) rfl rfl ?_
            refine w_getI (Ev.cm _) rfl (Nat.le_of_ble_eq_true rfl) rfl ?_
            refine w_iload (Ev.cm _) rfl rfl ?_
            refine w_iconst (Ev.cm _) rfl ?_
            refine w_ixor (Ev.cm _) rfl ?_
            refine w_iand (Ev.cm _) rfl ?_
            refine w_putI (Ev.cm _) rfl (Nat.le_of_ble_eq_true rfl) rfl ?_
            refine w_goto (Ev.cm _) rfl ?_
            refine w_iinc (ls2 := [(0, .ref 0), (1, .int x1), (2, .int x2), (3, .ref 2), (4, .int (x4 + 1)), (5, .int (I 2 1)), (6, .int (iR (I 2 1) 6)), (7, .int ((1 : Int32) <<< (((1 : Int32) + (iR ((I 2 1) / 6) 12)) &&& 31)))]) (Ev.cm _) rfl rfl rfl ?_
            refine w_goto (Ev.cm _) rfl ?_
            show Wp _ _ _ _ _ _ _ 56 [(0, .ref 0), (1, .int x1), (2, .int x2), (3, .ref 2), (4, .int (x4 + 1)), (5, .int (I 2 1)), (6, .int (iR (I 2 1) 6)), (7, .int ((1 : Int32) <<< (((1 : Int32) + (iR ((I 2 1) / 6) 12)) &&& 31)))] [] (HS (sI (sI I 2 1 (F_X_afterX I (I 2 1))) 2 3 ((I 2 3) &&& (((1 : Int32) <<< (((1 : Int32) + (iR ((I 2 1) / 6) 12)) &&& 31)) ^^^ (-1)))) L X)
            refine Wp.sub [0, 1, 2, 3, 4] (ls2 := [(0, .ref 0), (1, .int x1), (2, .int x2), (3, .ref 2), (4, .int (x4 + 1))]) rfl ?_
            exact ih _ _ _ _ _ q
        · have c3 : iR (I 2 1) 6 = 2 := c3
          rw [if_pos c3] at q
          refine w_aload_n (Ev.cm _) rfl rfl ?_
          refine w_dup (Ev.cm _) rfl rfl ?_
          refine w_getI (Ev.cm _) rfl (Nat.le_of_ble_eq_true rfl) rfl ?_
          refine w_iload (Ev.cm _) rfl rfl ?_
          refine w_ior (Ev.cm _) rfl ?_
          refine w_putI (Ev.cm _) rfl (Nat.le_of_ble_eq_true rfl) rfl ?_
          refine w_goto (Ev.cm _) rfl ?_
          refine w_iinc (ls2 := [(0, .ref 0), (1, .int x1), (2, .int x2), (3, .ref 2), (4, .int (x4 + 1)), (5, .int (I 2 1)), (6, .int (iR (I 2 1) 6)), (7, .int ((1 : Int32) <<< (((1 : Int32) + (iR ((I 2 1) / 6) 12)) &&& 31)))]) (Ev.cm _) rfl rfl rfl ?_
          refine w_goto (Ev.cm _) rfl ?_
          show Wp _ _ _ _ _ _ _ 56 [(0, .ref 0), (1, .int x1), (2, .int x2), (3, .ref 2), (4, .int (x4 + 1)), (5, .int (I 2 1)), (6, .int (iR (I 2 1) 6)), (7, .int ((1 : Int32) <<< (((1 : Int32) + (iR ((I 2 1) / 6) 12)) &&& 31)))] [] (HS (sI (sI I 2 1 (F_X_afterX I (I 2 1))) 2 3 ((I 2 3) ||| ((1 : Int32) <<< (((1 : Int32) + (iR ((I 2 1) / 6) 12)) &&& 31)))) L X)
          refine Wp.sub [0, 1, 2, 3, 4] (ls2 := [(0, .ref 0), (1, .int x1), (2, .int x2), (3, .ref 2), (4, .int (x4 + 1))]) rfl ?_
          exact ih _ _ _ _ _ q
      · have c2 : ¬ (2 ≤ iR (I 2 1) 6) := c2
        rw [if_neg c2] at q
        refine w_aload_n (Ev.cm _) rfl rfl ?_
        refine w_getR (q := 1) (Ev.cm _) rfl (Nat.le_of_ble_eq_true rfl) rfl rfl ?_
        refine w_getI (Ev.cm _) rfl (Nat.le_of_ble_eq_true rfl) rfl ?_
        refine w_if_le (Ev.cm _) rfl (fun c6 => ?_) (fun c6 => ?_)
        · have c6 : I 1 2 ≤ 0 := c6
          rw [if_pos c6] at q
          refine w_iconst (Ev.cm _) rfl ?_
          refine w_istore (ls2 := [(0, .ref 0), (1, .int x1), (2, .int x2), (3, .ref 2), (4, .int x4), (5, .int (I 2 1)), (6, .int (iR (I 2 1) 6)), (7, .int ((1 : Int32) <<< (((1 : Int32) + (iR ((I 2 1) / 6) 12)) &&& 31))), (8, .int (-1))]) (Ev.cm _) rfl rfl ?_
          refine w_iload (Ev.cm _) rfl rfl ?_
          refine w_if_ne (Ev.cm _) rfl (fun c7 => ?_) (fun c7 => ?_)
          · have c7 : ¬ (iR (I 2 1) 6 = 0) := c7
            rw [if_neg c7] at q
            refine w_iconst (Ev.cm _) rfl ?_
            refine w_iload (Ev.cm _) rfl rfl ?_
            refine w_iconst (Ev.cm _) rfl ?_
            refine w_irem (Ev.cm _) rfl (by decide) ?_
            refine w_isub (Ev.cm _) rfl ?_
            refine w_istore (ls2 := [(0, .ref 0), (1, .int x1), (2, .int x2), (3, .ref 2), (4, .int x4), (5, .int (I 2 1)), (6, .int (iR (I 2 1) 6)), (7, .int ((1 : Int32) <<< (((1 : Int32) + (iR ((I 2 1) / 6) 12)) &&& 31))), (8, .int (-1)), (9, .int ((-1 : Int32) - (iR (I 2 1) 3)))]) (Ev.cm _) rfl rfl ?_
            refine w_aload_n (Ev.cm _) rfl rfl ?_
            refine w_iload (Ev.cm _) rfl rfl ?_
            refine w_iload (Ev.cm _) rfl rfl ?_
            obtain ⟨⟨r2, I2, L2⟩, e2, q⟩ := obs q
            dsimp only at q
            refine w_cvirt (o := 0) (as := [.int (-1), .int ((-1 : Int32) - (iR (I 2 1) 3))]) (st := []) (Ev.cm _) rfl rfl rfl (Nat.le_of_ble_eq_true rfl) (Nat.le_of_ble_eq_true rfl) rfl (Nat.le_of_ble_eq_true rfl) (eo_X_canGo (g := ?_) e2)
            show Wp _ _ _ _ _ _ _ 160 [(0, .ref 0), (1, .int x1), (2, .int x2), (3, .ref 2), (4, .int x4), (5, .int (I 2 1)), (6, .int (iR (I 2 1) 6)), (7, .int ((1 : Int32) <<< (((1 : Int32) + (iR ((I 2 1) / 6) 12)) &&& 31))), (8, .int (-1)), (9, .int ((-1 : Int32) - (iR (I 2 1) 3)))] [.int r2] (HS I2 L2 X)
            refine w_if_eq (Ev.cm _) rfl (fun c8 => ?_) (fun c8 => ?_)
            · have c8 : r2 = 0 := c8
              rw [if_pos c8] at q
              refine w_goto (Ev.cm _) rfl ?_
              refine w_iinc (ls2 := [(0, .ref 0), (1, .int x1), (2, .int x2), (3, .ref 2), (4, .int (x4 + 1)), (5, .int (I 2 1)), (6, .int (iR (I 2 1) 6)), (7, .int ((1 : Int32) <<< (((1 : Int32) + (iR ((I 2 1) / 6) 12)) &&& 31))), (8, .int (-1)), (9, .int ((-1 : Int32) - (iR (I 2 1) 3)))]) (Ev.cm _) rfl rfl rfl ?_
              refine w_goto (Ev.cm _) rfl ?_
              show Wp _ _ _ _ _ _ _ 56 [(0, .ref 0), (1, .int x1), (2, .int x2), (3, .ref 2), (4, .int (x4 + 1)), (5, .int (I 2 1)), (6, .int (iR (I 2 1) 6)), (7, .int ((1 : Int32) <<< (((1 : Int32) + (iR ((I 2 1) / 6) 12)) &&& 31))), (8, .int (-1)), (9, .int ((-1 : Int32) - (iR (I 2 1) 3)))] [] (HS I2 L2 X)
              refine Wp.sub [0, 1, 2, 3, 4] (ls2 := [(0, .ref 0), (1, .int x1), (2, .int x2), (3, .ref 2), (4, .int (x4 + 1))]) rfl ?_
              exact ih _ _ _ _ _ q
            · have c8 : ¬ (r2 = 0) := c8
              rw [if_neg c8] at q
              refine w_aload_n (Ev.cm _) rfl rfl ?_
              refine w_iload (Ev.cm _) rfl rfl ?_
              refine w_iload (Ev.cm _) rfl rfl ?_
              obtain ⟨⟨r3, I3, L3⟩, e3, q⟩ := obs q
              dsimp only at q
              refine w_cvirt (o := 0) (as := [.int (-1), .int ((-1 : Int32) - (iR (I 2 1) 3))]) (st := []) (Ev.cm _) rfl rfl rfl (Nat.le_of_ble_eq_true rfl) (Nat.le_of_ble_eq_true rfl) rfl (Nat.le_of_ble_eq_true rfl) (eo_X_go (g := ?_) e3)
              show Wp _ _ _ _ _ _ _ 171 [(0, .ref 0), (1, .int x1), (2, .int x2), (3, .ref 2), (4, .int x4), (5, .int (I 2 1)), (6, .int (iR (I 2 1) 6)), (7, .int ((1 : Int32) <<< (((1 : Int32) + (iR ((I 2 1) / 6) 12)) &&& 31))), (8, .int (-1)), (9, .int ((-1 : Int32) - (iR (I 2 1) 3)))] [.int r3] (HS I3 L3 X)
              refine w_pop (Ev.cm _) rfl rfl ?_
              refine w_goto (Ev.cm _) rfl ?_
              refine w_iinc (ls2 := [(0, .ref 0), (1, .int x1), (2, .int x2), (3, .ref 2), (4, .int (x4 + 1)), (5, .int (I 2 1)), (6, .int (iR (I 2 1) 6)), (7, .int ((1 : Int32) <<< (((1 : Int32) + (iR ((I 2 1) / 6) 12)) &&& 31))), (8, .int (-1)), (9, .int ((-1 : Int32) - (iR (I 2 1) 3)))]) (Ev.cm _) rfl rfl rfl ?_
              refine w_goto (Ev.cm _) rfl ?_
              show Wp _ _ _ _ _ _ _ 56 [(0, .ref 0), (1, .int x1), (2, .int x2), (3, .ref 2), (4, .int (x4 + 1)), (5, .int (I 2 1)), (6, .int (iR (I 2 1) 6)), (7, .int ((1 : Int32) <<< (((1 : Int32) + (iR ((I 2 1) / 6) 12)) &&& 31))), (8, .int (-1)), (9, .int ((-1 : Int32) - (iR (I 2 1) 3)))] [] (HS I3 L3 X)
              refine Wp.sub [0, 1, 2, 3, 4] (ls2 := [(0, .ref 0), (1, .int x1), (2, .int x2), (3, .ref 2), (4, .int (x4 + 1))]) rfl ?_
              exact ih _ _ _ _ _ q
          · have c7 : iR (I 2 1) 6 = 0 := c7
            rw [if_pos c7] at q
            refine w_iconst (Ev.cm _) rfl ?_
            refine w_iload (Ev.cm _) rfl rfl ?_
            refine w_iconst (Ev.cm _) rfl ?_
            refine w_irem (Ev.cm _) rfl (by decide) ?_
            refine w_iadd (Ev.cm _) rfl ?_
            refine w_goto (Ev.cm _) rfl ?_
            refine w_istore (ls2 := [(0, .ref 0), (1, .int x1), (2, .int x2), (3, .ref 2), (4, .int x4), (5, .int (I 2 1)), (6, .int (iR (I 2 1) 6)), (7, .int ((1 : Int32) <<< (((1 : Int32) + (iR ((I 2 1) / 6) 12)) &&& 31))), (8, .int (-1)), (9, .int ((1 : Int32) + (iR (I 2 1) 3)))]) (Ev.cm _) rfl rfl ?_
            refine w_aload_n (Ev.cm _) rfl rfl ?_
            refine w_iload (Ev.cm _) rfl rfl ?_
            refine w_iload (Ev.cm _) rfl rfl ?_
            obtain ⟨⟨r4, I4, L4⟩, e4, q⟩ := obs q
            dsimp only at q
            refine w_cvirt (o := 0) (as := [.int (-1), .int ((1 : Int32) + (iR (I 2 1) 3))]) (st := []) (Ev.cm _) rfl rfl rfl (Nat.le_of_ble_eq_true rfl) (Nat.le_of_ble_eq_true rfl) rfl (Nat.le_of_ble_eq_true rfl) (eo_X_canGo (g := ?_) e4)
            show Wp _ _ _ _ _ _ _ 160 [(0, .ref 0), (1, .int x1), (2, .int x2), (3, .ref 2), (4, .int x4), (5, .int (I 2 1)), (6, .int (iR (I 2 1) 6)), (7, .int ((1 : Int32) <<< (((1 : Int32) + (iR ((I 2 1) / 6) 12)) &&& 31))), (8, .int (-1)), (9, .int ((1 : Int32) + (iR (I 2 1) 3)))] [.int r4] (HS I4 L4 X)
            refine w_if_eq (Ev.cm _) rfl (fun c9 => ?_) (fun c9 => ?_)
            · have c9 : r4 = 0 := c9
              rw [if_pos c9] at q
              refine w_goto (Ev.cm _) rfl ?_
              refine w_iinc (ls2 := [(0, .ref 0), (1, .int x1), (2, .int x2), (3, .ref 2), (4, .int (x4 + 1)), (5, .int (I 2 1)), (6, .int (iR (I 2 1) 6)), (7, .int ((1 : Int32) <<< (((1 : Int32) + (iR ((I 2 1) / 6) 12)) &&& 31))), (8, .int (-1)), (9, .int ((1 : Int32) + (iR (I 2 1) 3)))]) (Ev.cm _) rfl rfl rfl ?_
              refine w_goto (Ev.cm _) rfl ?_
              show Wp _ _ _ _ _ _ _ 56 [(0, .ref 0), (1, .int x1), (2, .int x2), (3, .ref 2), (4, .int (x4 + 1)), (5, .int (I 2 1)), (6, .int (iR (I 2 1) 6)), (7, .int ((1 : Int32) <<< (((1 : Int32) + (iR ((I 2 1) / 6) 12)) &&& 31))), (8, .int (-1)), (9, .int ((1 : Int32) + (iR (I 2 1) 3)))] [] (HS I4 L4 X)
              refine Wp.sub [0, 1, 2, 3, 4] (ls2 := [(0, .ref 0), (1, .int x1), (2, .int x2), (3, .ref 2), (4, .int (x4 + 1))]) rfl ?_
              exact ih _ _ _ _ _ q
            · have c9 : ¬ (r4 = 0) := c9
              rw [if_neg c9] at q
              refine w_aload_n (Ev.cm _) rfl rfl ?_
              refine w_iload (Ev.cm _) rfl rfl ?_
              refine w_iload (Ev.cm _) rfl rfl ?_
              obtain ⟨⟨r5, I5, L5⟩, e5, q⟩ := obs q
              dsimp only at q
              refine w_cvirt (o := 0) (as := [.int (-1), .int ((1 : Int32) + (iR (I 2 1) 3))]) (st := []) (Ev.cm _) rfl rfl rfl (Nat.le_of_ble_eq_true rfl) (Nat.le_of_ble_eq_true rfl) rfl (Nat.le_of_ble_eq_true rfl) (eo_X_go (g := ?_) e5)
              show Wp _ _ _ _ _ _ _ 171 [(0, .ref 0), (1, .int x1), (2, .int x2), (3, .ref 2), (4, .int x4), (5, .int (I 2 1)), (6, .int (iR (I 2 1) 6)), (7, .int ((1 : Int32) <<< (((1 : Int32) + (iR ((I 2 1) / 6) 12)) &&& 31))), (8, .int (-1)), (9, .int ((1 : Int32) + (iR (I 2 1) 3)))] [.int r5] (HS I5 L5 X)
              refine w_pop (Ev.cm _) rfl rfl ?_
              refine w_goto (Ev.cm _) rfl ?_
              refine w_iinc (ls2 := [(0, .ref 0), (1, .int x1), (2, .int x2), (3, .ref 2), (4, .int (x4 + 1)), (5, .int (I 2 1)), (6, .int (iR (I 2 1) 6)), (7, .int ((1 : Int32) <<< (((1 : Int32) + (iR ((I 2 1) / 6) 12)) &&& 31))), (8, .int (-1)), (9, .int ((1 : Int32) + (iR (I 2 1) 3)))]) (Ev.cm _) rfl rfl rfl ?_
              refine w_goto (Ev.cm _) rfl ?_
              show Wp _ _ _ _ _ _ _ 56 [(0, .ref 0), (1, .int x1), (2, .int x2), (3, .ref 2), (4, .int (x4 + 1)), (5, .int (I 2 1)), (6, .int (iR (I 2 1) 6)), (7, .int ((1 : Int32) <<< (((1 : Int32) + (iR ((I 2 1) / 6) 12)) &&& 31))), (8, .int (-1)), (9, .int ((1 : Int32) + (iR (I 2 1) 3)))] [] (HS I5 L5 X)
              refine Wp.sub [0, 1, 2, 3, 4] (ls2 := [(0, .ref 0), (1, .int x1), (2, .int x2), (3, .ref 2), (4, .int (x4 + 1))]) rfl ?_
              exact ih _ _ _ _ _ q
        · have c6 : ¬ (I 1 2 ≤ 0) := c6
          rw [if_neg c6] at q
          refine w_iload (Ev.cm _) rfl rfl ?_
          refine w_aload_n (Ev.cm _) rfl rfl ?_
          refine w_getR (q := 1) (Ev.cm _) rfl (Nat.le_of_ble_eq_true rfl) rfl rfl ?_
          refine w_getI (Ev.cm _) rfl (Nat.le_of_ble_eq_true rfl) rfl ?_
          obtain ⟨b6, q⟩ := ois q
          refine w_irem (Ev.cm _) rfl b6 ?_
          refine w_goto (Ev.cm _) rfl ?_
          refine w_istore (ls2 := [(0, .ref 0), (1, .int x1), (2, .int x2), (3, .ref 2), (4, .int x4), (5, .int (I 2 1)), (6, .int (iR (I 2 1) 6)), (7, .int ((1 : Int32) <<< (((1 : Int32) + (iR ((I 2 1) / 6) 12)) &&& 31))), (8, .int (iR (I 2 1) (I 1 2)))]) (Ev.cm _) rfl rfl ?_
          refine w_iload (Ev.cm _) rfl rfl ?_
          refine w_if_ne (Ev.cm _) rfl (fun c10 => ?_) (fun c10 => ?_)
          · have c10 : ¬ (iR (I 2 1) 6 = 0) := c10
            rw [if_neg c10] at q
            refine w_iconst (Ev.cm _) rfl ?_
            refine w_iload (Ev.cm _) rfl rfl ?_
            refine w_iconst (Ev.cm _) rfl ?_
            refine w_irem (Ev.cm _) rfl (by decide) ?_
            refine w_isub (Ev.cm _) rfl ?_
            refine w_istore (ls2 := [(0, .ref 0), (1, .int x1), (2, .int x2), (3, .ref 2), (4, .int x4), (5, .int (I 2 1)), (6, .int (iR (I 2 1) 6)), (7, .int ((1 : Int32) <<< (((1 : Int32) + (iR ((I 2 1) / 6) 12)) &&& 31))), (8, .int (iR (I 2 1) (I 1 2))), (9, .int ((-1 : Int32) - (iR (I 2 1) 3)))]) (Ev.cm _) rfl rfl ?_
            refine w_aload_n (Ev.cm _) rfl rfl ?_
            refine w_iload (Ev.cm _) rfl rfl ?_
            refine w_iload (Ev.cm _) rfl rfl ?_
            obtain ⟨⟨r7, I7, L7⟩, e7, q⟩ := obs q
            dsimp only at q
            refine w_cvirt (o := 0) (as := [.int (iR (I 2 1) (I 1 2)), .int ((-1 : Int32) - (iR (I 2 1) 3))]) (st := []) (Ev.cm _) rfl rfl rfl (Nat.le_of_ble_eq_true rfl) (Nat.le_of_ble_eq_true rfl) rfl (Nat.le_of_ble_eq_true rfl) (eo_X_canGo (g := ?_) e7)
            show Wp _ _ _ _ _ _ _ 160 [(0, .ref 0), (1, .int x1), (2, .int x2), (3, .ref 2), (4, .int x4), (5, .int (I 2 1)), (6, .int (iR (I 2 1) 6)), (7, .int ((1 : Int32) <<< (((1 : Int32) + (iR ((I 2 1) / 6) 12)) &&& 31))), (8, .int (iR (I 2 1) (I 1 2))), (9, .int ((-1 : Int32) - (iR (I 2 1) 3)))] [.int r7] (HS I7 L7 X)
            refine w_if_eq (Ev.cm _) rfl (fun c11 => ?_) (fun c11 => ?_)
            · have c11 : r7 = 0 := c11
              rw [if_pos c11] at q
              refine w_goto (Ev.cm _) rfl ?_
              refine w_iinc (ls2 := [(0, .ref 0), (1, .int x1), (2, .int x2), (3, .ref 2), (4, .int (x4 + 1)), (5, .int (I 2 1)), (6, .int (iR (I 2 1) 6)), (7, .int ((1 : Int32) <<< (((1 : Int32) + (iR ((I 2 1) / 6) 12)) &&& 31))), (8, .int (iR (I 2 1) (I 1 2))), (9, .int ((-1 : Int32) - (iR (I 2 1) 3)))]) (Ev.cm _) rfl rfl rfl ?_
              refine w_goto (Ev.cm _) rfl ?_
              show Wp _ _ _ _ _ _ _ 56 [(0, .ref 0), (1, .int x1), (2, .int x2), (3, .ref 2), (4, .int (x4 + 1)), (5, .int (I 2 1)), (6, .int (iR (I 2 1) 6)), (7, .int ((1 : Int32) <<< (((1 : Int32) + (iR ((I 2 1) / 6) 12)) &&& 31))), (8, .int (iR (I 2 1) (I 1 2))), (9, .int ((-1 : Int32) - (iR (I 2 1) 3)))] [] (HS I7 L7 X)
              refine Wp.sub [0, 1, 2, 3, 4] (ls2 := [(0, .ref 0), (1, .int x1), (2, .int x2), (3, .ref 2), (4, .int (x4 + 1))]) rfl ?_
              exact ih _ _ _ _ _ q
            · have c11 : ¬ (r7 = 0) := c11
              rw [if_neg c11] at q
              refine w_aload_n (Ev.cm _) rfl rfl ?_
              refine w_iload (Ev.cm _) rfl rfl ?_
              refine w_iload (Ev.cm _) rfl rfl ?_
              obtain ⟨⟨r8, I8, L8⟩, e8, q⟩ := obs q
              dsimp only at q
              refine w_cvirt (o := 0) (as := [.int (iR (I 2 1) (I 1 2)), .int ((-1 : Int32) - (iR (I 2 1) 3))]) (st := []) (Ev.cm _) rfl rfl rfl (Nat.le_of_ble_eq_true rfl) (Nat.le_of_ble_eq_true rfl) rfl (Nat.le_of_ble_eq_true rfl) (eo_X_go (g := ?_) e8)
              show Wp _ _ _ _ _ _ _ 171 [(0, .ref 0), (1, .int x1), (2, .int x2), (3, .ref 2), (4, .int x4), (5, .int (I 2 1)), (6, .int (iR (I 2 1) 6)), (7, .int ((1 : Int32) <<< (((1 : Int32) + (iR ((I 2 1) / 6) 12)) &&& 31))), (8, .int (iR (I 2 1) (I 1 2))), (9, .int ((-1 : Int32) - (iR (I 2 1) 3)))] [.int r8] (HS I8 L8 X)
              refine w_pop (Ev.cm _) rfl rfl ?_
              refine w_goto (Ev.cm _) rfl ?_
              refine w_iinc (ls2 := [(0, .ref 0), (1, .int x1), (2, .int x2), (3, .ref 2), (4, .int (x4 + 1)), (5, .int (I 2 1)), (6, .int (iR (I 2 1) 6)), (7, .int ((1 : Int32) <<< (((1 : Int32) + (iR ((I 2 1) / 6) 12)) &&& 31))), (8, .int (iR (I 2 1) (I 1 2))), (9, .int ((-1 : Int32) - (iR (I 2 1) 3)))]) (Ev.cm _) rfl rfl rfl ?_
              refine w_goto (Ev.cm _) rfl ?_
              show Wp _ _ _ _ _ _ _ 56 [(0, .ref 0), (1, .int x1), (2, .int x2), (3, .ref 2), (4, .int (x4 + 1)), (5, .int (I 2 1)), (6, .int (iR (I 2 1) 6)), (7, .int ((1 : Int32) <<< (((1 : Int32) + (iR ((I 2 1) / 6) 12)) &&& 31))), (8, .int (iR (I 2 1) (I 1 2))), (9, .int ((-1 : Int32) - (iR (I 2 1) 3)))] [] (HS I8 L8 X)
              refine Wp.sub [0, 1, 2, 3, 4] (ls2 := [(0, .ref 0), (1, .int x1), (2, .int x2), (3, .ref 2), (4, .int (x4 + 1))]) rfl ?_
              exact ih _ _ _ _ _ q
          · have c10 : iR (I 2 1) 6 = 0 := c10
            rw [if_pos c10] at q
            refine w_iconst (Ev.cm _) rfl ?_
            refine w_iload (Ev.cm _) rfl rfl ?_
            refine w_iconst (Ev.cm _) rfl ?_
            refine w_irem (Ev.cm _) rfl (by decide) ?_
            refine w_iadd (Ev.cm _) rfl ?_
            refine w_goto (Ev.cm _) rfl ?_
            refine w_istore (ls2 := [(0, .ref 0), (1, .int x1), (2, .int x2), (3, .ref 2), (4, .int x4), (5, .int (I 2 1)), (6, .int (iR (I 2 1) 6)), (7, .int ((1 : Int32) <<< (((1 : Int32) + (iR ((I 2 1) / 6) 12)) &&& 31))), (8, .int (iR (I 2 1) (I 1 2))), (9, .int ((1 : Int32) + (iR (I 2 1) 3)))]) (Ev.cm _) rfl rfl ?_
            refine w_aload_n (Ev.cm _) rfl rfl ?_
            refine w_iload (Ev.cm _) rfl rfl ?_
            refine w_iload (Ev.cm _) rfl rfl ?_
            obtain ⟨⟨r9, I9, L9⟩, e9, q⟩ := obs q
            dsimp only at q
            refine w_cvirt (o := 0) (as := [.int (iR (I 2 1) (I 1 2)), .int ((1 : Int32) + (iR (I 2 1) 3))]) (st := []) (Ev.cm _) rfl rfl rfl (Nat.le_of_ble_eq_true rfl) (Nat.le_of_ble_eq_true rfl) rfl (Nat.le_of_ble_eq_true rfl) (eo_X_canGo (g := ?_) e9)
            show Wp _ _ _ _ _ _ _ 160 [(0, .ref 0), (1, .int x1), (2, .int x2), (3, .ref 2), (4, .int x4), (5, .int (I 2 1)), (6, .int (iR (I 2 1) 6)), (7, .int ((1 : Int32) <<< (((1 : Int32) + (iR ((I 2 1) / 6) 12)) &&& 31))), (8, .int (iR (I 2 1) (I 1 2))), (9, .int ((1 : Int32) + (iR (I 2 1) 3)))] [.int r9] (HS I9 L9 X)
            refine w_if_eq (Ev.cm _) rfl (fun c12 => ?_) (fun c12 => ?_)
            · have c12 : r9 = 0 := c12
              rw [if_pos c12] at q
              refine w_goto (Ev.cm _) rfl ?_
              refine w_iinc (ls2 := [(0, .ref 0), (1, .int x1), (2, .int x2), (3, .ref 2), (4, .int (x4 + 1)), (5, .int (I 2 1)), (6, .int (iR (I 2 1) 6)), (7, .int ((1 : Int32) <<< (((1 : Int32) + (iR ((I 2 1) / 6) 12)) &&& 31))), (8, .int (iR (I 2 1) (I 1 2))), (9, .int ((1 : Int32) + (iR (I 2 1) 3)))]) (Ev.cm _) rfl rfl rfl ?_
              refine w_goto (Ev.cm _) rfl ?_
              show Wp _ _ _ _ _ _ _ 56 [(0, .ref 0), (1, .int x1), (2, .int x2), (3, .ref 2), (4, .int (x4 + 1)), (5, .int (I 2 1)), (6, .int (iR (I 2 1) 6)), (7, .int ((1 : Int32) <<< (((1 : Int32) + (iR ((I 2 1) / 6) 12)) &&& 31))), (8, .int (iR (I 2 1) (I 1 2))), (9, .int ((1 : Int32) + (iR (I 2 1) 3)))] [] (HS I9 L9 X)
              refine Wp.sub [0, 1, 2, 3, 4] (ls2 := [(0, .ref 0), (1, .int x1), (2, .int x2), (3, .ref 2), (4, .int (x4 + 1))]) rfl ?_
              exact ih _ _ _ _ _ q
            · have c12 : ¬ (r9 = 0) := c12
              rw [if_neg c12] at q
              refine w_aload_n (Ev.cm _) rfl rfl ?_
              refine w_iload (Ev.cm _) rfl rfl ?_
              refine w_iload (Ev.cm _) rfl rfl ?_
              obtain ⟨⟨r10, I10, L10⟩, e10, q⟩ := obs q
              dsimp only at q
              refine w_cvirt (o := 0) (as := [.int (iR (I 2 1) (I 1 2)), .int ((1 : Int32) + (iR (I 2 1) 3))]) (st := []) (Ev.cm _) rfl rfl rfl (Nat.le_of_ble_eq_true rfl) (Nat.le_of_ble_eq_true rfl) rfl (Nat.le_of_ble_eq_true rfl) (eo_X_go (g := ?_) e10)
              show Wp _ _ _ _ _ _ _ 171 [(0, .ref 0), (1, .int x1), (2, .int x2), (3, .ref 2), (4, .int x4), (5, .int (I 2 1)), (6, .int (iR (I 2 1) 6)), (7, .int ((1 : Int32) <<< (((1 : Int32) + (iR ((I 2 1) / 6) 12)) &&& 31))), (8, .int (iR (I 2 1) (I 1 2))), (9, .int ((1 : Int32) + (iR (I 2 1) 3)))] [.int r10] (HS I10 L10 X)
              refine w_pop (Ev.cm _) rfl rfl ?_
              refine w_goto (Ev.cm _) rfl ?_
              refine w_iinc (ls2 := [(0, .ref 0), (1, .int x1), (2, .int x2), (3, .ref 2), (4, .int (x4 + 1)), (5, .int (I 2 1)), (6, .int (iR (I 2 1) 6)), (7, .int ((1 : Int32) <<< (((1 : Int32) + (iR ((I 2 1) / 6) 12)) &&& 31))), (8, .int (iR (I 2 1) (I 1 2))), (9, .int ((1 : Int32) + (iR (I 2 1) 3)))]) (Ev.cm _) rfl rfl rfl ?_
              refine w_goto (Ev.cm _) rfl ?_
              show Wp _ _ _ _ _ _ _ 56 [(0, .ref 0), (1, .int x1), (2, .int x2), (3, .ref 2), (4, .int (x4 + 1)), (5, .int (I 2 1)), (6, .int (iR (I 2 1) 6)), (7, .int ((1 : Int32) <<< (((1 : Int32) + (iR ((I 2 1) / 6) 12)) &&& 31))), (8, .int (iR (I 2 1) (I 1 2))), (9, .int ((1 : Int32) + (iR (I 2 1) 3)))] [] (HS I10 L10 X)
              refine Wp.sub [0, 1, 2, 3, 4] (ls2 := [(0, .ref 0), (1, .int x1), (2, .int x2), (3, .ref 2), (4, .int (x4 + 1))]) rfl ?_
              exact ih _ _ _ _ _ q
def FO_X_nights (fu : Nat) (p0 : Int32) (p1 : Int32) (I : Nat → Nat → Int32) (L : Nat → Nat → Int64) : Option (Int32 × (Nat → Nat → Int32) × (Nat → Nat → Int64)) := if (0 : Int32) ≤ p0 ∧ p0 ≤ (9999 : Int32) then (if (1 : Int32) ≤ p1 ∧ p1 ≤ (40 : Int32) then ((FO_S_keep fu  I L).bind (fun u1 => let r1 := u1.1; let I1 := u1.2.1; let L1 := u1.2.2; LO_X_nights_56 fu fu p0 p1 0 (sI I1 2 1 ((p0 * 2) + 293)) L1)) else (some ((-1), I, L))) else (some ((-1), I, L))
set_option maxHeartbeats 20000000 in
set_option maxRecDepth 20000 in
theorem eo_X_nights {d fu : Nat} {p0 : Int32} {p1 : Int32} {I : Nat → Nat → Int32} {L : Nat → Nat → Int64} {X : Nat × (Nat → Int32)} {Q : PQ} {res : Int32 × (Nat → Nat → Int32) × (Nat → Nat → Int64)}  (g : Q (some (.int res.1)) (HS res.2.1 res.2.2 X)) (q : FO_X_nights fu p0 p1 I L = some res) : Ev (d + 8) m_X_nights [.ref 0, .int p0, .int p1] (HS I L X) Q := by
  unfold FO_X_nights at q
  refine ev_start (d := d + 7) rfl rfl rfl (Nat.le_of_ble_eq_true rfl) ?_
  show Wp (Ev (d + 7)) cd_X_nights (0, 0) (some .int) _ _ Q 0 [(0, .ref 0), (1, .int p0), (2, .int p1)] [] (HS I L X)
  refine w_iload_n (Ev.cm _) rfl rfl ?_
  refine w_iconst (Ev.cm _) rfl ?_
  refine w_sipush (Ev.cm _) rfl ?_
  refine w_cstat (as := [.int p0, .int 0, .int 9999]) (st := []) (Ev.cm _) rfl rfl rfl (Nat.le_of_ble_eq_true rfl) (Nat.le_of_ble_eq_true rfl) (x_within ?_)
  show Wp _ _ _ _ _ _ _ 8 [(0, .ref 0), (1, .int p0), (2, .int p1)] [.int (bI ((0 : Int32) ≤ p0 ∧ p0 ≤ (9999 : Int32)))] (HS I L X)
  refine w_if_eq (Ev.cm _) rfl (fun c1 => ?_) (fun c1 => ?_)
  · have c1 : ¬ ((0 : Int32) ≤ p0 ∧ p0 ≤ (9999 : Int32)) := bI_0.mp c1
    rw [if_neg c1] at q
    refine w_iconst (Ev.cm _) rfl ?_
    refine w_ireturn (Ev.cm _) rfl trivial rf0 ?_
    cases q
    exact g
  · have c1 : (0 : Int32) ≤ p0 ∧ p0 ≤ (9999 : Int32) := bI_1.mp c1
    rw [if_pos c1] at q
    refine w_iload_n (Ev.cm _) rfl rfl ?_
    refine w_iconst (Ev.cm _) rfl ?_
    refine w_bipush (Ev.cm _) rfl ?_
    refine w_cstat (as := [.int p1, .int 1, .int 40]) (st := []) (Ev.cm _) rfl rfl rfl (Nat.le_of_ble_eq_true rfl) (Nat.le_of_ble_eq_true rfl) (x_within ?_)
    show Wp _ _ _ _ _ _ _ 18 [(0, .ref 0), (1, .int p0), (2, .int p1)] [.int (bI ((1 : Int32) ≤ p1 ∧ p1 ≤ (40 : Int32)))] (HS I L X)
    refine w_if_ne (Ev.cm _) rfl (fun c2 => ?_) (fun c2 => ?_)
    · have c2 : (1 : Int32) ≤ p1 ∧ p1 ≤ (40 : Int32) := bI_1.mp c2
      rw [if_pos c2] at q
      refine w_aload_n (Ev.cm _) rfl rfl ?_
      refine w_getR (q := 1) (Ev.cm _) rfl (Nat.le_of_ble_eq_true rfl) rfl rfl ?_
      refine w_getR (q := 2) (Ev.cm _) rfl (Nat.le_of_ble_eq_true rfl) rfl rfl ?_
      refine w_astore_n (ls2 := [(0, .ref 0), (1, .int p0), (2, .int p1), (3, .ref 2)]) (Ev.cm _) rfl trivial rfl ?_
      refine w_aload_n (Ev.cm _) rfl rfl ?_
      refine w_getR (q := 1) (Ev.cm _) rfl (Nat.le_of_ble_eq_true rfl) rfl rfl ?_
      refine w_getR (q := 6) (Ev.cm _) rfl (Nat.le_of_ble_eq_true rfl) rfl rfl ?_
      refine w_aload_n (Ev.cm _) rfl rfl ?_
      obtain ⟨⟨r1, I1, L1⟩, e1, q⟩ := obs q
      dsimp only at q
      refine w_cvirt (o := 6) (as := [.ref 2]) (st := []) (Ev.cm _) rfl rfl rfl (Nat.le_of_ble_eq_true rfl) (Nat.le_of_ble_eq_true rfl) rfl (Nat.le_of_ble_eq_true rfl) (eo_S_keep (g := ?_) e1)
      show Wp _ _ _ _ _ _ _ 42 [(0, .ref 0), (1, .int p0), (2, .int p1), (3, .ref 2)] [] (HS I1 L1 X)
      refine w_aload_n (Ev.cm _) rfl rfl ?_
      refine w_iload_n (Ev.cm _) rfl rfl ?_
      refine w_iconst (Ev.cm _) rfl ?_
      refine w_imul (Ev.cm _) rfl ?_
      refine w_sipush (Ev.cm _) rfl ?_
      refine w_iadd (Ev.cm _) rfl ?_
      refine w_putI (Ev.cm _) rfl (Nat.le_of_ble_eq_true rfl) rfl ?_
      refine w_iconst (Ev.cm _) rfl ?_
      refine w_istore (ls2 := [(0, .ref 0), (1, .int p0), (2, .int p1), (3, .ref 2), (4, .int 0)]) (Ev.cm _) rfl rfl ?_
      show Wp _ _ _ _ _ _ _ 56 [(0, .ref 0), (1, .int p0), (2, .int p1), (3, .ref 2), (4, .int 0)] [] (HS (sI I1 2 1 ((p0 * 2) + 293)) L1 X)
      refine Wp.sub [0, 1, 2, 3, 4] (ls2 := [(0, .ref 0), (1, .int p0), (2, .int p1), (3, .ref 2), (4, .int 0)]) rfl ?_
      exact lo_X_nights_56 g fu _ _ _ _ _ q
    · have c2 : ¬ ((1 : Int32) ≤ p1 ∧ p1 ≤ (40 : Int32)) := bI_0.mp c2
      rw [if_neg c2] at q
      refine w_iconst (Ev.cm _) rfl ?_
      refine w_ireturn (Ev.cm _) rfl trivial rf0 ?_
      cases q
      exact g
def FO_X_treadAsStep (fu : Nat) (p0 : Int32) (p1 : Int32) (p2 : Int32) (I : Nat → Nat → Int32) (L : Nat → Nat → Int64) : Option (Int32 × (Nat → Nat → Int32) × (Nat → Nat → Int64)) := if (1 : Int32) ≤ p2 ∧ p2 ≤ (3 : Int32) then (if p1 = 0 then ((FO_X_canGo fu p0 (-p2) I L).bind (fun u1 => let r1 := u1.1; let I1 := u1.2.1; let L1 := u1.2.2; if r1 = 0 then (some ((-1), I1, L1)) else ((FO_S_keep fu  I1 L1).bind (fun u2 => let r2 := u2.1; let I2 := u2.2.1; let L2 := u2.2.2; if p1 = 0 then ((FO_X_go fu p0 (-p2) I2 L2).bind (fun u3 => let r3 := u3.1; let I3 := u3.2.1; let L3 := u3.2.2; some (r3, I3, L3))) else ((FO_X_go fu p0 p2 I2 L2).bind (fun u4 => let r4 := u4.1; let I4 := u4.2.1; let L4 := u4.2.2; some (r4, I4, L4))))))) else ((FO_X_canGo fu p0 p2 I L).bind (fun u5 => let r5 := u5.1; let I5 := u5.2.1; let L5 := u5.2.2; if r5 = 0 then (some ((-1), I5, L5)) else ((FO_S_keep fu  I5 L5).bind (fun u6 => let r6 := u6.1; let I6 := u6.2.1; let L6 := u6.2.2; if p1 = 0 then ((FO_X_go fu p0 (-p2) I6 L6).bind (fun u7 => let r7 := u7.1; let I7 := u7.2.1; let L7 := u7.2.2; some (r7, I7, L7))) else ((FO_X_go fu p0 p2 I6 L6).bind (fun u8 => let r8 := u8.1; let I8 := u8.2.1; let L8 := u8.2.2; some (r8, I8, L8)))))))) else (some ((-1), I, L))
set_option maxHeartbeats 20000000 in
set_option maxRecDepth 20000 in
theorem eo_X_treadAsStep {d fu : Nat} {p0 : Int32} {p1 : Int32} {p2 : Int32} {I : Nat → Nat → Int32} {L : Nat → Nat → Int64} {X : Nat × (Nat → Int32)} {Q : PQ} {res : Int32 × (Nat → Nat → Int32) × (Nat → Nat → Int64)}  (g : Q (some (.int res.1)) (HS res.2.1 res.2.2 X)) (q : FO_X_treadAsStep fu p0 p1 p2 I L = some res) : Ev (d + 7) m_X_treadAsStep [.ref 0, .int p0, .int p1, .int p2] (HS I L X) Q := by
  unfold FO_X_treadAsStep at q
  refine ev_start (d := d + 6) rfl rfl rfl (Nat.le_of_ble_eq_true rfl) ?_
  show Wp (Ev (d + 6)) cd_X_treadAsStep (0, 0) (some .int) _ _ Q 0 [(0, .ref 0), (1, .int p0), (2, .int p1), (3, .int p2)] [] (HS I L X)
  refine w_iload_n (Ev.cm _) rfl rfl ?_
  refine w_iconst (Ev.cm _) rfl ?_
  refine w_iconst (Ev.cm _) rfl ?_
  refine w_cstat (as := [.int p2, .int 1, .int 3]) (st := []) (Ev.cm _) rfl rfl rfl (Nat.le_of_ble_eq_true rfl) (Nat.le_of_ble_eq_true rfl) (x_within ?_)
  show Wp _ _ _ _ _ _ _ 6 [(0, .ref 0), (1, .int p0), (2, .int p1), (3, .int p2)] [.int (bI ((1 : Int32) ≤ p2 ∧ p2 ≤ (3 : Int32)))] (HS I L X)
  refine w_if_eq (Ev.cm _) rfl (fun c1 => ?_) (fun c1 => ?_)
  · have c1 : ¬ ((1 : Int32) ≤ p2 ∧ p2 ≤ (3 : Int32)) := bI_0.mp c1
    rw [if_neg c1] at q
    refine w_iconst (Ev.cm _) rfl ?_
    refine w_ireturn (Ev.cm _) rfl trivial rf0 ?_
    cases q
    exact g
  · have c1 : (1 : Int32) ≤ p2 ∧ p2 ≤ (3 : Int32) := bI_1.mp c1
    rw [if_pos c1] at q
    refine w_aload_n (Ev.cm _) rfl rfl ?_
    refine w_iload_n (Ev.cm _) rfl rfl ?_
    refine w_iload_n (Ev.cm _) rfl rfl ?_
    refine w_if_eq (Ev.cm _) rfl (fun c2 => ?_) (fun c2 => ?_)
    · have c2 : p1 = 0 := c2
      rw [if_pos c2] at q
      refine w_iload_n (Ev.cm _) rfl rfl ?_
      refine w_ineg (Ev.cm _) rfl ?_
      obtain ⟨⟨r1, I1, L1⟩, e1, q⟩ := obs q
      dsimp only at q
      refine w_cvirt (o := 0) (as := [.int p0, .int (-p2)]) (st := []) (Ev.cm _) rfl rfl rfl (Nat.le_of_ble_eq_true rfl) (Nat.le_of_ble_eq_true rfl) rfl (Nat.le_of_ble_eq_true rfl) (eo_X_canGo (g := ?_) e1)
      show Wp _ _ _ _ _ _ _ 24 [(0, .ref 0), (1, .int p0), (2, .int p1), (3, .int p2)] [.int r1] (HS I1 L1 X)
      refine w_if_ne (Ev.cm _) rfl (fun c3 => ?_) (fun c3 => ?_)
      · have c3 : ¬ (r1 = 0) := c3
        rw [if_neg c3] at q
        refine w_aload_n (Ev.cm _) rfl rfl ?_
        refine w_getR (q := 1) (Ev.cm _) rfl (Nat.le_of_ble_eq_true rfl) rfl rfl ?_
        refine w_getR (q := 6) (Ev.cm _) rfl (Nat.le_of_ble_eq_true rfl) rfl rfl ?_
        refine w_aload_n (Ev.cm _) rfl rfl ?_
        refine w_getR (q := 1) (Ev.cm _) rfl (Nat.le_of_ble_eq_true rfl) rfl rfl ?_
        refine w_getR (q := 2) (Ev.cm _) rfl (Nat.le_of_ble_eq_true rfl) rfl rfl ?_
        obtain ⟨⟨r2, I2, L2⟩, e2, q⟩ := obs q
        dsimp only at q
        refine w_cvirt (o := 6) (as := [.ref 2]) (st := []) (Ev.cm _) rfl rfl rfl (Nat.le_of_ble_eq_true rfl) (Nat.le_of_ble_eq_true rfl) rfl (Nat.le_of_ble_eq_true rfl) (eo_S_keep (g := ?_) e2)
        show Wp _ _ _ _ _ _ _ 46 [(0, .ref 0), (1, .int p0), (2, .int p1), (3, .int p2)] [] (HS I2 L2 X)
        refine w_aload_n (Ev.cm _) rfl rfl ?_
        refine w_iload_n (Ev.cm _) rfl rfl ?_
        refine w_iload_n (Ev.cm _) rfl rfl ?_
        refine w_if_eq (Ev.cm _) rfl (fun c4 => ?_) (fun c4 => ?_)
        · have c4 : p1 = 0 := c4
          rw [if_pos c4] at q
          refine w_iload_n (Ev.cm _) rfl rfl ?_
          refine w_ineg (Ev.cm _) rfl ?_
          obtain ⟨⟨r3, I3, L3⟩, e3, q⟩ := obs q
          dsimp only at q
          refine w_cvirt (o := 0) (as := [.int p0, .int (-p2)]) (st := []) (Ev.cm _) rfl rfl rfl (Nat.le_of_ble_eq_true rfl) (Nat.le_of_ble_eq_true rfl) rfl (Nat.le_of_ble_eq_true rfl) (eo_X_go (g := ?_) e3)
          show Wp _ _ _ _ _ _ _ 61 [(0, .ref 0), (1, .int p0), (2, .int p1), (3, .int p2)] [.int r3] (HS I3 L3 X)
          refine w_ireturn (Ev.cm _) rfl trivial rf0 ?_
          cases q
          exact g
        · have c4 : ¬ (p1 = 0) := c4
          rw [if_neg c4] at q
          refine w_iload_n (Ev.cm _) rfl rfl ?_
          refine w_goto (Ev.cm _) rfl ?_
          obtain ⟨⟨r4, I4, L4⟩, e4, q⟩ := obs q
          dsimp only at q
          refine w_cvirt (o := 0) (as := [.int p0, .int p2]) (st := []) (Ev.cm _) rfl rfl rfl (Nat.le_of_ble_eq_true rfl) (Nat.le_of_ble_eq_true rfl) rfl (Nat.le_of_ble_eq_true rfl) (eo_X_go (g := ?_) e4)
          show Wp _ _ _ _ _ _ _ 61 [(0, .ref 0), (1, .int p0), (2, .int p1), (3, .int p2)] [.int r4] (HS I4 L4 X)
          refine w_ireturn (Ev.cm _) rfl trivial rf0 ?_
          cases q
          exact g
      · have c3 : r1 = 0 := c3
        rw [if_pos c3] at q
        refine w_iconst (Ev.cm _) rfl ?_
        refine w_ireturn (Ev.cm _) rfl trivial rf0 ?_
        cases q
        exact g
    · have c2 : ¬ (p1 = 0) := c2
      rw [if_neg c2] at q
      refine w_iload_n (Ev.cm _) rfl rfl ?_
      refine w_goto (Ev.cm _) rfl ?_
      obtain ⟨⟨r5, I5, L5⟩, e5, q⟩ := obs q
      dsimp only at q
      refine w_cvirt (o := 0) (as := [.int p0, .int p2]) (st := []) (Ev.cm _) rfl rfl rfl (Nat.le_of_ble_eq_true rfl) (Nat.le_of_ble_eq_true rfl) rfl (Nat.le_of_ble_eq_true rfl) (eo_X_canGo (g := ?_) e5)
      show Wp _ _ _ _ _ _ _ 24 [(0, .ref 0), (1, .int p0), (2, .int p1), (3, .int p2)] [.int r5] (HS I5 L5 X)
      refine w_if_ne (Ev.cm _) rfl (fun c5 => ?_) (fun c5 => ?_)
      · have c5 : ¬ (r5 = 0) := c5
        rw [if_neg c5] at q
        refine w_aload_n (Ev.cm _) rfl rfl ?_
        refine w_getR (q := 1) (Ev.cm _) rfl (Nat.le_of_ble_eq_true rfl) rfl rfl ?_
        refine w_getR (q := 6) (Ev.cm _) rfl (Nat.le_of_ble_eq_true rfl) rfl rfl ?_
        refine w_aload_n (Ev.cm _) rfl rfl ?_
        refine w_getR (q := 1) (Ev.cm _) rfl (Nat.le_of_ble_eq_true rfl) rfl rfl ?_
        refine w_getR (q := 2) (Ev.cm _) rfl (Nat.le_of_ble_eq_true rfl) rfl rfl ?_
        obtain ⟨⟨r6, I6, L6⟩, e6, q⟩ := obs q
        dsimp only at q
        refine w_cvirt (o := 6) (as := [.ref 2]) (st := []) (Ev.cm _) rfl rfl rfl (Nat.le_of_ble_eq_true rfl) (Nat.le_of_ble_eq_true rfl) rfl (Nat.le_of_ble_eq_true rfl) (eo_S_keep (g := ?_) e6)
        show Wp _ _ _ _ _ _ _ 46 [(0, .ref 0), (1, .int p0), (2, .int p1), (3, .int p2)] [] (HS I6 L6 X)
        refine w_aload_n (Ev.cm _) rfl rfl ?_
        refine w_iload_n (Ev.cm _) rfl rfl ?_
        refine w_iload_n (Ev.cm _) rfl rfl ?_
        refine w_if_eq (Ev.cm _) rfl (fun c6 => ?_) (fun c6 => ?_)
        · have c6 : p1 = 0 := c6
          rw [if_pos c6] at q
          refine w_iload_n (Ev.cm _) rfl rfl ?_
          refine w_ineg (Ev.cm _) rfl ?_
          obtain ⟨⟨r7, I7, L7⟩, e7, q⟩ := obs q
          dsimp only at q
          refine w_cvirt (o := 0) (as := [.int p0, .int (-p2)]) (st := []) (Ev.cm _) rfl rfl rfl (Nat.le_of_ble_eq_true rfl) (Nat.le_of_ble_eq_true rfl) rfl (Nat.le_of_ble_eq_true rfl) (eo_X_go (g := ?_) e7)
          show Wp _ _ _ _ _ _ _ 61 [(0, .ref 0), (1, .int p0), (2, .int p1), (3, .int p2)] [.int r7] (HS I7 L7 X)
          refine w_ireturn (Ev.cm _) rfl trivial rf0 ?_
          cases q
          exact g
        · have c6 : ¬ (p1 = 0) := c6
          rw [if_neg c6] at q
          refine w_iload_n (Ev.cm _) rfl rfl ?_
          refine w_goto (Ev.cm _) rfl ?_
          obtain ⟨⟨r8, I8, L8⟩, e8, q⟩ := obs q
          dsimp only at q
          refine w_cvirt (o := 0) (as := [.int p0, .int p2]) (st := []) (Ev.cm _) rfl rfl rfl (Nat.le_of_ble_eq_true rfl) (Nat.le_of_ble_eq_true rfl) rfl (Nat.le_of_ble_eq_true rfl) (eo_X_go (g := ?_) e8)
          show Wp _ _ _ _ _ _ _ 61 [(0, .ref 0), (1, .int p0), (2, .int p1), (3, .int p2)] [.int r8] (HS I8 L8 X)
          refine w_ireturn (Ev.cm _) rfl trivial rf0 ?_
          cases q
          exact g
      · have c5 : r5 = 0 := c5
        rw [if_pos c5] at q
        refine w_iconst (Ev.cm _) rfl ?_
        refine w_ireturn (Ev.cm _) rfl trivial rf0 ?_
        cases q
        exact g
def LO_R_both_8 (fu : Nat) (kO : Int32 → Int32 → (Nat → Nat → Int32) → (Nat → Nat → Int64) → Option (Int32 × (Nat → Nat → Int32) × (Nat → Nat → Int64))) (kA : Int32 → (Nat → Nat → Int32) → (Nat → Nat → Int64) → Option (Int32 × (Nat → Nat → Int32) × (Nat → Nat → Int64))) : Nat → Int32 → Int32 → Int32 → (Nat → Nat → Int32) → (Nat → Nat → Int64) → Option (Int32 × (Nat → Nat → Int32) × (Nat → Nat → Int64))
  | 0, _, _, _, _, _ => none
  | n + 1, x1, x2, x3, I, L => if 300 < x3 then (if x2 = 0 ∨ x2 = 1 then (some (x2, I, L)) else none) else (if x2 = 0 then (if x2 = 0 ∨ x2 = 1 then (some (x2, I, L)) else none) else (if I 307 9 = 52 then ((FO_R_comeTo fu ((I 307 8) + 1) I L).bind (fun u4 => let r4 := u4.1; let I4 := u4.2.1; let L4 := u4.2.2; (FO_R_ask fu kO kA x1 I4 L4).bind (fun u5 => let r5 := u5.1; let I5 := u5.2.1; let L5 := u5.2.2; (FO_T_addCode fu 52 0 I5 L5).bind (fun u6 => let r6 := u6.1; let I6 := u6.2.1; let L6 := u6.2.2; LO_R_both_8 fu kO kA n x1 r5 (x3 + 1) I6 L6)))) else (if x2 = 0 ∨ x2 = 1 then (some (x2, I, L)) else none)))
set_option maxHeartbeats 20000000 in
set_option maxRecDepth 20000 in
theorem lo_R_both_8 {d fu n0 s0 : Nat} {kO : Int32 → Int32 → (Nat → Nat → Int32) → (Nat → Nat → Int64) → Option (Int32 × (Nat → Nat → Int32) × (Nat → Nat → Int64))} {kA : Int32 → (Nat → Nat → Int32) → (Nat → Nat → Int64) → Option (Int32 × (Nat → Nat → Int32) × (Nat → Nat → Int64))} {X : Nat × (Nat → Int32)} {Q : PQ} {res : Int32 × (Nat → Nat → Int32) × (Nat → Nat → Int64)}  (hO : cbO (d + 4) kO) (hA : cbA (d + 4) kA) (g : Q (some (.int res.1)) (HS res.2.1 res.2.2 X)) : ∀ (n : Nat) (x1 : Int32) (x2 : Int32) (x3 : Int32) (I : Nat → Nat → Int32) (L : Nat → Nat → Int64), LO_R_both_8 fu kO kA n x1 x2 x3 I L = some res → Wp (Ev (d + 8)) cd_R_both (0, 0) (some .boolean) n0 s0 Q 8 [(0, .ref 307), (1, .int x1), (2, .int x2), (3, .int x3)] [] (HS I L X) := by
  intro n
  induction n with
  | zero => intro _ _ _ _ _ q; cases q
  | succ n ih =>
    intro x1 x2 x3 I L q
    unfold LO_R_both_8 at q
    refine w_iload_n (Ev.cm _) rfl rfl ?_
    refine w_sipush (Ev.cm _) rfl ?_
    refine w_icmp_gt (Ev.cm _) rfl (fun c1 => ?_) (fun c1 => ?_)
    · have c1 : 300 < x3 := c1
      rw [if_pos c1] at q
      refine w_iload_n (Ev.cm _) rfl rfl ?_
      obtain ⟨b1, q⟩ := ois q
      refine w_ireturn (Ev.cm _) rfl (show rok (some .boolean) _ from b1) rf0 ?_
      cases q
      exact g
    · have c1 : ¬ (300 < x3) := c1
      rw [if_neg c1] at q
      refine w_iload_n (Ev.cm _) rfl rfl ?_
      refine w_if_eq (Ev.cm _) rfl (fun c2 => ?_) (fun c2 => ?_)
      · have c2 : x2 = 0 := c2
        rw [if_pos c2] at q
        refine w_iload_n (Ev.cm _) rfl rfl ?_
        obtain ⟨b2, q⟩ := ois q
        refine w_ireturn (Ev.cm _) rfl (show rok (some .boolean) _ from b2) rf0 ?_
        cases q
        exact g
      · have c2 : ¬ (x2 = 0) := c2
        rw [if_neg c2] at q
        refine w_aload_n (Ev.cm _) rfl rfl ?_
        refine w_getI (Ev.cm _) rfl (Nat.le_of_ble_eq_true rfl) rfl ?_
        refine w_bipush (Ev.cm _) rfl ?_
        refine w_icmp_ne (Ev.cm _) rfl (fun c3 => ?_) (fun c3 => ?_)
        · have c3 : ¬ (I 307 9 = 52) := c3
          rw [if_neg c3] at q
          refine w_iload_n (Ev.cm _) rfl rfl ?_
          obtain ⟨b3, q⟩ := ois q
          refine w_ireturn (Ev.cm _) rfl (show rok (some .boolean) _ from b3) rf0 ?_
          cases q
          exact g
        · have c3 : I 307 9 = 52 := c3
          rw [if_pos c3] at q
          refine w_aload_n (Ev.cm _) rfl rfl ?_
          refine w_aload_n (Ev.cm _) rfl rfl ?_
          refine w_getI (Ev.cm _) rfl (Nat.le_of_ble_eq_true rfl) rfl ?_
          refine w_iconst (Ev.cm _) rfl ?_
          refine w_iadd (Ev.cm _) rfl ?_
          obtain ⟨⟨r4, I4, L4⟩, e4, q⟩ := obs q
          dsimp only at q
          refine w_cvirt (o := 307) (as := [.int ((I 307 8) + 1)]) (st := []) (Ev.cm _) rfl rfl rfl (Nat.le_of_ble_eq_true rfl) (Nat.le_of_ble_eq_true rfl) rfl (Nat.le_of_ble_eq_true rfl) (eo_R_comeTo (g := ?_) e4)
          show Wp _ _ _ _ _ _ _ 38 [(0, .ref 307), (1, .int x1), (2, .int x2), (3, .int x3)] [] (HS I4 L4 X)
          refine w_aload_n (Ev.cm _) rfl rfl ?_
          refine w_iload_n (Ev.cm _) rfl rfl ?_
          obtain ⟨⟨r5, I5, L5⟩, e5, q⟩ := obs q
          dsimp only at q
          refine w_cvirt (o := 307) (as := [.int x1]) (st := []) (Ev.cm _) rfl rfl rfl (Nat.le_of_ble_eq_true rfl) (Nat.le_of_ble_eq_true rfl) rfl (Nat.le_of_ble_eq_true rfl) (ev_le (show d + 8 ≤ d + 8 by omega) (eo_R_ask (d := d) hO hA (g := ?_) e5))
          show Wp _ _ _ _ _ _ _ 43 [(0, .ref 307), (1, .int x1), (2, .int x2), (3, .int x3)] [.int r5] (HS I5 L5 X)
          refine w_istore_n (ls2 := [(0, .ref 307), (1, .int x1), (2, .int r5), (3, .int x3)]) (Ev.cm _) rfl rfl ?_
          refine w_aload_n (Ev.cm _) rfl rfl ?_
          refine w_getR (q := 308) (Ev.cm _) rfl (Nat.le_of_ble_eq_true rfl) rfl rfl ?_
          refine w_bipush (Ev.cm _) rfl ?_
          refine w_iconst (Ev.cm _) rfl ?_
          obtain ⟨⟨r6, I6, L6⟩, e6, q⟩ := obs q
          dsimp only at q
          refine w_cvirt (o := 308) (as := [.int 52, .int 0]) (st := []) (Ev.cm _) rfl rfl rfl (Nat.le_of_ble_eq_true rfl) (Nat.le_of_ble_eq_true rfl) rfl (Nat.le_of_ble_eq_true rfl) (eo_T_addCode (g := ?_) e6)
          show Wp _ _ _ _ _ _ _ 54 [(0, .ref 307), (1, .int x1), (2, .int r5), (3, .int x3)] [.int r6] (HS I6 L6 X)
          refine w_pop (Ev.cm _) rfl rfl ?_
          refine w_iinc (ls2 := [(0, .ref 307), (1, .int x1), (2, .int r5), (3, .int (x3 + 1))]) (Ev.cm _) rfl rfl rfl ?_
          refine w_goto (Ev.cm _) rfl ?_
          show Wp _ _ _ _ _ _ _ 8 [(0, .ref 307), (1, .int x1), (2, .int r5), (3, .int (x3 + 1))] [] (HS I6 L6 X)
          refine Wp.sub [0, 1, 2, 3] (ls2 := [(0, .ref 307), (1, .int x1), (2, .int r5), (3, .int (x3 + 1))]) rfl ?_
          exact ih _ _ _ _ _ q
def FO_R_both (fu : Nat) (kO : Int32 → Int32 → (Nat → Nat → Int32) → (Nat → Nat → Int64) → Option (Int32 × (Nat → Nat → Int32) × (Nat → Nat → Int64))) (kA : Int32 → (Nat → Nat → Int32) → (Nat → Nat → Int64) → Option (Int32 × (Nat → Nat → Int32) × (Nat → Nat → Int64))) (p0 : Int32) (I : Nat → Nat → Int32) (L : Nat → Nat → Int64) : Option (Int32 × (Nat → Nat → Int32) × (Nat → Nat → Int64)) := (FO_R_ask fu kO kA p0 I L).bind (fun u1 => let r1 := u1.1; let I1 := u1.2.1; let L1 := u1.2.2; LO_R_both_8 fu kO kA fu p0 r1 0 I1 L1)
set_option maxHeartbeats 20000000 in
set_option maxRecDepth 20000 in
theorem eo_R_both {d fu : Nat} {kO : Int32 → Int32 → (Nat → Nat → Int32) → (Nat → Nat → Int64) → Option (Int32 × (Nat → Nat → Int32) × (Nat → Nat → Int64))} {kA : Int32 → (Nat → Nat → Int32) → (Nat → Nat → Int64) → Option (Int32 × (Nat → Nat → Int32) × (Nat → Nat → Int64))} {p0 : Int32} {I : Nat → Nat → Int32} {L : Nat → Nat → Int64} {X : Nat × (Nat → Int32)} {Q : PQ} {res : Int32 × (Nat → Nat → Int32) × (Nat → Nat → Int64)}  (hO : cbO (d + 4) kO) (hA : cbA (d + 4) kA) (g : Q (some (.int res.1)) (HS res.2.1 res.2.2 X)) (q : FO_R_both fu kO kA p0 I L = some res) : Ev (d + 9) m_R_both [.ref 307, .int p0] (HS I L X) Q := by
  unfold FO_R_both at q
  refine ev_start (d := d + 8) rfl rfl rfl (Nat.le_of_ble_eq_true rfl) ?_
  show Wp (Ev (d + 8)) cd_R_both (0, 0) (some .boolean) _ _ Q 0 [(0, .ref 307), (1, .int p0)] [] (HS I L X)
  refine w_aload_n (Ev.cm _) rfl rfl ?_
  refine w_iload_n (Ev.cm _) rfl rfl ?_
  obtain ⟨⟨r1, I1, L1⟩, e1, q⟩ := obs q
  dsimp only at q
  refine w_cvirt (o := 307) (as := [.int p0]) (st := []) (Ev.cm _) rfl rfl rfl (Nat.le_of_ble_eq_true rfl) (Nat.le_of_ble_eq_true rfl) rfl (Nat.le_of_ble_eq_true rfl) (ev_le (show d + 8 ≤ d + 8 by omega) (eo_R_ask (d := d) hO hA (g := ?_) e1))
  show Wp _ _ _ _ _ _ _ 5 [(0, .ref 307), (1, .int p0)] [.int r1] (HS I1 L1 X)
  refine w_istore_n (ls2 := [(0, .ref 307), (1, .int p0), (2, .int r1)]) (Ev.cm _) rfl rfl ?_
  refine w_iconst (Ev.cm _) rfl ?_
  refine w_istore_n (ls2 := [(0, .ref 307), (1, .int p0), (2, .int r1), (3, .int 0)]) (Ev.cm _) rfl rfl ?_
  show Wp _ _ _ _ _ _ _ 8 [(0, .ref 307), (1, .int p0), (2, .int r1), (3, .int 0)] [] (HS I1 L1 X)
  refine Wp.sub [0, 1, 2, 3] (ls2 := [(0, .ref 307), (1, .int p0), (2, .int r1), (3, .int 0)]) rfl ?_
  exact lo_R_both_8 hO hA g fu _ _ _ _ _ q
def FO_X_tread (fu : Nat) (p0 : Int32) (p1 : Int32) (p2 : Int32) (I : Nat → Nat → Int32) (L : Nat → Nat → Int64) : Option (Int32 × (Nat → Nat → Int32) × (Nat → Nat → Int64)) := (FO_X_treadAsStep fu p0 p1 p2 I L).bind (fun u1 => let r1 := u1.1; let I1 := u1.2.1; let L1 := u1.2.2; some (r1, I1, L1))
set_option maxHeartbeats 20000000 in
set_option maxRecDepth 20000 in
theorem eo_X_tread {d fu : Nat} {p0 : Int32} {p1 : Int32} {p2 : Int32} {I : Nat → Nat → Int32} {L : Nat → Nat → Int64} {X : Nat × (Nat → Int32)} {Q : PQ} {res : Int32 × (Nat → Nat → Int32) × (Nat → Nat → Int64)}  (g : Q (some (.int res.1)) (HS res.2.1 res.2.2 X)) (q : FO_X_tread fu p0 p1 p2 I L = some res) : Ev (d + 8) m_X_tread [.ref 0, .int p0, .int p1, .int p2] (HS I L X) Q := by
  unfold FO_X_tread at q
  refine ev_start (d := d + 7) rfl rfl rfl (Nat.le_of_ble_eq_true rfl) ?_
  show Wp (Ev (d + 7)) cd_X_tread (0, 0) (some .int) _ _ Q 0 [(0, .ref 0), (1, .int p0), (2, .int p1), (3, .int p2)] [] (HS I L X)
  refine w_aload_n (Ev.cm _) rfl rfl ?_
  refine w_iload_n (Ev.cm _) rfl rfl ?_
  refine w_iload_n (Ev.cm _) rfl rfl ?_
  refine w_iload_n (Ev.cm _) rfl rfl ?_
  obtain ⟨⟨r1, I1, L1⟩, e1, q⟩ := obs q
  dsimp only at q
  refine w_cvirt (o := 0) (as := [.int p0, .int p1, .int p2]) (st := []) (Ev.cm _) rfl rfl rfl (Nat.le_of_ble_eq_true rfl) (Nat.le_of_ble_eq_true rfl) rfl (Nat.le_of_ble_eq_true rfl) (eo_X_treadAsStep (g := ?_) e1)
  show Wp _ _ _ _ _ _ _ 7 [(0, .ref 0), (1, .int p0), (2, .int p1), (3, .int p2)] [.int r1] (HS I1 L1 X)
  refine w_ireturn (Ev.cm _) rfl trivial rf0 ?_
  cases q
  exact g
