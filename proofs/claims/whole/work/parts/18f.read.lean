/-! methods, read back by program -/
def LO_M_which_34 (fu : Nat) (k_16 : Int32 → Int32 → Int32 → Int32 → (Nat → Nat → Int32) → (Nat → Nat → Int64) → Option (Int32 × (Nat → Nat → Int32) × (Nat → Nat → Int64))) : Nat → Int32 → Int32 → Int32 → Int32 → Int32 → Int32 → (Nat → Nat → Int32) → (Nat → Nat → Int64) → Option (Int32 × (Nat → Nat → Int32) × (Nat → Nat → Int64))
  | 0, _, _, _, _, _, _, _, _ => none
  | n + 1, x1, x2, x3, x4, x5, x6, I, L => if x1 ≤ x6 then (if x5 ≤ x1 - x5 then (if x1 - x5 < x3 then (k_16 x1 x4 (x1 - x5) (x4 + 1) I L) else (k_16 x1 x2 x3 (x4 + 1) I L)) else (if x5 < x3 then (k_16 x1 x4 x5 (x4 + 1) I L) else (k_16 x1 x2 x3 (x4 + 1) I L))) else (if 0 ≤ (36 : Int32) + x6 ∧ (36 : Int32) + x6 < 1541 then ((FO_M_has fu (I 332 (((36 : Int32) + x6).toNatClampNeg)) x4 I L).bind (fun u2 => let r2 := u2.1; let I2 := u2.2.1; let L2 := u2.2.2; if r2 = 0 then (LO_M_which_34 fu k_16 n x1 x2 x3 x4 (x5 + 0) (x6 + 1) I2 L2) else (LO_M_which_34 fu k_16 n x1 x2 x3 x4 (x5 + 1) (x6 + 1) I2 L2))) else none)
set_option maxHeartbeats 20000000 in
set_option maxRecDepth 20000 in
theorem lo_M_which_34 {d fu n0 s0 : Nat} {X : Nat × (Nat → Int32)} {Q : PQ} {k_16 : Int32 → Int32 → Int32 → Int32 → (Nat → Nat → Int32) → (Nat → Nat → Int64) → Option (Int32 × (Nat → Nat → Int32) × (Nat → Nat → Int64))} {res : Int32 × (Nat → Nat → Int32) × (Nat → Nat → Int64)} (g : Q (some (.int res.1)) (HS res.2.1 res.2.2 X)) (hk_16 : ∀ (x1 : Int32) (x2 : Int32) (x3 : Int32) (x4 : Int32) (I : Nat → Nat → Int32) (L : Nat → Nat → Int64), k_16 x1 x2 x3 x4 I L = some res → Wp (Ev (d + 1)) cd_M_which (0, 0) (some .int) n0 s0 Q 16 [(0, .ref 331), (1, .int x1), (2, .int x2), (3, .int x3), (4, .int x4)] [] (HS I L X)) : ∀ (n : Nat) (x1 : Int32) (x2 : Int32) (x3 : Int32) (x4 : Int32) (x5 : Int32) (x6 : Int32) (I : Nat → Nat → Int32) (L : Nat → Nat → Int64), LO_M_which_34 fu k_16 n x1 x2 x3 x4 x5 x6 I L = some res → Wp (Ev (d + 1)) cd_M_which (0, 0) (some .int) n0 s0 Q 34 [(0, .ref 331), (1, .int x1), (2, .int x2), (3, .int x3), (4, .int x4), (5, .int x5), (6, .int x6)] [] (HS I L X) := by
  intro n
  induction n with
  | zero => intro _ _ _ _ _ _ _ _ q; cases q
  | succ n ih =>
    intro x1 x2 x3 x4 x5 x6 I L q
    unfold LO_M_which_34 at q
    refine w_iload (Ev.cm _) rfl rfl ?_
    refine w_iload_n (Ev.cm _) rfl rfl ?_
    refine w_icmp_ge (Ev.cm _) rfl (fun c1 => ?_) (fun c1 => ?_)
    · have c1 : x1 ≤ x6 := c1
      rw [if_pos c1] at q
      refine w_iload (Ev.cm _) rfl rfl ?_
      refine w_iload_n (Ev.cm _) rfl rfl ?_
      refine w_iload (Ev.cm _) rfl rfl ?_
      refine w_isub (Ev.cm _) rfl ?_
      refine w_icmp_le (Ev.cm _) rfl (fun c2 => ?_) (fun c2 => ?_)
      · have c2 : x5 ≤ x1 - x5 := c2
        rw [if_pos c2] at q
        refine w_iload_n (Ev.cm _) rfl rfl ?_
        refine w_iload (Ev.cm _) rfl rfl ?_
        refine w_isub (Ev.cm _) rfl ?_
        refine w_istore (ls2 := [(0, .ref 331), (1, .int x1), (2, .int x2), (3, .int x3), (4, .int x4), (5, .int x5), (6, .int (x1 - x5))]) (Ev.cm _) rfl rfl ?_
        refine w_iload (Ev.cm _) rfl rfl ?_
        refine w_iload_n (Ev.cm _) rfl rfl ?_
        refine w_icmp_lt (Ev.cm _) rfl (fun c3 => ?_) (fun c3 => ?_)
        · have c3 : x1 - x5 < x3 := c3
          rw [if_pos c3] at q
          refine w_iload (Ev.cm _) rfl rfl ?_
          refine w_istore_n (ls2 := [(0, .ref 331), (1, .int x1), (2, .int x2), (3, .int (x1 - x5)), (4, .int x4), (5, .int x5), (6, .int (x1 - x5))]) (Ev.cm _) rfl rfl ?_
          refine w_iload (Ev.cm _) rfl rfl ?_
          refine w_istore_n (ls2 := [(0, .ref 331), (1, .int x1), (2, .int x4), (3, .int (x1 - x5)), (4, .int x4), (5, .int x5), (6, .int (x1 - x5))]) (Ev.cm _) rfl rfl ?_
          refine w_iinc (ls2 := [(0, .ref 331), (1, .int x1), (2, .int x4), (3, .int (x1 - x5)), (4, .int (x4 + 1)), (5, .int x5), (6, .int (x1 - x5))]) (Ev.cm _) rfl rfl rfl ?_
          refine w_goto (Ev.cm _) rfl ?_
          show Wp _ _ _ _ _ _ _ 16 [(0, .ref 331), (1, .int x1), (2, .int x4), (3, .int (x1 - x5)), (4, .int (x4 + 1)), (5, .int x5), (6, .int (x1 - x5))] [] (HS I L X)
          refine Wp.sub [0, 1, 2, 3, 4] (ls2 := [(0, .ref 331), (1, .int x1), (2, .int x4), (3, .int (x1 - x5)), (4, .int (x4 + 1))]) rfl ?_
          exact hk_16 _ _ _ _ _ _ q
        · have c3 : ¬ (x1 - x5 < x3) := c3
          rw [if_neg c3] at q
          refine w_goto (Ev.cm _) rfl ?_
          refine w_iinc (ls2 := [(0, .ref 331), (1, .int x1), (2, .int x2), (3, .int x3), (4, .int (x4 + 1)), (5, .int x5), (6, .int (x1 - x5))]) (Ev.cm _) rfl rfl rfl ?_
          refine w_goto (Ev.cm _) rfl ?_
          show Wp _ _ _ _ _ _ _ 16 [(0, .ref 331), (1, .int x1), (2, .int x2), (3, .int x3), (4, .int (x4 + 1)), (5, .int x5), (6, .int (x1 - x5))] [] (HS I L X)
          refine Wp.sub [0, 1, 2, 3, 4] (ls2 := [(0, .ref 331), (1, .int x1), (2, .int x2), (3, .int x3), (4, .int (x4 + 1))]) rfl ?_
          exact hk_16 _ _ _ _ _ _ q
      · have c2 : ¬ (x5 ≤ x1 - x5) := c2
        rw [if_neg c2] at q
        refine w_iload (Ev.cm _) rfl rfl ?_
        refine w_goto (Ev.cm _) rfl ?_
        refine w_istore (ls2 := [(0, .ref 331), (1, .int x1), (2, .int x2), (3, .int x3), (4, .int x4), (5, .int x5), (6, .int x5)]) (Ev.cm _) rfl rfl ?_
        refine w_iload (Ev.cm _) rfl rfl ?_
        refine w_iload_n (Ev.cm _) rfl rfl ?_
        refine w_icmp_lt (Ev.cm _) rfl (fun c4 => ?_) (fun c4 => ?_)
        · have c4 : x5 < x3 := c4
          rw [if_pos c4] at q
          refine w_iload (Ev.cm _) rfl rfl ?_
          refine w_istore_n (ls2 := [(0, .ref 331), (1, .int x1), (2, .int x2), (3, .int x5), (4, .int x4), (5, .int x5), (6, .int x5)]) (Ev.cm _) rfl rfl ?_
          refine w_iload (Ev.cm _) rfl rfl ?_
          refine w_istore_n (ls2 := [(0, .ref 331), (1, .int x1), (2, .int x4), (3, .int x5), (4, .int x4), (5, .int x5), (6, .int x5)]) (Ev.cm _) rfl rfl ?_
          refine w_iinc (ls2 := [(0, .ref 331), (1, .int x1), (2, .int x4), (3, .int x5), (4, .int (x4 + 1)), (5, .int x5), (6, .int x5)]) (Ev.cm _) rfl rfl rfl ?_
          refine w_goto (Ev.cm _) rfl ?_
          show Wp _ _ _ _ _ _ _ 16 [(0, .ref 331), (1, .int x1), (2, .int x4), (3, .int x5), (4, .int (x4 + 1)), (5, .int x5), (6, .int x5)] [] (HS I L X)
          refine Wp.sub [0, 1, 2, 3, 4] (ls2 := [(0, .ref 331), (1, .int x1), (2, .int x4), (3, .int x5), (4, .int (x4 + 1))]) rfl ?_
          exact hk_16 _ _ _ _ _ _ q
        · have c4 : ¬ (x5 < x3) := c4
          rw [if_neg c4] at q
          refine w_goto (Ev.cm _) rfl ?_
          refine w_iinc (ls2 := [(0, .ref 331), (1, .int x1), (2, .int x2), (3, .int x3), (4, .int (x4 + 1)), (5, .int x5), (6, .int x5)]) (Ev.cm _) rfl rfl rfl ?_
          refine w_goto (Ev.cm _) rfl ?_
          show Wp _ _ _ _ _ _ _ 16 [(0, .ref 331), (1, .int x1), (2, .int x2), (3, .int x3), (4, .int (x4 + 1)), (5, .int x5), (6, .int x5)] [] (HS I L X)
          refine Wp.sub [0, 1, 2, 3, 4] (ls2 := [(0, .ref 331), (1, .int x1), (2, .int x2), (3, .int x3), (4, .int (x4 + 1))]) rfl ?_
          exact hk_16 _ _ _ _ _ _ q
    · have c1 : ¬ (x1 ≤ x6) := c1
      rw [if_neg c1] at q
      refine w_iload (Ev.cm _) rfl rfl ?_
      refine w_aload_n (Ev.cm _) rfl rfl ?_
      refine w_getR (q := 332) (Ev.cm _) rfl (Nat.le_of_ble_eq_true rfl) rfl rfl ?_
      refine w_bipush (Ev.cm _) rfl ?_
      refine w_iload (Ev.cm _) rfl rfl ?_
      refine w_iadd (Ev.cm _) rfl ?_
      obtain ⟨b1, q⟩ := ois q
      refine w_iald (Ev.cm _) rfl (Nat.le_of_ble_eq_true rfl) rfl (show vp_in ((36 : Int32) + x6) 1541 from vpI 1541 (by decide) b1.1 b1.2) ?_
      refine w_iload (Ev.cm _) rfl rfl ?_
      obtain ⟨⟨r2, I2, L2⟩, e2, q⟩ := obs q
      dsimp only at q
      refine w_cstat (as := [.int (I 332 (((36 : Int32) + x6).toNatClampNeg)), .int x4]) (st := [.int x5]) (Ev.cm _) rfl rfl rfl (Nat.le_of_ble_eq_true rfl) (Nat.le_of_ble_eq_true rfl) (eo_M_has (g := ?_) e2)
      show Wp _ _ _ _ _ _ _ 57 [(0, .ref 331), (1, .int x1), (2, .int x2), (3, .int x3), (4, .int x4), (5, .int x5), (6, .int x6)] [.int r2, .int x5] (HS I2 L2 X)
      refine w_if_eq (Ev.cm _) rfl (fun c5 => ?_) (fun c5 => ?_)
      · have c5 : r2 = 0 := c5
        rw [if_pos c5] at q
        refine w_iconst (Ev.cm _) rfl ?_
        refine w_iadd (Ev.cm _) rfl ?_
        refine w_istore (ls2 := [(0, .ref 331), (1, .int x1), (2, .int x2), (3, .int x3), (4, .int x4), (5, .int (x5 + 0)), (6, .int x6)]) (Ev.cm _) rfl rfl ?_
        refine w_iinc (ls2 := [(0, .ref 331), (1, .int x1), (2, .int x2), (3, .int x3), (4, .int x4), (5, .int (x5 + 0)), (6, .int (x6 + 1))]) (Ev.cm _) rfl rfl rfl ?_
        refine w_goto (Ev.cm _) rfl ?_
        show Wp _ _ _ _ _ _ _ 34 [(0, .ref 331), (1, .int x1), (2, .int x2), (3, .int x3), (4, .int x4), (5, .int (x5 + 0)), (6, .int (x6 + 1))] [] (HS I2 L2 X)
        refine Wp.sub [0, 1, 2, 3, 4, 5, 6] (ls2 := [(0, .ref 331), (1, .int x1), (2, .int x2), (3, .int x3), (4, .int x4), (5, .int (x5 + 0)), (6, .int (x6 + 1))]) rfl ?_
        exact ih _ _ _ _ _ _ _ _ q
      · have c5 : ¬ (r2 = 0) := c5
        rw [if_neg c5] at q
        refine w_iconst (Ev.cm _) rfl ?_
        refine w_goto (Ev.cm _) rfl ?_
        refine w_iadd (Ev.cm _) rfl ?_
        refine w_istore (ls2 := [(0, .ref 331), (1, .int x1), (2, .int x2), (3, .int x3), (4, .int x4), (5, .int (x5 + 1)), (6, .int x6)]) (Ev.cm _) rfl rfl ?_
        refine w_iinc (ls2 := [(0, .ref 331), (1, .int x1), (2, .int x2), (3, .int x3), (4, .int x4), (5, .int (x5 + 1)), (6, .int (x6 + 1))]) (Ev.cm _) rfl rfl rfl ?_
        refine w_goto (Ev.cm _) rfl ?_
        show Wp _ _ _ _ _ _ _ 34 [(0, .ref 331), (1, .int x1), (2, .int x2), (3, .int x3), (4, .int x4), (5, .int (x5 + 1)), (6, .int (x6 + 1))] [] (HS I2 L2 X)
        refine Wp.sub [0, 1, 2, 3, 4, 5, 6] (ls2 := [(0, .ref 331), (1, .int x1), (2, .int x2), (3, .int x3), (4, .int x4), (5, .int (x5 + 1)), (6, .int (x6 + 1))]) rfl ?_
        exact ih _ _ _ _ _ _ _ _ q
def LO_M_which_16 (fu : Nat) : Nat → Int32 → Int32 → Int32 → Int32 → (Nat → Nat → Int32) → (Nat → Nat → Int64) → Option (Int32 × (Nat → Nat → Int32) × (Nat → Nat → Int64))
  | 0, _, _, _, _, _, _ => none
  | n + 1, x1, x2, x3, x4, I, L => if 12 < x4 then (some (x2, I, L)) else (if x1 ≤ 1 then (some (x2, I, L)) else (LO_M_which_34 fu (fun x1 x2 x3 x4 I L => LO_M_which_16 fu n x1 x2 x3 x4 I L) fu x1 x2 x3 x4 0 0 I L))
set_option maxHeartbeats 20000000 in
set_option maxRecDepth 20000 in
theorem lo_M_which_16 {d fu n0 s0 : Nat} {X : Nat × (Nat → Int32)} {Q : PQ} {res : Int32 × (Nat → Nat → Int32) × (Nat → Nat → Int64)} (g : Q (some (.int res.1)) (HS res.2.1 res.2.2 X)) : ∀ (n : Nat) (x1 : Int32) (x2 : Int32) (x3 : Int32) (x4 : Int32) (I : Nat → Nat → Int32) (L : Nat → Nat → Int64), LO_M_which_16 fu n x1 x2 x3 x4 I L = some res → Wp (Ev (d + 1)) cd_M_which (0, 0) (some .int) n0 s0 Q 16 [(0, .ref 331), (1, .int x1), (2, .int x2), (3, .int x3), (4, .int x4)] [] (HS I L X) := by
  intro n
  induction n with
  | zero => intro _ _ _ _ _ _ q; cases q
  | succ n ih =>
    intro x1 x2 x3 x4 I L q
    unfold LO_M_which_16 at q
    refine w_iload (Ev.cm _) rfl rfl ?_
    refine w_bipush (Ev.cm _) rfl ?_
    refine w_icmp_gt (Ev.cm _) rfl (fun c1 => ?_) (fun c1 => ?_)
    · have c1 : 12 < x4 := c1
      rw [if_pos c1] at q
      refine w_iload_n (Ev.cm _) rfl rfl ?_
      refine w_ireturn (Ev.cm _) rfl trivial rf0 ?_
      cases q
      exact g
    · have c1 : ¬ (12 < x4) := c1
      rw [if_neg c1] at q
      refine w_iload_n (Ev.cm _) rfl rfl ?_
      refine w_iconst (Ev.cm _) rfl ?_
      refine w_icmp_le (Ev.cm _) rfl (fun c2 => ?_) (fun c2 => ?_)
      · have c2 : x1 ≤ 1 := c2
        rw [if_pos c2] at q
        refine w_iload_n (Ev.cm _) rfl rfl ?_
        refine w_ireturn (Ev.cm _) rfl trivial rf0 ?_
        cases q
        exact g
      · have c2 : ¬ (x1 ≤ 1) := c2
        rw [if_neg c2] at q
        refine w_iconst (Ev.cm _) rfl ?_
        refine w_istore (ls2 := [(0, .ref 331), (1, .int x1), (2, .int x2), (3, .int x3), (4, .int x4), (5, .int 0)]) (Ev.cm _) rfl rfl ?_
        refine w_iconst (Ev.cm _) rfl ?_
        refine w_istore (ls2 := [(0, .ref 331), (1, .int x1), (2, .int x2), (3, .int x3), (4, .int x4), (5, .int 0), (6, .int 0)]) (Ev.cm _) rfl rfl ?_
        show Wp _ _ _ _ _ _ _ 34 [(0, .ref 331), (1, .int x1), (2, .int x2), (3, .int x3), (4, .int x4), (5, .int 0), (6, .int 0)] [] (HS I L X)
        refine Wp.sub [0, 1, 2, 3, 4, 5, 6] (ls2 := [(0, .ref 331), (1, .int x1), (2, .int x2), (3, .int x3), (4, .int x4), (5, .int 0), (6, .int 0)]) rfl ?_
        exact lo_M_which_34 g (fun x1 x2 x3 x4 I L q => ih x1 x2 x3 x4 I L q) fu _ _ _ _ _ _ _ _ q
def FO_M_which (fu : Nat) (I : Nat → Nat → Int32) (L : Nat → Nat → Int64) : Option (Int32 × (Nat → Nat → Int32) × (Nat → Nat → Int64)) := LO_M_which_16 fu fu (I 332 0) (-1) 1000000 1 I L
set_option maxHeartbeats 20000000 in
set_option maxRecDepth 20000 in
theorem eo_M_which {d fu : Nat} {I : Nat → Nat → Int32} {L : Nat → Nat → Int64} {X : Nat × (Nat → Int32)} {Q : PQ} {res : Int32 × (Nat → Nat → Int32) × (Nat → Nat → Int64)} (g : Q (some (.int res.1)) (HS res.2.1 res.2.2 X)) (q : FO_M_which fu  I L = some res) : Ev (d + 2) m_M_which [.ref 331] (HS I L X) Q := by
  unfold FO_M_which at q
  refine ev_start (d := d + 1) rfl rfl rfl (Nat.le_of_ble_eq_true rfl) ?_
  show Wp (Ev (d + 1)) cd_M_which (0, 0) (some .int) _ _ Q 0 [(0, .ref 331)] [] (HS I L X)
  refine w_aload_n (Ev.cm _) rfl rfl ?_
  refine w_getR (q := 332) (Ev.cm _) rfl (Nat.le_of_ble_eq_true rfl) rfl rfl ?_
  refine w_iconst (Ev.cm _) rfl ?_
  refine w_iald (Ev.cm _) rfl (Nat.le_of_ble_eq_true rfl) rfl (show vp_in 0 1541 from vpI 1541 (by decide) (by decide) (by decide)) ?_
  refine w_istore_n (ls2 := [(0, .ref 331), (1, .int (I 332 0))]) (Ev.cm _) rfl rfl ?_
  refine w_iconst (Ev.cm _) rfl ?_
  refine w_istore_n (ls2 := [(0, .ref 331), (1, .int (I 332 0)), (2, .int (-1))]) (Ev.cm _) rfl rfl ?_
  refine w_ldc_w (Ev.cm _) rfl ?_
  refine w_istore_n (ls2 := [(0, .ref 331), (1, .int (I 332 0)), (2, .int (-1)), (3, .int 1000000)]) (Ev.cm _) rfl rfl ?_
  refine w_iconst (Ev.cm _) rfl ?_
  refine w_istore (ls2 := [(0, .ref 331), (1, .int (I 332 0)), (2, .int (-1)), (3, .int 1000000), (4, .int 1)]) (Ev.cm _) rfl rfl ?_
  show Wp _ _ _ _ _ _ _ 16 [(0, .ref 331), (1, .int (I 332 0)), (2, .int (-1)), (3, .int 1000000), (4, .int 1)] [] (HS I L X)
  refine Wp.sub [0, 1, 2, 3, 4] (ls2 := [(0, .ref 331), (1, .int (I 332 0)), (2, .int (-1)), (3, .int 1000000), (4, .int 1)]) rfl ?_
  exact lo_M_which_16 g fu _ _ _ _ _ _ q
def FO_M_heavy (fu : Nat) (p0 : Int32) (p1 : Int32) (I : Nat → Nat → Int32) (L : Nat → Nat → Int64) : Option (Int32 × (Nat → Nat → Int32) × (Nat → Nat → Int64)) := if (0 : Int32) ≤ p0 ∧ p0 ≤ (5 : Int32) then (if (1 : Int32) ≤ p1 ∧ p1 ≤ (99 : Int32) then (if 0 ≤ (71 : Int32) + p0 ∧ (71 : Int32) + p0 < 1541 then (some (1, sI I 332 (((71 : Int32) + p0).toNatClampNeg) p1, L)) else none) else (some (0, I, L))) else (some (0, I, L))
set_option maxHeartbeats 20000000 in
set_option maxRecDepth 20000 in
theorem eo_M_heavy {d fu : Nat} {p0 : Int32} {p1 : Int32} {I : Nat → Nat → Int32} {L : Nat → Nat → Int64} {X : Nat × (Nat → Int32)} {Q : PQ} {res : Int32 × (Nat → Nat → Int32) × (Nat → Nat → Int64)} (g : Q (some (.int res.1)) (HS res.2.1 res.2.2 X)) (q : FO_M_heavy fu p0 p1 I L = some res) : Ev (d + 2) m_M_heavy [.ref 331, .int p0, .int p1] (HS I L X) Q := by
  unfold FO_M_heavy at q
  refine ev_start (d := d + 1) rfl rfl rfl (Nat.le_of_ble_eq_true rfl) ?_
  show Wp (Ev (d + 1)) cd_M_heavy (0, 0) (some .boolean) _ _ Q 0 [(0, .ref 331), (1, .int p0), (2, .int p1)] [] (HS I L X)
  refine w_iload_n (Ev.cm _) rfl rfl ?_
  refine w_iconst (Ev.cm _) rfl ?_
  refine w_iconst (Ev.cm _) rfl ?_
  refine w_cstat (as := [.int p0, .int 0, .int 5]) (st := []) (Ev.cm _) rfl rfl rfl (Nat.le_of_ble_eq_true rfl) (Nat.le_of_ble_eq_true rfl) (m_isIn ?_)
  show Wp _ _ _ _ _ _ _ 6 [(0, .ref 331), (1, .int p0), (2, .int p1)] [.int (bI ((0 : Int32) ≤ p0 ∧ p0 ≤ (5 : Int32)))] (HS I L X)
  refine w_if_eq (Ev.cm _) rfl (fun c1 => ?_) (fun c1 => ?_)
  · have c1 : ¬ ((0 : Int32) ≤ p0 ∧ p0 ≤ (5 : Int32)) := bI_0.mp c1
    rw [if_neg c1] at q
    refine w_iconst (Ev.cm _) rfl ?_
    refine w_ireturn (Ev.cm _) rfl (by first | exact rok_0 | exact rok_1 | exact rok_b) rf0 ?_
    cases q
    exact g
  · have c1 : (0 : Int32) ≤ p0 ∧ p0 ≤ (5 : Int32) := bI_1.mp c1
    rw [if_pos c1] at q
    refine w_iload_n (Ev.cm _) rfl rfl ?_
    refine w_iconst (Ev.cm _) rfl ?_
    refine w_bipush (Ev.cm _) rfl ?_
    refine w_cstat (as := [.int p1, .int 1, .int 99]) (st := []) (Ev.cm _) rfl rfl rfl (Nat.le_of_ble_eq_true rfl) (Nat.le_of_ble_eq_true rfl) (m_isIn ?_)
    show Wp _ _ _ _ _ _ _ 16 [(0, .ref 331), (1, .int p0), (2, .int p1)] [.int (bI ((1 : Int32) ≤ p1 ∧ p1 ≤ (99 : Int32)))] (HS I L X)
    refine w_if_ne (Ev.cm _) rfl (fun c2 => ?_) (fun c2 => ?_)
    · have c2 : (1 : Int32) ≤ p1 ∧ p1 ≤ (99 : Int32) := bI_1.mp c2
      rw [if_pos c2] at q
      refine w_aload_n (Ev.cm _) rfl rfl ?_
      refine w_getR (q := 332) (Ev.cm _) rfl (Nat.le_of_ble_eq_true rfl) rfl rfl ?_
      refine w_bipush (Ev.cm _) rfl ?_
      refine w_iload_n (Ev.cm _) rfl rfl ?_
      refine w_iadd (Ev.cm _) rfl ?_
      refine w_iload_n (Ev.cm _) rfl rfl ?_
      obtain ⟨b1, q⟩ := ois q
      refine w_iast (Ev.cm _) rfl (Nat.le_of_ble_eq_true rfl) rfl (show vp_in ((71 : Int32) + p0) 1541 from vpI 1541 (by decide) b1.1 b1.2) ?_
      refine w_iconst (Ev.cm _) rfl ?_
      refine w_ireturn (Ev.cm _) rfl (by first | exact rok_0 | exact rok_1 | exact rok_b) rf0 ?_
      cases q
      exact g
    · have c2 : ¬ ((1 : Int32) ≤ p1 ∧ p1 ≤ (99 : Int32)) := bI_0.mp c2
      rw [if_neg c2] at q
      refine w_iconst (Ev.cm _) rfl ?_
      refine w_ireturn (Ev.cm _) rfl (by first | exact rok_0 | exact rok_1 | exact rok_b) rf0 ?_
      cases q
      exact g
def LO_M_lightest_4 (fu : Nat) : Nat → Int32 → Int32 → Int32 → (Nat → Nat → Int32) → (Nat → Nat → Int64) → Option (Int32 × (Nat → Nat → Int32) × (Nat → Nat → Int64))
  | 0, _, _, _, _, _ => none
  | n + 1, x1, x2, x3, I, L => if x1 ≤ x3 then (if 0 ≤ x2 ∧ x2 < 6 then (if 0 ≤ x1 - 1 ∧ x1 - 1 < 6 then (if 0 ≤ x2 ∧ x2 < 6 then (some (I 348 x2.toNatClampNeg, sI I 348 x2.toNatClampNeg (I 348 ((x1 - 1).toNatClampNeg)), L)) else none) else none) else none) else (if 0 ≤ x3 ∧ x3 < 6 then (if 0 ≤ x2 ∧ x2 < 6 then (if I 348 x2.toNatClampNeg ≤ I 348 x3.toNatClampNeg then (LO_M_lightest_4 fu n x1 x2 (x3 + 1) I L) else (LO_M_lightest_4 fu n x1 x3 (x3 + 1) I L)) else none) else none)
set_option maxHeartbeats 20000000 in
set_option maxRecDepth 20000 in
theorem lo_M_lightest_4 {d fu n0 s0 : Nat} {X : Nat × (Nat → Int32)} {Q : PQ} {res : Int32 × (Nat → Nat → Int32) × (Nat → Nat → Int64)} (g : Q (some (.int res.1)) (HS res.2.1 res.2.2 X)) : ∀ (n : Nat) (x1 : Int32) (x2 : Int32) (x3 : Int32) (I : Nat → Nat → Int32) (L : Nat → Nat → Int64), LO_M_lightest_4 fu n x1 x2 x3 I L = some res → Wp (Ev (d + 0)) cd_M_lightest (0, 0) (some .int) n0 s0 Q 4 [(0, .ref 331), (1, .int x1), (2, .int x2), (3, .int x3)] [] (HS I L X) := by
  intro n
  induction n with
  | zero => intro _ _ _ _ _ q; cases q
  | succ n ih =>
    intro x1 x2 x3 I L q
    unfold LO_M_lightest_4 at q
    refine w_iload_n (Ev.cm _) rfl rfl ?_
    refine w_iload_n (Ev.cm _) rfl rfl ?_
    refine w_icmp_ge (Ev.cm _) rfl (fun c1 => ?_) (fun c1 => ?_)
    · have c1 : x1 ≤ x3 := c1
      rw [if_pos c1] at q
      refine w_aload_n (Ev.cm _) rfl rfl ?_
      refine w_getR (q := 348) (Ev.cm _) rfl (Nat.le_of_ble_eq_true rfl) rfl rfl ?_
      refine w_iload_n (Ev.cm _) rfl rfl ?_
      obtain ⟨b1, q⟩ := ois q
      refine w_iald (Ev.cm _) rfl (Nat.le_of_ble_eq_true rfl) rfl (show vp_in x2 6 from vpI 6 (by decide) b1.1 b1.2) ?_
      refine w_istore_n (ls2 := [(0, .ref 331), (1, .int x1), (2, .int x2), (3, .int (I 348 x2.toNatClampNeg))]) (Ev.cm _) rfl rfl ?_
      refine w_aload_n (Ev.cm _) rfl rfl ?_
      refine w_getR (q := 348) (Ev.cm _) rfl (Nat.le_of_ble_eq_true rfl) rfl rfl ?_
      refine w_iload_n (Ev.cm _) rfl rfl ?_
      refine w_aload_n (Ev.cm _) rfl rfl ?_
      refine w_getR (q := 348) (Ev.cm _) rfl (Nat.le_of_ble_eq_true rfl) rfl rfl ?_
      refine w_iload_n (Ev.cm _) rfl rfl ?_
      refine w_iconst (Ev.cm _) rfl ?_
      refine w_isub (Ev.cm _) rfl ?_
      obtain ⟨b2, q⟩ := ois q
      refine w_iald (Ev.cm _) rfl (Nat.le_of_ble_eq_true rfl) rfl (show vp_in (x1 - 1) 6 from vpI 6 (by decide) b2.1 b2.2) ?_
      obtain ⟨b3, q⟩ := ois q
      refine w_iast (Ev.cm _) rfl (Nat.le_of_ble_eq_true rfl) rfl (show vp_in x2 6 from vpI 6 (by decide) b3.1 b3.2) ?_
      refine w_iload_n (Ev.cm _) rfl rfl ?_
      refine w_ireturn (Ev.cm _) rfl trivial rf0 ?_
      cases q
      exact g
    · have c1 : ¬ (x1 ≤ x3) := c1
      rw [if_neg c1] at q
      refine w_aload_n (Ev.cm _) rfl rfl ?_
      refine w_getR (q := 348) (Ev.cm _) rfl (Nat.le_of_ble_eq_true rfl) rfl rfl ?_
      refine w_iload_n (Ev.cm _) rfl rfl ?_
      obtain ⟨b4, q⟩ := ois q
      refine w_iald (Ev.cm _) rfl (Nat.le_of_ble_eq_true rfl) rfl (show vp_in x3 6 from vpI 6 (by decide) b4.1 b4.2) ?_
      refine w_aload_n (Ev.cm _) rfl rfl ?_
      refine w_getR (q := 348) (Ev.cm _) rfl (Nat.le_of_ble_eq_true rfl) rfl rfl ?_
      refine w_iload_n (Ev.cm _) rfl rfl ?_
      obtain ⟨b5, q⟩ := ois q
      refine w_iald (Ev.cm _) rfl (Nat.le_of_ble_eq_true rfl) rfl (show vp_in x2 6 from vpI 6 (by decide) b5.1 b5.2) ?_
      refine w_icmp_ge (Ev.cm _) rfl (fun c2 => ?_) (fun c2 => ?_)
      · have c2 : I 348 x2.toNatClampNeg ≤ I 348 x3.toNatClampNeg := c2
        rw [if_pos c2] at q
        refine w_iinc (ls2 := [(0, .ref 331), (1, .int x1), (2, .int x2), (3, .int (x3 + 1))]) (Ev.cm _) rfl rfl rfl ?_
        refine w_goto (Ev.cm _) rfl ?_
        show Wp _ _ _ _ _ _ _ 4 [(0, .ref 331), (1, .int x1), (2, .int x2), (3, .int (x3 + 1))] [] (HS I L X)
        refine Wp.sub [0, 1, 2, 3] (ls2 := [(0, .ref 331), (1, .int x1), (2, .int x2), (3, .int (x3 + 1))]) rfl ?_
        exact ih _ _ _ _ _ q
      · have c2 : ¬ (I 348 x2.toNatClampNeg ≤ I 348 x3.toNatClampNeg) := c2
        rw [if_neg c2] at q
        refine w_iload_n (Ev.cm _) rfl rfl ?_
        refine w_istore_n (ls2 := [(0, .ref 331), (1, .int x1), (2, .int x3), (3, .int x3)]) (Ev.cm _) rfl rfl ?_
        refine w_iinc (ls2 := [(0, .ref 331), (1, .int x1), (2, .int x3), (3, .int (x3 + 1))]) (Ev.cm _) rfl rfl rfl ?_
        refine w_goto (Ev.cm _) rfl ?_
        show Wp _ _ _ _ _ _ _ 4 [(0, .ref 331), (1, .int x1), (2, .int x3), (3, .int (x3 + 1))] [] (HS I L X)
        refine Wp.sub [0, 1, 2, 3] (ls2 := [(0, .ref 331), (1, .int x1), (2, .int x3), (3, .int (x3 + 1))]) rfl ?_
        exact ih _ _ _ _ _ q
def FO_M_lightest (fu : Nat) (p0 : Int32) (I : Nat → Nat → Int32) (L : Nat → Nat → Int64) : Option (Int32 × (Nat → Nat → Int32) × (Nat → Nat → Int64)) := LO_M_lightest_4 fu fu p0 0 1 I L
set_option maxHeartbeats 20000000 in
set_option maxRecDepth 20000 in
theorem eo_M_lightest {d fu : Nat} {p0 : Int32} {I : Nat → Nat → Int32} {L : Nat → Nat → Int64} {X : Nat × (Nat → Int32)} {Q : PQ} {res : Int32 × (Nat → Nat → Int32) × (Nat → Nat → Int64)} (g : Q (some (.int res.1)) (HS res.2.1 res.2.2 X)) (q : FO_M_lightest fu p0 I L = some res) : Ev (d + 1) m_M_lightest [.ref 331, .int p0] (HS I L X) Q := by
  unfold FO_M_lightest at q
  refine ev_start (d := d + 0) rfl rfl rfl (Nat.le_of_ble_eq_true rfl) ?_
  show Wp (Ev (d + 0)) cd_M_lightest (0, 0) (some .int) _ _ Q 0 [(0, .ref 331), (1, .int p0)] [] (HS I L X)
  refine w_iconst (Ev.cm _) rfl ?_
  refine w_istore_n (ls2 := [(0, .ref 331), (1, .int p0), (2, .int 0)]) (Ev.cm _) rfl rfl ?_
  refine w_iconst (Ev.cm _) rfl ?_
  refine w_istore_n (ls2 := [(0, .ref 331), (1, .int p0), (2, .int 0), (3, .int 1)]) (Ev.cm _) rfl rfl ?_
  show Wp _ _ _ _ _ _ _ 4 [(0, .ref 331), (1, .int p0), (2, .int 0), (3, .int 1)] [] (HS I L X)
  refine Wp.sub [0, 1, 2, 3] (ls2 := [(0, .ref 331), (1, .int p0), (2, .int 0), (3, .int 1)]) rfl ?_
  exact lo_M_lightest_4 g fu _ _ _ _ _ q
def LO_M_cheapest_44 (fu : Nat) : Nat → Int32 → Int32 → Int32 → (Nat → Nat → Int32) → (Nat → Nat → Int64) → Option (Int32 × (Nat → Nat → Int32) × (Nat → Nat → Int64))
  | 0, _, _, _, _, _ => none
  | n + 1, x1, x2, x3, I, L => if x3 ≤ 1 then (some (x2, I, L)) else ((FO_M_lightest fu x3 I L).bind (fun u1 => let r1 := u1.1; let I1 := u1.2.1; let L1 := u1.2.2; (FO_M_lightest fu (x3 - 1) I1 L1).bind (fun u2 => let r2 := u2.1; let I2 := u2.2.1; let L2 := u2.2.2; if 0 ≤ x3 - 2 ∧ x3 - 2 < 6 then (LO_M_cheapest_44 fu n x1 (x2 + (r1 + r2)) (x3 + (-1)) (sI I2 348 ((x3 - 2).toNatClampNeg) (r1 + r2)) L2) else none)))
set_option maxHeartbeats 20000000 in
set_option maxRecDepth 20000 in
theorem lo_M_cheapest_44 {d fu n0 s0 : Nat} {X : Nat × (Nat → Int32)} {Q : PQ} {res : Int32 × (Nat → Nat → Int32) × (Nat → Nat → Int64)} (g : Q (some (.int res.1)) (HS res.2.1 res.2.2 X)) : ∀ (n : Nat) (x1 : Int32) (x2 : Int32) (x3 : Int32) (I : Nat → Nat → Int32) (L : Nat → Nat → Int64), LO_M_cheapest_44 fu n x1 x2 x3 I L = some res → Wp (Ev (d + 1)) cd_M_cheapest (0, 0) (some .int) n0 s0 Q 44 [(0, .ref 331), (1, .int x1), (2, .int x2), (3, .int x3)] [] (HS I L X) := by
  intro n
  induction n with
  | zero => intro _ _ _ _ _ q; cases q
  | succ n ih =>
    intro x1 x2 x3 I L q
    unfold LO_M_cheapest_44 at q
    refine w_iload_n (Ev.cm _) rfl rfl ?_
    refine w_iconst (Ev.cm _) rfl ?_
    refine w_icmp_le (Ev.cm _) rfl (fun c1 => ?_) (fun c1 => ?_)
    · have c1 : x3 ≤ 1 := c1
      rw [if_pos c1] at q
      refine w_iload_n (Ev.cm _) rfl rfl ?_
      refine w_ireturn (Ev.cm _) rfl trivial rf0 ?_
      cases q
      exact g
    · have c1 : ¬ (x3 ≤ 1) := c1
      rw [if_neg c1] at q
      refine w_aload_n (Ev.cm _) rfl rfl ?_
      refine w_iload_n (Ev.cm _) rfl rfl ?_
      obtain ⟨⟨r1, I1, L1⟩, e1, q⟩ := obs q
      dsimp only at q
      refine w_cvirt (o := 331) (as := [.int x3]) (st := []) (Ev.cm _) rfl rfl rfl (Nat.le_of_ble_eq_true rfl) (Nat.le_of_ble_eq_true rfl) rfl (Nat.le_of_ble_eq_true rfl) (eo_M_lightest (g := ?_) e1)
      show Wp _ _ _ _ _ _ _ 54 [(0, .ref 331), (1, .int x1), (2, .int x2), (3, .int x3)] [.int r1] (HS I1 L1 X)
      refine w_istore (ls2 := [(0, .ref 331), (1, .int x1), (2, .int x2), (3, .int x3), (4, .int r1)]) (Ev.cm _) rfl rfl ?_
      refine w_iload (Ev.cm _) rfl rfl ?_
      refine w_aload_n (Ev.cm _) rfl rfl ?_
      refine w_iload_n (Ev.cm _) rfl rfl ?_
      refine w_iconst (Ev.cm _) rfl ?_
      refine w_isub (Ev.cm _) rfl ?_
      obtain ⟨⟨r2, I2, L2⟩, e2, q⟩ := obs q
      dsimp only at q
      refine w_cvirt (o := 331) (as := [.int (x3 - 1)]) (st := [.int r1]) (Ev.cm _) rfl rfl rfl (Nat.le_of_ble_eq_true rfl) (Nat.le_of_ble_eq_true rfl) rfl (Nat.le_of_ble_eq_true rfl) (eo_M_lightest (g := ?_) e2)
      show Wp _ _ _ _ _ _ _ 65 [(0, .ref 331), (1, .int x1), (2, .int x2), (3, .int x3), (4, .int r1)] [.int r2, .int r1] (HS I2 L2 X)
      refine w_iadd (Ev.cm _) rfl ?_
      refine w_istore (ls2 := [(0, .ref 331), (1, .int x1), (2, .int x2), (3, .int x3), (4, .int (r1 + r2))]) (Ev.cm _) rfl rfl ?_
      refine w_iload_n (Ev.cm _) rfl rfl ?_
      refine w_iload (Ev.cm _) rfl rfl ?_
      refine w_iadd (Ev.cm _) rfl ?_
      refine w_istore_n (ls2 := [(0, .ref 331), (1, .int x1), (2, .int (x2 + (r1 + r2))), (3, .int x3), (4, .int (r1 + r2))]) (Ev.cm _) rfl rfl ?_
      refine w_aload_n (Ev.cm _) rfl rfl ?_
      refine w_getR (q := 348) (Ev.cm _) rfl (Nat.le_of_ble_eq_true rfl) rfl rfl ?_
      refine w_iload_n (Ev.cm _) rfl rfl ?_
      refine w_iconst (Ev.cm _) rfl ?_
      refine w_isub (Ev.cm _) rfl ?_
      refine w_iload (Ev.cm _) rfl rfl ?_
      obtain ⟨b3, q⟩ := ois q
      refine w_iast (Ev.cm _) rfl (Nat.le_of_ble_eq_true rfl) rfl (show vp_in (x3 - 2) 6 from vpI 6 (by decide) b3.1 b3.2) ?_
      refine w_iinc (ls2 := [(0, .ref 331), (1, .int x1), (2, .int (x2 + (r1 + r2))), (3, .int (x3 + (-1))), (4, .int (r1 + r2))]) (Ev.cm _) rfl rfl rfl ?_
      refine w_goto (Ev.cm _) rfl ?_
      show Wp _ _ _ _ _ _ _ 44 [(0, .ref 331), (1, .int x1), (2, .int (x2 + (r1 + r2))), (3, .int (x3 + (-1))), (4, .int (r1 + r2))] [] (HS (sI I2 348 ((x3 - 2).toNatClampNeg) (r1 + r2)) L2 X)
      refine Wp.sub [0, 1, 2, 3] (ls2 := [(0, .ref 331), (1, .int x1), (2, .int (x2 + (r1 + r2))), (3, .int (x3 + (-1)))]) rfl ?_
      exact ih _ _ _ _ _ q
def LO_M_cheapest_14 (fu : Nat) : Nat → Int32 → Int32 → (Nat → Nat → Int32) → (Nat → Nat → Int64) → Option (Int32 × (Nat → Nat → Int32) × (Nat → Nat → Int64))
  | 0, _, _, _, _ => none
  | n + 1, x1, x2, I, L => if x1 ≤ x2 then (LO_M_cheapest_44 fu fu x1 0 x1 I L) else (if 0 ≤ (71 : Int32) + x2 ∧ (71 : Int32) + x2 < 1541 then (if 0 ≤ x2 ∧ x2 < 6 then (LO_M_cheapest_14 fu n x1 (x2 + 1) (sI I 348 x2.toNatClampNeg (I 332 (((71 : Int32) + x2).toNatClampNeg))) L) else none) else none)
set_option maxHeartbeats 20000000 in
set_option maxRecDepth 20000 in
theorem lo_M_cheapest_14 {d fu n0 s0 : Nat} {X : Nat × (Nat → Int32)} {Q : PQ} {res : Int32 × (Nat → Nat → Int32) × (Nat → Nat → Int64)} (g : Q (some (.int res.1)) (HS res.2.1 res.2.2 X)) : ∀ (n : Nat) (x1 : Int32) (x2 : Int32) (I : Nat → Nat → Int32) (L : Nat → Nat → Int64), LO_M_cheapest_14 fu n x1 x2 I L = some res → Wp (Ev (d + 1)) cd_M_cheapest (0, 0) (some .int) n0 s0 Q 14 [(0, .ref 331), (1, .int x1), (2, .int x2)] [] (HS I L X) := by
  intro n
  induction n with
  | zero => intro _ _ _ _ q; cases q
  | succ n ih =>
    intro x1 x2 I L q
    unfold LO_M_cheapest_14 at q
    refine w_iload_n (Ev.cm _) rfl rfl ?_
    refine w_iload_n (Ev.cm _) rfl rfl ?_
    refine w_icmp_ge (Ev.cm _) rfl (fun c1 => ?_) (fun c1 => ?_)
    · have c1 : x1 ≤ x2 := c1
      rw [if_pos c1] at q
      refine w_iconst (Ev.cm _) rfl ?_
      refine w_istore_n (ls2 := [(0, .ref 331), (1, .int x1), (2, .int 0)]) (Ev.cm _) rfl rfl ?_
      refine w_iload_n (Ev.cm _) rfl rfl ?_
      refine w_istore_n (ls2 := [(0, .ref 331), (1, .int x1), (2, .int 0), (3, .int x1)]) (Ev.cm _) rfl rfl ?_
      show Wp _ _ _ _ _ _ _ 44 [(0, .ref 331), (1, .int x1), (2, .int 0), (3, .int x1)] [] (HS I L X)
      refine Wp.sub [0, 1, 2, 3] (ls2 := [(0, .ref 331), (1, .int x1), (2, .int 0), (3, .int x1)]) rfl ?_
      exact lo_M_cheapest_44 g fu _ _ _ _ _ q
    · have c1 : ¬ (x1 ≤ x2) := c1
      rw [if_neg c1] at q
      refine w_aload_n (Ev.cm _) rfl rfl ?_
      refine w_getR (q := 348) (Ev.cm _) rfl (Nat.le_of_ble_eq_true rfl) rfl rfl ?_
      refine w_iload_n (Ev.cm _) rfl rfl ?_
      refine w_aload_n (Ev.cm _) rfl rfl ?_
      refine w_getR (q := 332) (Ev.cm _) rfl (Nat.le_of_ble_eq_true rfl) rfl rfl ?_
      refine w_bipush (Ev.cm _) rfl ?_
      refine w_iload_n (Ev.cm _) rfl rfl ?_
      refine w_iadd (Ev.cm _) rfl ?_
      obtain ⟨b1, q⟩ := ois q
      refine w_iald (Ev.cm _) rfl (Nat.le_of_ble_eq_true rfl) rfl (show vp_in ((71 : Int32) + x2) 1541 from vpI 1541 (by decide) b1.1 b1.2) ?_
      obtain ⟨b2, q⟩ := ois q
      refine w_iast (Ev.cm _) rfl (Nat.le_of_ble_eq_true rfl) rfl (show vp_in x2 6 from vpI 6 (by decide) b2.1 b2.2) ?_
      refine w_iinc (ls2 := [(0, .ref 331), (1, .int x1), (2, .int (x2 + 1))]) (Ev.cm _) rfl rfl rfl ?_
      refine w_goto (Ev.cm _) rfl ?_
      show Wp _ _ _ _ _ _ _ 14 [(0, .ref 331), (1, .int x1), (2, .int (x2 + 1))] [] (HS (sI I 348 x2.toNatClampNeg (I 332 (((71 : Int32) + x2).toNatClampNeg))) L X)
      refine Wp.sub [0, 1, 2] (ls2 := [(0, .ref 331), (1, .int x1), (2, .int (x2 + 1))]) rfl ?_
      exact ih _ _ _ _ q
def FO_M_cheapest (fu : Nat) (p0 : Int32) (I : Nat → Nat → Int32) (L : Nat → Nat → Int64) : Option (Int32 × (Nat → Nat → Int32) × (Nat → Nat → Int64)) := if (1 : Int32) ≤ p0 ∧ p0 ≤ (6 : Int32) then (LO_M_cheapest_14 fu fu p0 0 I L) else (some ((-1), I, L))
set_option maxHeartbeats 20000000 in
set_option maxRecDepth 20000 in
theorem eo_M_cheapest {d fu : Nat} {p0 : Int32} {I : Nat → Nat → Int32} {L : Nat → Nat → Int64} {X : Nat × (Nat → Int32)} {Q : PQ} {res : Int32 × (Nat → Nat → Int32) × (Nat → Nat → Int64)} (g : Q (some (.int res.1)) (HS res.2.1 res.2.2 X)) (q : FO_M_cheapest fu p0 I L = some res) : Ev (d + 2) m_M_cheapest [.ref 331, .int p0] (HS I L X) Q := by
  unfold FO_M_cheapest at q
  refine ev_start (d := d + 1) rfl rfl rfl (Nat.le_of_ble_eq_true rfl) ?_
  show Wp (Ev (d + 1)) cd_M_cheapest (0, 0) (some .int) _ _ Q 0 [(0, .ref 331), (1, .int p0)] [] (HS I L X)
  refine w_iload_n (Ev.cm _) rfl rfl ?_
  refine w_iconst (Ev.cm _) rfl ?_
  refine w_bipush (Ev.cm _) rfl ?_
  refine w_cstat (as := [.int p0, .int 1, .int 6]) (st := []) (Ev.cm _) rfl rfl rfl (Nat.le_of_ble_eq_true rfl) (Nat.le_of_ble_eq_true rfl) (m_isIn ?_)
  show Wp _ _ _ _ _ _ _ 7 [(0, .ref 331), (1, .int p0)] [.int (bI ((1 : Int32) ≤ p0 ∧ p0 ≤ (6 : Int32)))] (HS I L X)
  refine w_if_ne (Ev.cm _) rfl (fun c1 => ?_) (fun c1 => ?_)
  · have c1 : (1 : Int32) ≤ p0 ∧ p0 ≤ (6 : Int32) := bI_1.mp c1
    rw [if_pos c1] at q
    refine w_iconst (Ev.cm _) rfl ?_
    refine w_istore_n (ls2 := [(0, .ref 331), (1, .int p0), (2, .int 0)]) (Ev.cm _) rfl rfl ?_
    show Wp _ _ _ _ _ _ _ 14 [(0, .ref 331), (1, .int p0), (2, .int 0)] [] (HS I L X)
    refine Wp.sub [0, 1, 2] (ls2 := [(0, .ref 331), (1, .int p0), (2, .int 0)]) rfl ?_
    exact lo_M_cheapest_14 g fu _ _ _ _ q
  · have c1 : ¬ ((1 : Int32) ≤ p0 ∧ p0 ≤ (6 : Int32)) := bI_0.mp c1
    rw [if_neg c1] at q
    refine w_iconst (Ev.cm _) rfl ?_
    refine w_ireturn (Ev.cm _) rfl trivial rf0 ?_
    cases q
    exact g
def FO_M_said (fu : Nat) (p0 : Int32) (p1 : Int32) (p2 : Int32) (I : Nat → Nat → Int32) (L : Nat → Nat → Int64) : Option (Int32 × (Nat → Nat → Int32) × (Nat → Nat → Int64)) := if p0 = (-1) then (some (0, sI I 332 6 0, L)) else (if F_M_isLodger I p0 = 0 then (some ((-2), I, L)) else (if 1 ≤ p1 ∧ p1 ≤ 12 then (if (0 : Int32) ≤ p2 ∧ p2 ≤ (99 : Int32) then (if I 332 6 = 8 then (some ((-2), I, L)) else (if 0 ≤ (77 : Int32) + ((3 : Int32) * (I 332 6)) ∧ (77 : Int32) + ((3 : Int32) * (I 332 6)) < 1541 then (if 0 ≤ ((77 : Int32) + ((3 : Int32) * (I 332 6))) + 1 ∧ ((77 : Int32) + ((3 : Int32) * (I 332 6))) + 1 < 1541 then (if 0 ≤ ((77 : Int32) + ((3 : Int32) * (I 332 6))) + 2 ∧ ((77 : Int32) + ((3 : Int32) * (I 332 6))) + 2 < 1541 then (some (((sI (sI (sI I 332 (((77 : Int32) + ((3 : Int32) * (I 332 6))).toNatClampNeg) p0) 332 ((((77 : Int32) + ((3 : Int32) * (I 332 6))) + 1).toNatClampNeg) p1) 332 ((((77 : Int32) + ((3 : Int32) * (I 332 6))) + 2).toNatClampNeg) p2) 332 6) + 1, sI (sI (sI (sI I 332 (((77 : Int32) + ((3 : Int32) * (I 332 6))).toNatClampNeg) p0) 332 ((((77 : Int32) + ((3 : Int32) * (I 332 6))) + 1).toNatClampNeg) p1) 332 ((((77 : Int32) + ((3 : Int32) * (I 332 6))) + 2).toNatClampNeg) p2) 332 6 (((sI (sI (sI I 332 (((77 : Int32) + ((3 : Int32) * (I 332 6))).toNatClampNeg) p0) 332 ((((77 : Int32) + ((3 : Int32) * (I 332 6))) + 1).toNatClampNeg) p1) 332 ((((77 : Int32) + ((3 : Int32) * (I 332 6))) + 2).toNatClampNeg) p2) 332 6) + 1), L)) else none) else none) else none)) else (some ((-2), I, L))) else (some ((-2), I, L))))
set_option maxHeartbeats 20000000 in
set_option maxRecDepth 20000 in
theorem eo_M_said {d fu : Nat} {p0 : Int32} {p1 : Int32} {p2 : Int32} {I : Nat → Nat → Int32} {L : Nat → Nat → Int64} {X : Nat × (Nat → Int32)} {Q : PQ} {res : Int32 × (Nat → Nat → Int32) × (Nat → Nat → Int64)} (g : Q (some (.int res.1)) (HS res.2.1 res.2.2 X)) (q : FO_M_said fu p0 p1 p2 I L = some res) : Ev (d + 3) m_M_said [.ref 331, .int p0, .int p1, .int p2] (HS I L X) Q := by
  unfold FO_M_said at q
  refine ev_start (d := d + 2) rfl rfl rfl (Nat.le_of_ble_eq_true rfl) ?_
  show Wp (Ev (d + 2)) cd_M_said (0, 0) (some .int) _ _ Q 0 [(0, .ref 331), (1, .int p0), (2, .int p1), (3, .int p2)] [] (HS I L X)
  refine w_iload_n (Ev.cm _) rfl rfl ?_
  refine w_iconst (Ev.cm _) rfl ?_
  refine w_icmp_ne (Ev.cm _) rfl (fun c1 => ?_) (fun c1 => ?_)
  · have c1 : ¬ (p0 = (-1)) := c1
    rw [if_neg c1] at q
    refine w_aload_n (Ev.cm _) rfl rfl ?_
    refine w_iload_n (Ev.cm _) rfl rfl ?_
    refine w_cvirt (o := 331) (as := [.int p0]) (st := []) (Ev.cm _) rfl rfl rfl (Nat.le_of_ble_eq_true rfl) (Nat.le_of_ble_eq_true rfl) rfl (Nat.le_of_ble_eq_true rfl) (e_M_isLodger ?_)
    show Wp _ _ _ _ _ _ _ 20 [(0, .ref 331), (1, .int p0), (2, .int p1), (3, .int p2)] [.int (F_M_isLodger I p0)] (HS I L X)
    refine w_if_eq (Ev.cm _) rfl (fun c2 => ?_) (fun c2 => ?_)
    · have c2 : F_M_isLodger I p0 = 0 := c2
      rw [if_pos c2] at q
      refine w_bipush (Ev.cm _) rfl ?_
      refine w_ireturn (Ev.cm _) rfl trivial rf0 ?_
      cases q
      exact g
    · have c2 : ¬ (F_M_isLodger I p0 = 0) := c2
      rw [if_neg c2] at q
      refine w_iload_n (Ev.cm _) rfl rfl ?_
      refine w_cstat (as := [.int p1]) (st := []) (Ev.cm _) rfl rfl rfl (Nat.le_of_ble_eq_true rfl) (Nat.le_of_ble_eq_true rfl) (m_isStair ?_)
      show Wp _ _ _ _ _ _ _ 27 [(0, .ref 331), (1, .int p0), (2, .int p1), (3, .int p2)] [.int (bI (1 ≤ p1 ∧ p1 ≤ 12))] (HS I L X)
      refine w_if_eq (Ev.cm _) rfl (fun c3 => ?_) (fun c3 => ?_)
      · have c3 : ¬ (1 ≤ p1 ∧ p1 ≤ 12) := bI_0.mp c3
        rw [if_neg c3] at q
        refine w_bipush (Ev.cm _) rfl ?_
        refine w_ireturn (Ev.cm _) rfl trivial rf0 ?_
        cases q
        exact g
      · have c3 : 1 ≤ p1 ∧ p1 ≤ 12 := bI_1.mp c3
        rw [if_pos c3] at q
        refine w_iload_n (Ev.cm _) rfl rfl ?_
        refine w_iconst (Ev.cm _) rfl ?_
        refine w_bipush (Ev.cm _) rfl ?_
        refine w_cstat (as := [.int p2, .int 0, .int 99]) (st := []) (Ev.cm _) rfl rfl rfl (Nat.le_of_ble_eq_true rfl) (Nat.le_of_ble_eq_true rfl) (m_isIn ?_)
        show Wp _ _ _ _ _ _ _ 37 [(0, .ref 331), (1, .int p0), (2, .int p1), (3, .int p2)] [.int (bI ((0 : Int32) ≤ p2 ∧ p2 ≤ (99 : Int32)))] (HS I L X)
        refine w_if_eq (Ev.cm _) rfl (fun c4 => ?_) (fun c4 => ?_)
        · have c4 : ¬ ((0 : Int32) ≤ p2 ∧ p2 ≤ (99 : Int32)) := bI_0.mp c4
          rw [if_neg c4] at q
          refine w_bipush (Ev.cm _) rfl ?_
          refine w_ireturn (Ev.cm _) rfl trivial rf0 ?_
          cases q
          exact g
        · have c4 : (0 : Int32) ≤ p2 ∧ p2 ≤ (99 : Int32) := bI_1.mp c4
          rw [if_pos c4] at q
          refine w_aload_n (Ev.cm _) rfl rfl ?_
          refine w_getR (q := 332) (Ev.cm _) rfl (Nat.le_of_ble_eq_true rfl) rfl rfl ?_
          refine w_bipush (Ev.cm _) rfl ?_
          refine w_iald (Ev.cm _) rfl (Nat.le_of_ble_eq_true rfl) rfl (show vp_in 6 1541 from vpI 1541 (by decide) (by decide) (by decide)) ?_
          refine w_bipush (Ev.cm _) rfl ?_
          refine w_icmp_ne (Ev.cm _) rfl (fun c5 => ?_) (fun c5 => ?_)
          · have c5 : ¬ (I 332 6 = 8) := c5
            rw [if_neg c5] at q
            refine w_bipush (Ev.cm _) rfl ?_
            refine w_iconst (Ev.cm _) rfl ?_
            refine w_aload_n (Ev.cm _) rfl rfl ?_
            refine w_getR (q := 332) (Ev.cm _) rfl (Nat.le_of_ble_eq_true rfl) rfl rfl ?_
            refine w_bipush (Ev.cm _) rfl ?_
            refine w_iald (Ev.cm _) rfl (Nat.le_of_ble_eq_true rfl) rfl (show vp_in 6 1541 from vpI 1541 (by decide) (by decide) (by decide)) ?_
            refine w_imul (Ev.cm _) rfl ?_
            refine w_iadd (Ev.cm _) rfl ?_
            refine w_istore (ls2 := [(0, .ref 331), (1, .int p0), (2, .int p1), (3, .int p2), (4, .int ((77 : Int32) + ((3 : Int32) * (I 332 6))))]) (Ev.cm _) rfl rfl ?_
            refine w_aload_n (Ev.cm _) rfl rfl ?_
            refine w_getR (q := 332) (Ev.cm _) rfl (Nat.le_of_ble_eq_true rfl) rfl rfl ?_
            refine w_iload (Ev.cm _) rfl rfl ?_
            refine w_iload_n (Ev.cm _) rfl rfl ?_
            obtain ⟨b1, q⟩ := ois q
            refine w_iast (Ev.cm _) rfl (Nat.le_of_ble_eq_true rfl) rfl (show vp_in ((77 : Int32) + ((3 : Int32) * (I 332 6))) 1541 from vpI 1541 (by decide) b1.1 b1.2) ?_
            refine w_aload_n (Ev.cm _) rfl rfl ?_
            refine w_getR (q := 332) (Ev.cm _) rfl (Nat.le_of_ble_eq_true rfl) rfl rfl ?_
            refine w_iload (Ev.cm _) rfl rfl ?_
            refine w_iconst (Ev.cm _) rfl ?_
            refine w_iadd (Ev.cm _) rfl ?_
            refine w_iload_n (Ev.cm _) rfl rfl ?_
            obtain ⟨b2, q⟩ := ois q
            refine w_iast (Ev.cm _) rfl (Nat.le_of_ble_eq_true rfl) rfl (show vp_in (((77 : Int32) + ((3 : Int32) * (I 332 6))) + 1) 1541 from vpI 1541 (by decide) b2.1 b2.2) ?_
            refine w_aload_n (Ev.cm _) rfl rfl ?_
            refine w_getR (q := 332) (Ev.cm _) rfl (Nat.le_of_ble_eq_true rfl) rfl rfl ?_
            refine w_iload (Ev.cm _) rfl rfl ?_
            refine w_iconst (Ev.cm _) rfl ?_
            refine w_iadd (Ev.cm _) rfl ?_
            refine w_iload_n (Ev.cm _) rfl rfl ?_
            obtain ⟨b3, q⟩ := ois q
            refine w_iast (Ev.cm _) rfl (Nat.le_of_ble_eq_true rfl) rfl (show vp_in (((77 : Int32) + ((3 : Int32) * (I 332 6))) + 2) 1541 from vpI 1541 (by decide) b3.1 b3.2) ?_
            refine w_aload_n (Ev.cm _) rfl rfl ?_
            refine w_getR (q := 332) (Ev.cm _) rfl (Nat.le_of_ble_eq_true rfl) rfl rfl ?_
            refine w_bipush (Ev.cm _) rfl ?_
            refine w_dup2 (Ev.cm _) rfl rfl rfl ?_
            refine w_iald (Ev.cm _) rfl (Nat.le_of_ble_eq_true rfl) rfl (show vp_in 6 1541 from vpI 1541 (by decide) (by decide) (by decide)) ?_
            refine w_iconst (Ev.cm _) rfl ?_
            refine w_iadd (Ev.cm _) rfl ?_
            refine w_iast (Ev.cm _) rfl (Nat.le_of_ble_eq_true rfl) rfl (show vp_in 6 1541 from vpI 1541 (by decide) (by decide) (by decide)) ?_
            refine w_aload_n (Ev.cm _) rfl rfl ?_
            refine w_getR (q := 332) (Ev.cm _) rfl (Nat.le_of_ble_eq_true rfl) rfl rfl ?_
            refine w_bipush (Ev.cm _) rfl ?_
            refine w_iald (Ev.cm _) rfl (Nat.le_of_ble_eq_true rfl) rfl (show vp_in 6 1541 from vpI 1541 (by decide) (by decide) (by decide)) ?_
            refine w_ireturn (Ev.cm _) rfl trivial rf0 ?_
            cases q
            exact g
          · have c5 : I 332 6 = 8 := c5
            rw [if_pos c5] at q
            refine w_bipush (Ev.cm _) rfl ?_
            refine w_ireturn (Ev.cm _) rfl trivial rf0 ?_
            cases q
            exact g
  · have c1 : p0 = (-1) := c1
    rw [if_pos c1] at q
    refine w_aload_n (Ev.cm _) rfl rfl ?_
    refine w_getR (q := 332) (Ev.cm _) rfl (Nat.le_of_ble_eq_true rfl) rfl rfl ?_
    refine w_bipush (Ev.cm _) rfl ?_
    refine w_iconst (Ev.cm _) rfl ?_
    refine w_iast (Ev.cm _) rfl (Nat.le_of_ble_eq_true rfl) rfl (show vp_in 6 1541 from vpI 1541 (by decide) (by decide) (by decide)) ?_
    refine w_iconst (Ev.cm _) rfl ?_
    refine w_ireturn (Ev.cm _) rfl trivial rf0 ?_
    cases q
    exact g
def LO_M_whose_20 (fu : Nat) (k_4 : Int32 → Int32 → (Nat → Nat → Int32) → (Nat → Nat → Int64) → Option (Int32 × (Nat → Nat → Int32) × (Nat → Nat → Int64))) : Nat → Int32 → Int32 → Int32 → Int32 → (Nat → Nat → Int32) → (Nat → Nat → Int64) → Option (Int32 × (Nat → Nat → Int32) × (Nat → Nat → Int64))
  | 0, _, _, _, _, _, _ => none
  | n + 1, x1, x2, x3, x4, I, L => if (77 : Int32) + ((3 : Int32) * (I 332 6)) ≤ x4 then (if x3 = 0 then (k_4 (x1 ||| 0) (x2 + 1) I L) else (k_4 (x1 ||| ((1 : Int32) <<< (x2 &&& 31))) (x2 + 1) I L)) else (if x3 = 0 then (LO_M_whose_20 fu k_4 n x1 x2 0 (x4 + 3) I L) else (if 0 ≤ x4 ∧ x4 < 1541 then (if 0 ≤ x4 + 1 ∧ x4 + 1 < 1541 then ((FO_M_ticksOf fu x2 (I 332 x4.toNatClampNeg) (I 332 ((x4 + 1).toNatClampNeg)) 1 I L).bind (fun u3 => let r3 := u3.1; let I3 := u3.2.1; let L3 := u3.2.2; if 0 ≤ x4 + 2 ∧ x4 + 2 < 1541 then (if r3 = I3 332 ((x4 + 2).toNatClampNeg) then (LO_M_whose_20 fu k_4 n x1 x2 1 (x4 + 3) I3 L3) else (LO_M_whose_20 fu k_4 n x1 x2 0 (x4 + 3) I3 L3)) else none)) else none) else none))
set_option maxHeartbeats 20000000 in
set_option maxRecDepth 20000 in
theorem lo_M_whose_20 {d fu n0 s0 : Nat} {X : Nat × (Nat → Int32)} {Q : PQ} {k_4 : Int32 → Int32 → (Nat → Nat → Int32) → (Nat → Nat → Int64) → Option (Int32 × (Nat → Nat → Int32) × (Nat → Nat → Int64))} {res : Int32 × (Nat → Nat → Int32) × (Nat → Nat → Int64)} (g : Q (some (.int res.1)) (HS res.2.1 res.2.2 X)) (hk_4 : ∀ (x1 : Int32) (x2 : Int32) (I : Nat → Nat → Int32) (L : Nat → Nat → Int64), k_4 x1 x2 I L = some res → Wp (Ev (d + 7)) cd_M_whose (0, 0) (some .int) n0 s0 Q 4 [(0, .ref 331), (1, .int x1), (2, .int x2)] [] (HS I L X)) : ∀ (n : Nat) (x1 : Int32) (x2 : Int32) (x3 : Int32) (x4 : Int32) (I : Nat → Nat → Int32) (L : Nat → Nat → Int64), LO_M_whose_20 fu k_4 n x1 x2 x3 x4 I L = some res → Wp (Ev (d + 7)) cd_M_whose (0, 0) (some .int) n0 s0 Q 20 [(0, .ref 331), (1, .int x1), (2, .int x2), (3, .int x3), (4, .int x4)] [] (HS I L X) := by
  intro n
  induction n with
  | zero => intro _ _ _ _ _ _ q; cases q
  | succ n ih =>
    intro x1 x2 x3 x4 I L q
    unfold LO_M_whose_20 at q
    refine w_iload (Ev.cm _) rfl rfl ?_
    refine w_bipush (Ev.cm _) rfl ?_
    refine w_iconst (Ev.cm _) rfl ?_
    refine w_aload_n (Ev.cm _) rfl rfl ?_
    refine w_getR (q := 332) (Ev.cm _) rfl (Nat.le_of_ble_eq_true rfl) rfl rfl ?_
    refine w_bipush (Ev.cm _) rfl ?_
    refine w_iald (Ev.cm _) rfl (Nat.le_of_ble_eq_true rfl) rfl (show vp_in 6 1541 from vpI 1541 (by decide) (by decide) (by decide)) ?_
    refine w_imul (Ev.cm _) rfl ?_
    refine w_iadd (Ev.cm _) rfl ?_
    refine w_icmp_ge (Ev.cm _) rfl (fun c1 => ?_) (fun c1 => ?_)
    · have c1 : (77 : Int32) + ((3 : Int32) * (I 332 6)) ≤ x4 := c1
      rw [if_pos c1] at q
      refine w_iload_n (Ev.cm _) rfl rfl ?_
      refine w_iload_n (Ev.cm _) rfl rfl ?_
      refine w_if_eq (Ev.cm _) rfl (fun c2 => ?_) (fun c2 => ?_)
      · have c2 : x3 = 0 := c2
        rw [if_pos c2] at q
        refine w_iconst (Ev.cm _) rfl ?_
        refine w_ior (Ev.cm _) rfl ?_
        refine w_istore_n (ls2 := [(0, .ref 331), (1, .int (x1 ||| 0)), (2, .int x2), (3, .int x3), (4, .int x4)]) (Ev.cm _) rfl rfl ?_
        refine w_iinc (ls2 := [(0, .ref 331), (1, .int (x1 ||| 0)), (2, .int (x2 + 1)), (3, .int x3), (4, .int x4)]) (Ev.cm _) rfl rfl rfl ?_
        refine w_goto (Ev.cm _) rfl ?_
        show Wp _ _ _ _ _ _ _ 4 [(0, .ref 331), (1, .int (x1 ||| 0)), (2, .int (x2 + 1)), (3, .int x3), (4, .int x4)] [] (HS I L X)
        refine Wp.sub [0, 1, 2] (ls2 := [(0, .ref 331), (1, .int (x1 ||| 0)), (2, .int (x2 + 1))]) rfl ?_
        exact hk_4 _ _ _ _ q
      · have c2 : ¬ (x3 = 0) := c2
        rw [if_neg c2] at q
        refine w_iconst (Ev.cm _) rfl ?_
        refine w_iload_n (Ev.cm _) rfl rfl ?_
        refine w_ishl (Ev.cm _) rfl ?_
        refine w_goto (Ev.cm _) rfl ?_
        refine w_ior (Ev.cm _) rfl ?_
        refine w_istore_n (ls2 := [(0, .ref 331), (1, .int (x1 ||| ((1 : Int32) <<< (x2 &&& 31)))), (2, .int x2), (3, .int x3), (4, .int x4)]) (Ev.cm _) rfl rfl ?_
        refine w_iinc (ls2 := [(0, .ref 331), (1, .int (x1 ||| ((1 : Int32) <<< (x2 &&& 31)))), (2, .int (x2 + 1)), (3, .int x3), (4, .int x4)]) (Ev.cm _) rfl rfl rfl ?_
        refine w_goto (Ev.cm _) rfl ?_
        show Wp _ _ _ _ _ _ _ 4 [(0, .ref 331), (1, .int (x1 ||| ((1 : Int32) <<< (x2 &&& 31)))), (2, .int (x2 + 1)), (3, .int x3), (4, .int x4)] [] (HS I L X)
        refine Wp.sub [0, 1, 2] (ls2 := [(0, .ref 331), (1, .int (x1 ||| ((1 : Int32) <<< (x2 &&& 31)))), (2, .int (x2 + 1))]) rfl ?_
        exact hk_4 _ _ _ _ q
    · have c1 : ¬ ((77 : Int32) + ((3 : Int32) * (I 332 6)) ≤ x4) := c1
      rw [if_neg c1] at q
      refine w_iload_n (Ev.cm _) rfl rfl ?_
      refine w_if_eq (Ev.cm _) rfl (fun c3 => ?_) (fun c3 => ?_)
      · have c3 : x3 = 0 := c3
        rw [if_pos c3] at q
        refine w_iconst (Ev.cm _) rfl ?_
        refine w_istore_n (ls2 := [(0, .ref 331), (1, .int x1), (2, .int x2), (3, .int 0), (4, .int x4)]) (Ev.cm _) rfl rfl ?_
        refine w_iinc (ls2 := [(0, .ref 331), (1, .int x1), (2, .int x2), (3, .int 0), (4, .int (x4 + 3))]) (Ev.cm _) rfl rfl rfl ?_
        refine w_goto (Ev.cm _) rfl ?_
        show Wp _ _ _ _ _ _ _ 20 [(0, .ref 331), (1, .int x1), (2, .int x2), (3, .int 0), (4, .int (x4 + 3))] [] (HS I L X)
        refine Wp.sub [0, 1, 2, 3, 4] (ls2 := [(0, .ref 331), (1, .int x1), (2, .int x2), (3, .int 0), (4, .int (x4 + 3))]) rfl ?_
        exact ih _ _ _ _ _ _ q
      · have c3 : ¬ (x3 = 0) := c3
        rw [if_neg c3] at q
        refine w_aload_n (Ev.cm _) rfl rfl ?_
        refine w_iload_n (Ev.cm _) rfl rfl ?_
        refine w_aload_n (Ev.cm _) rfl rfl ?_
        refine w_getR (q := 332) (Ev.cm _) rfl (Nat.le_of_ble_eq_true rfl) rfl rfl ?_
        refine w_iload (Ev.cm _) rfl rfl ?_
        obtain ⟨b1, q⟩ := ois q
        refine w_iald (Ev.cm _) rfl (Nat.le_of_ble_eq_true rfl) rfl (show vp_in x4 1541 from vpI 1541 (by decide) b1.1 b1.2) ?_
        refine w_aload_n (Ev.cm _) rfl rfl ?_
        refine w_getR (q := 332) (Ev.cm _) rfl (Nat.le_of_ble_eq_true rfl) rfl rfl ?_
        refine w_iload (Ev.cm _) rfl rfl ?_
        refine w_iconst (Ev.cm _) rfl ?_
        refine w_iadd (Ev.cm _) rfl ?_
        obtain ⟨b2, q⟩ := ois q
        refine w_iald (Ev.cm _) rfl (Nat.le_of_ble_eq_true rfl) rfl (show vp_in (x4 + 1) 1541 from vpI 1541 (by decide) b2.1 b2.2) ?_
        refine w_iconst (Ev.cm _) rfl ?_
        obtain ⟨⟨r3, I3, L3⟩, e3, q⟩ := obs q
        dsimp only at q
        refine w_cvirt (o := 331) (as := [.int x2, .int (I 332 x4.toNatClampNeg), .int (I 332 ((x4 + 1).toNatClampNeg)), .int 1]) (st := []) (Ev.cm _) rfl rfl rfl (Nat.le_of_ble_eq_true rfl) (Nat.le_of_ble_eq_true rfl) rfl (Nat.le_of_ble_eq_true rfl) (eo_M_ticksOf (g := ?_) e3)
        show Wp _ _ _ _ _ _ _ 63 [(0, .ref 331), (1, .int x1), (2, .int x2), (3, .int x3), (4, .int x4)] [.int r3] (HS I3 L3 X)
        refine w_aload_n (Ev.cm _) rfl rfl ?_
        refine w_getR (q := 332) (Ev.cm _) rfl (Nat.le_of_ble_eq_true rfl) rfl rfl ?_
        refine w_iload (Ev.cm _) rfl rfl ?_
        refine w_iconst (Ev.cm _) rfl ?_
        refine w_iadd (Ev.cm _) rfl ?_
        obtain ⟨b4, q⟩ := ois q
        refine w_iald (Ev.cm _) rfl (Nat.le_of_ble_eq_true rfl) rfl (show vp_in (x4 + 2) 1541 from vpI 1541 (by decide) b4.1 b4.2) ?_
        refine w_icmp_ne (Ev.cm _) rfl (fun c4 => ?_) (fun c4 => ?_)
        · have c4 : ¬ (r3 = I3 332 ((x4 + 2).toNatClampNeg)) := c4
          rw [if_neg c4] at q
          refine w_iconst (Ev.cm _) rfl ?_
          refine w_istore_n (ls2 := [(0, .ref 331), (1, .int x1), (2, .int x2), (3, .int 0), (4, .int x4)]) (Ev.cm _) rfl rfl ?_
          refine w_iinc (ls2 := [(0, .ref 331), (1, .int x1), (2, .int x2), (3, .int 0), (4, .int (x4 + 3))]) (Ev.cm _) rfl rfl rfl ?_
          refine w_goto (Ev.cm _) rfl ?_
          show Wp _ _ _ _ _ _ _ 20 [(0, .ref 331), (1, .int x1), (2, .int x2), (3, .int 0), (4, .int (x4 + 3))] [] (HS I3 L3 X)
          refine Wp.sub [0, 1, 2, 3, 4] (ls2 := [(0, .ref 331), (1, .int x1), (2, .int x2), (3, .int 0), (4, .int (x4 + 3))]) rfl ?_
          exact ih _ _ _ _ _ _ q
        · have c4 : r3 = I3 332 ((x4 + 2).toNatClampNeg) := c4
          rw [if_pos c4] at q
          refine w_iconst (Ev.cm _) rfl ?_
          refine w_goto (Ev.cm _) rfl ?_
          refine w_istore_n (ls2 := [(0, .ref 331), (1, .int x1), (2, .int x2), (3, .int 1), (4, .int x4)]) (Ev.cm _) rfl rfl ?_
          refine w_iinc (ls2 := [(0, .ref 331), (1, .int x1), (2, .int x2), (3, .int 1), (4, .int (x4 + 3))]) (Ev.cm _) rfl rfl rfl ?_
          refine w_goto (Ev.cm _) rfl ?_
          show Wp _ _ _ _ _ _ _ 20 [(0, .ref 331), (1, .int x1), (2, .int x2), (3, .int 1), (4, .int (x4 + 3))] [] (HS I3 L3 X)
          refine Wp.sub [0, 1, 2, 3, 4] (ls2 := [(0, .ref 331), (1, .int x1), (2, .int x2), (3, .int 1), (4, .int (x4 + 3))]) rfl ?_
          exact ih _ _ _ _ _ _ q
def LO_M_whose_4 (fu : Nat) : Nat → Int32 → Int32 → (Nat → Nat → Int32) → (Nat → Nat → Int64) → Option (Int32 × (Nat → Nat → Int32) × (Nat → Nat → Int64))
  | 0, _, _, _, _ => none
  | n + 1, x1, x2, I, L => if I 332 1 ≤ x2 then (some (x1, I, L)) else (LO_M_whose_20 fu (fun x1 x2 I L => LO_M_whose_4 fu n x1 x2 I L) fu x1 x2 1 77 I L)
set_option maxHeartbeats 20000000 in
set_option maxRecDepth 20000 in
theorem lo_M_whose_4 {d fu n0 s0 : Nat} {X : Nat × (Nat → Int32)} {Q : PQ} {res : Int32 × (Nat → Nat → Int32) × (Nat → Nat → Int64)} (g : Q (some (.int res.1)) (HS res.2.1 res.2.2 X)) : ∀ (n : Nat) (x1 : Int32) (x2 : Int32) (I : Nat → Nat → Int32) (L : Nat → Nat → Int64), LO_M_whose_4 fu n x1 x2 I L = some res → Wp (Ev (d + 7)) cd_M_whose (0, 0) (some .int) n0 s0 Q 4 [(0, .ref 331), (1, .int x1), (2, .int x2)] [] (HS I L X) := by
  intro n
  induction n with
  | zero => intro _ _ _ _ q; cases q
  | succ n ih =>
    intro x1 x2 I L q
    unfold LO_M_whose_4 at q
    refine w_iload_n (Ev.cm _) rfl rfl ?_
    refine w_aload_n (Ev.cm _) rfl rfl ?_
    refine w_getR (q := 332) (Ev.cm _) rfl (Nat.le_of_ble_eq_true rfl) rfl rfl ?_
    refine w_iconst (Ev.cm _) rfl ?_
    refine w_iald (Ev.cm _) rfl (Nat.le_of_ble_eq_true rfl) rfl (show vp_in 1 1541 from vpI 1541 (by decide) (by decide) (by decide)) ?_
    refine w_icmp_ge (Ev.cm _) rfl (fun c1 => ?_) (fun c1 => ?_)
    · have c1 : I 332 1 ≤ x2 := c1
      rw [if_pos c1] at q
      refine w_iload_n (Ev.cm _) rfl rfl ?_
      refine w_ireturn (Ev.cm _) rfl trivial rf0 ?_
      cases q
      exact g
    · have c1 : ¬ (I 332 1 ≤ x2) := c1
      rw [if_neg c1] at q
      refine w_iconst (Ev.cm _) rfl ?_
      refine w_istore_n (ls2 := [(0, .ref 331), (1, .int x1), (2, .int x2), (3, .int 1)]) (Ev.cm _) rfl rfl ?_
      refine w_bipush (Ev.cm _) rfl ?_
      refine w_istore (ls2 := [(0, .ref 331), (1, .int x1), (2, .int x2), (3, .int 1), (4, .int 77)]) (Ev.cm _) rfl rfl ?_
      show Wp _ _ _ _ _ _ _ 20 [(0, .ref 331), (1, .int x1), (2, .int x2), (3, .int 1), (4, .int 77)] [] (HS I L X)
      refine Wp.sub [0, 1, 2, 3, 4] (ls2 := [(0, .ref 331), (1, .int x1), (2, .int x2), (3, .int 1), (4, .int 77)]) rfl ?_
      exact lo_M_whose_20 g (fun x1 x2 I L q => ih x1 x2 I L q) fu _ _ _ _ _ _ q
def FO_M_whose (fu : Nat) (I : Nat → Nat → Int32) (L : Nat → Nat → Int64) : Option (Int32 × (Nat → Nat → Int32) × (Nat → Nat → Int64)) := LO_M_whose_4 fu fu 0 0 I L
set_option maxHeartbeats 20000000 in
set_option maxRecDepth 20000 in
theorem eo_M_whose {d fu : Nat} {I : Nat → Nat → Int32} {L : Nat → Nat → Int64} {X : Nat × (Nat → Int32)} {Q : PQ} {res : Int32 × (Nat → Nat → Int32) × (Nat → Nat → Int64)} (g : Q (some (.int res.1)) (HS res.2.1 res.2.2 X)) (q : FO_M_whose fu  I L = some res) : Ev (d + 8) m_M_whose [.ref 331] (HS I L X) Q := by
  unfold FO_M_whose at q
  refine ev_start (d := d + 7) rfl rfl rfl (Nat.le_of_ble_eq_true rfl) ?_
  show Wp (Ev (d + 7)) cd_M_whose (0, 0) (some .int) _ _ Q 0 [(0, .ref 331)] [] (HS I L X)
  refine w_iconst (Ev.cm _) rfl ?_
  refine w_istore_n (ls2 := [(0, .ref 331), (1, .int 0)]) (Ev.cm _) rfl rfl ?_
  refine w_iconst (Ev.cm _) rfl ?_
  refine w_istore_n (ls2 := [(0, .ref 331), (1, .int 0), (2, .int 0)]) (Ev.cm _) rfl rfl ?_
  show Wp _ _ _ _ _ _ _ 4 [(0, .ref 331), (1, .int 0), (2, .int 0)] [] (HS I L X)
  refine Wp.sub [0, 1, 2] (ls2 := [(0, .ref 331), (1, .int 0), (2, .int 0)]) rfl ?_
  exact lo_M_whose_4 g fu _ _ _ _ q
def FO_M_image (fu : Nat) (I : Nat → Nat → Int32) (L : Nat → Nat → Int64) : Option (Int32 × (Nat → Nat → Int32) × (Nat → Nat → Int64)) := (FO_M_copy_332 fu  I L).bind (fun u1 => let r1 := u1.1; let I1 := u1.2.1; let L1 := u1.2.2; some (I1 332 7, I1, L1))
set_option maxHeartbeats 20000000 in
set_option maxRecDepth 20000 in
theorem eo_M_image {d fu : Nat} {I : Nat → Nat → Int32} {L : Nat → Nat → Int64} {X : Nat × (Nat → Int32)} {Q : PQ} {res : Int32 × (Nat → Nat → Int32) × (Nat → Nat → Int64)} (g : Q (some (.int res.1)) (HS res.2.1 res.2.2 X)) (q : FO_M_image fu  I L = some res) : Ev (d + 2) m_M_image [.ref 331] (HS I L X) Q := by
  unfold FO_M_image at q
  refine ev_start (d := d + 1) rfl rfl rfl (Nat.le_of_ble_eq_true rfl) ?_
  show Wp (Ev (d + 1)) cd_M_image (0, 0) (some .int) _ _ Q 0 [(0, .ref 331)] [] (HS I L X)
  refine w_aload_n (Ev.cm _) rfl rfl ?_
  refine w_getR (q := 332) (Ev.cm _) rfl (Nat.le_of_ble_eq_true rfl) rfl rfl ?_
  refine w_aload_n (Ev.cm _) rfl rfl ?_
  refine w_getR (q := 333) (Ev.cm _) rfl (Nat.le_of_ble_eq_true rfl) rfl rfl ?_
  obtain ⟨⟨r1, I1, L1⟩, e1, q⟩ := obs q
  dsimp only at q
  refine w_cstat (as := [.ref 332, .ref 333]) (st := []) (Ev.cm _) rfl rfl rfl (Nat.le_of_ble_eq_true rfl) (Nat.le_of_ble_eq_true rfl) (eo_M_copy_332 (g := ?_) e1)
  show Wp _ _ _ _ _ _ _ 11 [(0, .ref 331)] [] (HS I1 L1 X)
  refine w_aload_n (Ev.cm _) rfl rfl ?_
  refine w_getR (q := 332) (Ev.cm _) rfl (Nat.le_of_ble_eq_true rfl) rfl rfl ?_
  refine w_bipush (Ev.cm _) rfl ?_
  refine w_iald (Ev.cm _) rfl (Nat.le_of_ble_eq_true rfl) rfl (show vp_in 7 1541 from vpI 1541 (by decide) (by decide) (by decide)) ?_
  refine w_ireturn (Ev.cm _) rfl trivial rf0 ?_
  cases q
  exact g
def FO_M_back (fu : Nat) (I : Nat → Nat → Int32) (L : Nat → Nat → Int64) : Option (Int32 × (Nat → Nat → Int32) × (Nat → Nat → Int64)) := (FO_M_copy_333 fu  I L).bind (fun u1 => let r1 := u1.1; let I1 := u1.2.1; let L1 := u1.2.2; some (I1 332 7, I1, L1))
set_option maxHeartbeats 20000000 in
set_option maxRecDepth 20000 in
theorem eo_M_back {d fu : Nat} {I : Nat → Nat → Int32} {L : Nat → Nat → Int64} {X : Nat × (Nat → Int32)} {Q : PQ} {res : Int32 × (Nat → Nat → Int32) × (Nat → Nat → Int64)} (g : Q (some (.int res.1)) (HS res.2.1 res.2.2 X)) (q : FO_M_back fu  I L = some res) : Ev (d + 2) m_M_back [.ref 331] (HS I L X) Q := by
  unfold FO_M_back at q
  refine ev_start (d := d + 1) rfl rfl rfl (Nat.le_of_ble_eq_true rfl) ?_
  show Wp (Ev (d + 1)) cd_M_back (0, 0) (some .int) _ _ Q 0 [(0, .ref 331)] [] (HS I L X)
  refine w_aload_n (Ev.cm _) rfl rfl ?_
  refine w_getR (q := 333) (Ev.cm _) rfl (Nat.le_of_ble_eq_true rfl) rfl rfl ?_
  refine w_aload_n (Ev.cm _) rfl rfl ?_
  refine w_getR (q := 332) (Ev.cm _) rfl (Nat.le_of_ble_eq_true rfl) rfl rfl ?_
  obtain ⟨⟨r1, I1, L1⟩, e1, q⟩ := obs q
  dsimp only at q
  refine w_cstat (as := [.ref 333, .ref 332]) (st := []) (Ev.cm _) rfl rfl rfl (Nat.le_of_ble_eq_true rfl) (Nat.le_of_ble_eq_true rfl) (eo_M_copy_333 (g := ?_) e1)
  show Wp _ _ _ _ _ _ _ 11 [(0, .ref 331)] [] (HS I1 L1 X)
  refine w_aload_n (Ev.cm _) rfl rfl ?_
  refine w_getR (q := 332) (Ev.cm _) rfl (Nat.le_of_ble_eq_true rfl) rfl rfl ?_
  refine w_bipush (Ev.cm _) rfl ?_
  refine w_iald (Ev.cm _) rfl (Nat.le_of_ble_eq_true rfl) rfl (show vp_in 7 1541 from vpI 1541 (by decide) (by decide) (by decide)) ?_
  refine w_ireturn (Ev.cm _) rfl trivial rf0 ?_
  cases q
  exact g
def FO_M_about (fu : Nat) (p0 : Int32) (I : Nat → Nat → Int32) (L : Nat → Nat → Int64) : Option (Int32 × (Nat → Nat → Int32) × (Nat → Nat → Int64)) := if (0 : Int32) ≤ p0 ∧ p0 ≤ (6 : Int32) then (if 0 ≤ p0 ∧ p0 < 1541 then (some (I 332 p0.toNatClampNeg, I, L)) else none) else (if p0 = 7 then (some (I 331 4, I, L)) else (some ((-2), I, L)))
set_option maxHeartbeats 20000000 in
set_option maxRecDepth 20000 in
theorem eo_M_about {d fu : Nat} {p0 : Int32} {I : Nat → Nat → Int32} {L : Nat → Nat → Int64} {X : Nat × (Nat → Int32)} {Q : PQ} {res : Int32 × (Nat → Nat → Int32) × (Nat → Nat → Int64)} (g : Q (some (.int res.1)) (HS res.2.1 res.2.2 X)) (q : FO_M_about fu p0 I L = some res) : Ev (d + 2) m_M_about [.ref 331, .int p0] (HS I L X) Q := by
  unfold FO_M_about at q
  refine ev_start (d := d + 1) rfl rfl rfl (Nat.le_of_ble_eq_true rfl) ?_
  show Wp (Ev (d + 1)) cd_M_about (0, 0) (some .int) _ _ Q 0 [(0, .ref 331), (1, .int p0)] [] (HS I L X)
  refine w_iload_n (Ev.cm _) rfl rfl ?_
  refine w_iconst (Ev.cm _) rfl ?_
  refine w_bipush (Ev.cm _) rfl ?_
  refine w_cstat (as := [.int p0, .int 0, .int 6]) (st := []) (Ev.cm _) rfl rfl rfl (Nat.le_of_ble_eq_true rfl) (Nat.le_of_ble_eq_true rfl) (m_isIn ?_)
  show Wp _ _ _ _ _ _ _ 7 [(0, .ref 331), (1, .int p0)] [.int (bI ((0 : Int32) ≤ p0 ∧ p0 ≤ (6 : Int32)))] (HS I L X)
  refine w_if_eq (Ev.cm _) rfl (fun c1 => ?_) (fun c1 => ?_)
  · have c1 : ¬ ((0 : Int32) ≤ p0 ∧ p0 ≤ (6 : Int32)) := bI_0.mp c1
    rw [if_neg c1] at q
    refine w_iload_n (Ev.cm _) rfl rfl ?_
    refine w_bipush (Ev.cm _) rfl ?_
    refine w_icmp_ne (Ev.cm _) rfl (fun c2 => ?_) (fun c2 => ?_)
    · have c2 : ¬ (p0 = 7) := c2
      rw [if_neg c2] at q
      refine w_bipush (Ev.cm _) rfl ?_
      refine w_ireturn (Ev.cm _) rfl trivial rf0 ?_
      cases q
      exact g
    · have c2 : p0 = 7 := c2
      rw [if_pos c2] at q
      refine w_aload_n (Ev.cm _) rfl rfl ?_
      refine w_getI (Ev.cm _) rfl (Nat.le_of_ble_eq_true rfl) rfl ?_
      refine w_goto (Ev.cm _) rfl ?_
      refine w_ireturn (Ev.cm _) rfl trivial rf0 ?_
      cases q
      exact g
  · have c1 : (0 : Int32) ≤ p0 ∧ p0 ≤ (6 : Int32) := bI_1.mp c1
    rw [if_pos c1] at q
    refine w_aload_n (Ev.cm _) rfl rfl ?_
    refine w_getR (q := 332) (Ev.cm _) rfl (Nat.le_of_ble_eq_true rfl) rfl rfl ?_
    refine w_iload_n (Ev.cm _) rfl rfl ?_
    obtain ⟨b1, q⟩ := ois q
    refine w_iald (Ev.cm _) rfl (Nat.le_of_ble_eq_true rfl) rfl (show vp_in p0 1541 from vpI 1541 (by decide) b1.1 b1.2) ?_
    refine w_goto (Ev.cm _) rfl ?_
    refine w_ireturn (Ev.cm _) rfl trivial rf0 ?_
    cases q
    exact g
def LO_C_messageOf_9 (fu : Nat) : Nat → Int32 → Int32 → Int32 → (Nat → Nat → Int32) → (Nat → Nat → Int64) → Option (Int32 × (Nat → Nat → Int32) × (Nat → Nat → Int64))
  | 0, _, _, _, _, _ => none
  | n + 1, x0, x1, x2, I, L => if x2 < 0 then (some (x1, I, L)) else (LO_C_messageOf_9 fu n x0 (((x1 * 10) + 1) + ((x0 >>> (x2 &&& 31)) &&& 1)) (x2 + (-1)) I L)
set_option maxHeartbeats 20000000 in
set_option maxRecDepth 20000 in
theorem lo_C_messageOf_9 {d fu n0 s0 : Nat} {X : Nat × (Nat → Int32)} {Q : PQ} {res : Int32 × (Nat → Nat → Int32) × (Nat → Nat → Int64)} (g : Q (some (.int res.1)) (HS res.2.1 res.2.2 X)) : ∀ (n : Nat) (x0 : Int32) (x1 : Int32) (x2 : Int32) (I : Nat → Nat → Int32) (L : Nat → Nat → Int64), LO_C_messageOf_9 fu n x0 x1 x2 I L = some res → Wp (Ev (d + 1)) cd_C_messageOf (0, 0) (some .int) n0 s0 Q 9 [(0, .int x0), (1, .int x1), (2, .int x2)] [] (HS I L X) := by
  intro n
  induction n with
  | zero => intro _ _ _ _ _ q; cases q
  | succ n ih =>
    intro x0 x1 x2 I L q
    unfold LO_C_messageOf_9 at q
    refine w_iload_n (Ev.cm _) rfl rfl ?_
    refine w_if_lt (Ev.cm _) rfl (fun c1 => ?_) (fun c1 => ?_)
    · have c1 : x2 < 0 := c1
      rw [if_pos c1] at q
      refine w_iload_n (Ev.cm _) rfl rfl ?_
      refine w_ireturn (Ev.cm _) rfl trivial rf0 ?_
      cases q
      exact g
    · have c1 : ¬ (x2 < 0) := c1
      rw [if_neg c1] at q
      refine w_iload_n (Ev.cm _) rfl rfl ?_
      refine w_bipush (Ev.cm _) rfl ?_
      refine w_imul (Ev.cm _) rfl ?_
      refine w_iconst (Ev.cm _) rfl ?_
      refine w_iadd (Ev.cm _) rfl ?_
      refine w_iload_n (Ev.cm _) rfl rfl ?_
      refine w_iload_n (Ev.cm _) rfl rfl ?_
      refine w_ishr (Ev.cm _) rfl ?_
      refine w_iconst (Ev.cm _) rfl ?_
      refine w_iand (Ev.cm _) rfl ?_
      refine w_iadd (Ev.cm _) rfl ?_
      refine w_istore_n (ls2 := [(0, .int x0), (1, .int (((x1 * 10) + 1) + ((x0 >>> (x2 &&& 31)) &&& 1))), (2, .int x2)]) (Ev.cm _) rfl rfl ?_
      refine w_iinc (ls2 := [(0, .int x0), (1, .int (((x1 * 10) + 1) + ((x0 >>> (x2 &&& 31)) &&& 1))), (2, .int (x2 + (-1)))]) (Ev.cm _) rfl rfl rfl ?_
      refine w_goto (Ev.cm _) rfl ?_
      show Wp _ _ _ _ _ _ _ 9 [(0, .int x0), (1, .int (((x1 * 10) + 1) + ((x0 >>> (x2 &&& 31)) &&& 1))), (2, .int (x2 + (-1)))] [] (HS I L X)
      refine Wp.sub [0, 1, 2] (ls2 := [(0, .int x0), (1, .int (((x1 * 10) + 1) + ((x0 >>> (x2 &&& 31)) &&& 1))), (2, .int (x2 + (-1)))]) rfl ?_
      exact ih _ _ _ _ _ q
def FO_C_messageOf (fu : Nat) (p0 : Int32) (I : Nat → Nat → Int32) (L : Nat → Nat → Int64) : Option (Int32 × (Nat → Nat → Int32) × (Nat → Nat → Int64)) := (FO_C_lengthOf fu p0 I L).bind (fun u1 => let r1 := u1.1; let I1 := u1.2.1; let L1 := u1.2.2; LO_C_messageOf_9 fu fu p0 0 (r1 - 1) I1 L1)
set_option maxHeartbeats 20000000 in
set_option maxRecDepth 20000 in
theorem eo_C_messageOf {d fu : Nat} {p0 : Int32} {I : Nat → Nat → Int32} {L : Nat → Nat → Int64} {X : Nat × (Nat → Int32)} {Q : PQ} {res : Int32 × (Nat → Nat → Int32) × (Nat → Nat → Int64)} (g : Q (some (.int res.1)) (HS res.2.1 res.2.2 X)) (q : FO_C_messageOf fu p0 I L = some res) : Ev (d + 2) m_C_messageOf [.int p0] (HS I L X) Q := by
  unfold FO_C_messageOf at q
  refine ev_start (d := d + 1) rfl rfl rfl (Nat.le_of_ble_eq_true rfl) ?_
  show Wp (Ev (d + 1)) cd_C_messageOf (0, 0) (some .int) _ _ Q 0 [(0, .int p0)] [] (HS I L X)
  refine w_iconst (Ev.cm _) rfl ?_
  refine w_istore_n (ls2 := [(0, .int p0), (1, .int 0)]) (Ev.cm _) rfl rfl ?_
  refine w_iload_n (Ev.cm _) rfl rfl ?_
  obtain ⟨⟨r1, I1, L1⟩, e1, q⟩ := obs q
  dsimp only at q
  refine w_cstat (as := [.int p0]) (st := []) (Ev.cm _) rfl rfl rfl (Nat.le_of_ble_eq_true rfl) (Nat.le_of_ble_eq_true rfl) (eo_C_lengthOf (g := ?_) e1)
  show Wp _ _ _ _ _ _ _ 6 [(0, .int p0), (1, .int 0)] [.int r1] (HS I1 L1 X)
  refine w_iconst (Ev.cm _) rfl ?_
  refine w_isub (Ev.cm _) rfl ?_
  refine w_istore_n (ls2 := [(0, .int p0), (1, .int 0), (2, .int (r1 - 1))]) (Ev.cm _) rfl rfl ?_
  show Wp _ _ _ _ _ _ _ 9 [(0, .int p0), (1, .int 0), (2, .int (r1 - 1))] [] (HS I1 L1 X)
  refine Wp.sub [0, 1, 2] (ls2 := [(0, .int p0), (1, .int 0), (2, .int (r1 - 1))]) rfl ?_
  exact lo_C_messageOf_9 g fu _ _ _ _ _ q
def LO_C_goOn_5 (fu : Nat) : Nat → Int32 → Int32 → Int32 → (Nat → Nat → Int32) → (Nat → Nat → Int64) → Option (Int32 × (Nat → Nat → Int32) × (Nat → Nat → Int64))
  | 0, _, _, _, _, _ => none
  | n + 1, x2, x3, x4, I, L => if I 1 13 ≤ x4 then (if x3 = 0 ∨ x3 = 1 then (some (x3, I, L)) else none) else (if 5 ≤ x4 then (if x3 = 0 ∨ x3 = 1 then (some (x3, I, L)) else none) else (if 0 ≤ x4 ∧ x4 < 5 then ((FO_C_lengthOf fu (I 134 x4.toNatClampNeg) I L).bind (fun u4 => let r4 := u4.1; let I4 := u4.2.1; let L4 := u4.2.2; (FO_C_lengthOf fu x2 I4 L4).bind (fun u5 => let r5 := u5.1; let I5 := u5.2.1; let L5 := u5.2.2; (FO_C_behind fu x2 (I 134 x4.toNatClampNeg) I5 L5).bind (fun u6 => let r6 := u6.1; let I6 := u6.2.1; let L6 := u6.2.2; if 0 ≤ x2 ∧ x2 < 64 then ((FO_C_lower fu r6 (I6 326 x2.toNatClampNeg) I6 L6).bind (fun u8 => let r8 := u8.1; let I8 := u8.2.1; let L8 := u8.2.2; (FO_C_behind fu (I 134 x4.toNatClampNeg) x2 I8 L8).bind (fun u9 => let r9 := u9.1; let I9 := u9.2.1; let L9 := u9.2.2; if 0 ≤ x2 ∧ x2 < 64 then ((FO_C_lower fu r9 ((I9 326 x2.toNatClampNeg) + (F_J_max I5 (r4 - r5) 0)) I9 L9).bind (fun u11 => let r11 := u11.1; let I11 := u11.2.1; let L11 := u11.2.2; if x3 = 0 then (if r8 = 0 then (if r11 = 0 then (LO_C_goOn_5 fu n x2 0 (x4 + 1) I11 L11) else (LO_C_goOn_5 fu n x2 1 (x4 + 1) I11 L11)) else (LO_C_goOn_5 fu n x2 1 (x4 + 1) I11 L11)) else (LO_C_goOn_5 fu n x2 1 (x4 + 1) I11 L11))) else none))) else none)))) else none))
set_option maxHeartbeats 20000000 in
set_option maxRecDepth 20000 in
theorem lo_C_goOn_5 {d fu n0 s0 : Nat} {X : Nat × (Nat → Int32)} {Q : PQ} {res : Int32 × (Nat → Nat → Int32) × (Nat → Nat → Int64)} (g : Q (some (.int res.1)) (HS res.2.1 res.2.2 X)) : ∀ (n : Nat) (x2 : Int32) (x3 : Int32) (x4 : Int32) (I : Nat → Nat → Int32) (L : Nat → Nat → Int64), LO_C_goOn_5 fu n x2 x3 x4 I L = some res → Wp (Ev (d + 2)) cd_C_goOn (0, 0) (some .boolean) n0 s0 Q 5 [(0, .ref 325), (1, .ref 1), (2, .int x2), (3, .int x3), (4, .int x4)] [] (HS I L X) := by
  intro n
  induction n with
  | zero => intro _ _ _ _ _ q; cases q
  | succ n ih =>
    intro x2 x3 x4 I L q
    unfold LO_C_goOn_5 at q
    refine w_iload (Ev.cm _) rfl rfl ?_
    refine w_aload_n (Ev.cm _) rfl rfl ?_
    refine w_getI (Ev.cm _) rfl (Nat.le_of_ble_eq_true rfl) rfl ?_
    refine w_icmp_ge (Ev.cm _) rfl (fun c1 => ?_) (fun c1 => ?_)
    · have c1 : I 1 13 ≤ x4 := c1
      rw [if_pos c1] at q
      refine w_iload_n (Ev.cm _) rfl rfl ?_
      obtain ⟨b1, q⟩ := ois q
      refine w_ireturn (Ev.cm _) rfl (show rok (some .boolean) _ from b1) rf0 ?_
      cases q
      exact g
    · have c1 : ¬ (I 1 13 ≤ x4) := c1
      rw [if_neg c1] at q
      refine w_iload (Ev.cm _) rfl rfl ?_
      refine w_iconst (Ev.cm _) rfl ?_
      refine w_icmp_ge (Ev.cm _) rfl (fun c2 => ?_) (fun c2 => ?_)
      · have c2 : 5 ≤ x4 := c2
        rw [if_pos c2] at q
        refine w_iload_n (Ev.cm _) rfl rfl ?_
        obtain ⟨b2, q⟩ := ois q
        refine w_ireturn (Ev.cm _) rfl (show rok (some .boolean) _ from b2) rf0 ?_
        cases q
        exact g
      · have c2 : ¬ (5 ≤ x4) := c2
        rw [if_neg c2] at q
        refine w_aload_n (Ev.cm _) rfl rfl ?_
        refine w_getR (q := 134) (Ev.cm _) rfl (Nat.le_of_ble_eq_true rfl) rfl rfl ?_
        refine w_iload (Ev.cm _) rfl rfl ?_
        obtain ⟨b3, q⟩ := ois q
        refine w_iald (Ev.cm _) rfl (Nat.le_of_ble_eq_true rfl) rfl (show vp_in x4 5 from vpI 5 (by decide) b3.1 b3.2) ?_
        refine w_istore (ls2 := [(0, .ref 325), (1, .ref 1), (2, .int x2), (3, .int x3), (4, .int x4), (5, .int (I 134 x4.toNatClampNeg))]) (Ev.cm _) rfl rfl ?_
        refine w_iload (Ev.cm _) rfl rfl ?_
        obtain ⟨⟨r4, I4, L4⟩, e4, q⟩ := obs q
        dsimp only at q
        refine w_cstat (as := [.int (I 134 x4.toNatClampNeg)]) (st := []) (Ev.cm _) rfl rfl rfl (Nat.le_of_ble_eq_true rfl) (Nat.le_of_ble_eq_true rfl) (eo_C_lengthOf (g := ?_) e4)
        show Wp _ _ _ _ _ _ _ 34 [(0, .ref 325), (1, .ref 1), (2, .int x2), (3, .int x3), (4, .int x4), (5, .int (I 134 x4.toNatClampNeg))] [.int r4] (HS I4 L4 X)
        refine w_iload_n (Ev.cm _) rfl rfl ?_
        obtain ⟨⟨r5, I5, L5⟩, e5, q⟩ := obs q
        dsimp only at q
        refine w_cstat (as := [.int x2]) (st := [.int r4]) (Ev.cm _) rfl rfl rfl (Nat.le_of_ble_eq_true rfl) (Nat.le_of_ble_eq_true rfl) (eo_C_lengthOf (g := ?_) e5)
        show Wp _ _ _ _ _ _ _ 38 [(0, .ref 325), (1, .ref 1), (2, .int x2), (3, .int x3), (4, .int x4), (5, .int (I 134 x4.toNatClampNeg))] [.int r5, .int r4] (HS I5 L5 X)
        refine w_isub (Ev.cm _) rfl ?_
        refine w_iconst (Ev.cm _) rfl ?_
        refine w_cstat (as := [.int (r4 - r5), .int 0]) (st := []) (Ev.cm _) rfl rfl rfl (Nat.le_of_ble_eq_true rfl) (Nat.le_of_ble_eq_true rfl) (e_J_max ?_)
        show Wp _ _ _ _ _ _ _ 43 [(0, .ref 325), (1, .ref 1), (2, .int x2), (3, .int x3), (4, .int x4), (5, .int (I 134 x4.toNatClampNeg))] [.int (F_J_max I5 (r4 - r5) 0)] (HS I5 L5 X)
        refine w_istore (ls2 := [(0, .ref 325), (1, .ref 1), (2, .int x2), (3, .int x3), (4, .int x4), (5, .int (I 134 x4.toNatClampNeg)), (6, .int (F_J_max I5 (r4 - r5) 0))]) (Ev.cm _) rfl rfl ?_
        refine w_aload_n (Ev.cm _) rfl rfl ?_
        refine w_iload_n (Ev.cm _) rfl rfl ?_
        refine w_iload (Ev.cm _) rfl rfl ?_
        obtain ⟨⟨r6, I6, L6⟩, e6, q⟩ := obs q
        dsimp only at q
        refine w_cstat (as := [.int x2, .int (I 134 x4.toNatClampNeg)]) (st := [.ref 325]) (Ev.cm _) rfl rfl rfl (Nat.le_of_ble_eq_true rfl) (Nat.le_of_ble_eq_true rfl) (eo_C_behind (g := ?_) e6)
        show Wp _ _ _ _ _ _ _ 52 [(0, .ref 325), (1, .ref 1), (2, .int x2), (3, .int x3), (4, .int x4), (5, .int (I 134 x4.toNatClampNeg)), (6, .int (F_J_max I5 (r4 - r5) 0))] [.int r6, .ref 325] (HS I6 L6 X)
        refine w_aload_n (Ev.cm _) rfl rfl ?_
        refine w_getR (q := 326) (Ev.cm _) rfl (Nat.le_of_ble_eq_true rfl) rfl rfl ?_
        refine w_iload_n (Ev.cm _) rfl rfl ?_
        obtain ⟨b7, q⟩ := ois q
        refine w_iald (Ev.cm _) rfl (Nat.le_of_ble_eq_true rfl) rfl (show vp_in x2 64 from vpI 64 (by decide) b7.1 b7.2) ?_
        obtain ⟨⟨r8, I8, L8⟩, e8, q⟩ := obs q
        dsimp only at q
        refine w_cvirt (o := 325) (as := [.int r6, .int (I6 326 x2.toNatClampNeg)]) (st := []) (Ev.cm _) rfl rfl rfl (Nat.le_of_ble_eq_true rfl) (Nat.le_of_ble_eq_true rfl) rfl (Nat.le_of_ble_eq_true rfl) (eo_C_lower (g := ?_) e8)
        show Wp _ _ _ _ _ _ _ 61 [(0, .ref 325), (1, .ref 1), (2, .int x2), (3, .int x3), (4, .int x4), (5, .int (I 134 x4.toNatClampNeg)), (6, .int (F_J_max I5 (r4 - r5) 0))] [.int r8] (HS I8 L8 X)
        refine w_istore (ls2 := [(0, .ref 325), (1, .ref 1), (2, .int x2), (3, .int x3), (4, .int x4), (5, .int (I 134 x4.toNatClampNeg)), (6, .int (F_J_max I5 (r4 - r5) 0)), (7, .int r8)]) (Ev.cm _) rfl rfl ?_
        refine w_aload_n (Ev.cm _) rfl rfl ?_
        refine w_iload (Ev.cm _) rfl rfl ?_
        refine w_iload_n (Ev.cm _) rfl rfl ?_
        obtain ⟨⟨r9, I9, L9⟩, e9, q⟩ := obs q
        dsimp only at q
        refine w_cstat (as := [.int (I 134 x4.toNatClampNeg), .int x2]) (st := [.ref 325]) (Ev.cm _) rfl rfl rfl (Nat.le_of_ble_eq_true rfl) (Nat.le_of_ble_eq_true rfl) (eo_C_behind (g := ?_) e9)
        show Wp _ _ _ _ _ _ _ 70 [(0, .ref 325), (1, .ref 1), (2, .int x2), (3, .int x3), (4, .int x4), (5, .int (I 134 x4.toNatClampNeg)), (6, .int (F_J_max I5 (r4 - r5) 0)), (7, .int r8)] [.int r9, .ref 325] (HS I9 L9 X)
        refine w_aload_n (Ev.cm _) rfl rfl ?_
        refine w_getR (q := 326) (Ev.cm _) rfl (Nat.le_of_ble_eq_true rfl) rfl rfl ?_
        refine w_iload_n (Ev.cm _) rfl rfl ?_
        obtain ⟨b10, q⟩ := ois q
        refine w_iald (Ev.cm _) rfl (Nat.le_of_ble_eq_true rfl) rfl (show vp_in x2 64 from vpI 64 (by decide) b10.1 b10.2) ?_
        refine w_iload (Ev.cm _) rfl rfl ?_
        refine w_iadd (Ev.cm _) rfl ?_
        obtain ⟨⟨r11, I11, L11⟩, e11, q⟩ := obs q
        dsimp only at q
        refine w_cvirt (o := 325) (as := [.int r9, .int ((I9 326 x2.toNatClampNeg) + (F_J_max I5 (r4 - r5) 0))]) (st := []) (Ev.cm _) rfl rfl rfl (Nat.le_of_ble_eq_true rfl) (Nat.le_of_ble_eq_true rfl) rfl (Nat.le_of_ble_eq_true rfl) (eo_C_lower (g := ?_) e11)
        show Wp _ _ _ _ _ _ _ 82 [(0, .ref 325), (1, .ref 1), (2, .int x2), (3, .int x3), (4, .int x4), (5, .int (I 134 x4.toNatClampNeg)), (6, .int (F_J_max I5 (r4 - r5) 0)), (7, .int r8)] [.int r11] (HS I11 L11 X)
        refine w_istore (ls2 := [(0, .ref 325), (1, .ref 1), (2, .int x2), (3, .int x3), (4, .int x4), (5, .int (I 134 x4.toNatClampNeg)), (6, .int (F_J_max I5 (r4 - r5) 0)), (7, .int r8), (8, .int r11)]) (Ev.cm _) rfl rfl ?_
        refine w_iload_n (Ev.cm _) rfl rfl ?_
        refine w_if_ne (Ev.cm _) rfl (fun c3 => ?_) (fun c3 => ?_)
        · have c3 : ¬ (x3 = 0) := c3
          rw [if_neg c3] at q
          refine w_iconst (Ev.cm _) rfl ?_
          refine w_goto (Ev.cm _) rfl ?_
          refine w_istore_n (ls2 := [(0, .ref 325), (1, .ref 1), (2, .int x2), (3, .int 1), (4, .int x4), (5, .int (I 134 x4.toNatClampNeg)), (6, .int (F_J_max I5 (r4 - r5) 0)), (7, .int r8), (8, .int r11)]) (Ev.cm _) rfl rfl ?_
          refine w_iinc (ls2 := [(0, .ref 325), (1, .ref 1), (2, .int x2), (3, .int 1), (4, .int (x4 + 1)), (5, .int (I 134 x4.toNatClampNeg)), (6, .int (F_J_max I5 (r4 - r5) 0)), (7, .int r8), (8, .int r11)]) (Ev.cm _) rfl rfl rfl ?_
          refine w_goto (Ev.cm _) rfl ?_
          show Wp _ _ _ _ _ _ _ 5 [(0, .ref 325), (1, .ref 1), (2, .int x2), (3, .int 1), (4, .int (x4 + 1)), (5, .int (I 134 x4.toNatClampNeg)), (6, .int (F_J_max I5 (r4 - r5) 0)), (7, .int r8), (8, .int r11)] [] (HS I11 L11 X)
          refine Wp.sub [0, 1, 2, 3, 4] (ls2 := [(0, .ref 325), (1, .ref 1), (2, .int x2), (3, .int 1), (4, .int (x4 + 1))]) rfl ?_
          exact ih _ _ _ _ _ q
        · have c3 : x3 = 0 := c3
          rw [if_pos c3] at q
          refine w_iload (Ev.cm _) rfl rfl ?_
          refine w_if_ne (Ev.cm _) rfl (fun c4 => ?_) (fun c4 => ?_)
          · have c4 : ¬ (r8 = 0) := c4
            rw [if_neg c4] at q
            refine w_iconst (Ev.cm _) rfl ?_
            refine w_goto (Ev.cm _) rfl ?_
            refine w_istore_n (ls2 := [(0, .ref 325), (1, .ref 1), (2, .int x2), (3, .int 1), (4, .int x4), (5, .int (I 134 x4.toNatClampNeg)), (6, .int (F_J_max I5 (r4 - r5) 0)), (7, .int r8), (8, .int r11)]) (Ev.cm _) rfl rfl ?_
            refine w_iinc (ls2 := [(0, .ref 325), (1, .ref 1), (2, .int x2), (3, .int 1), (4, .int (x4 + 1)), (5, .int (I 134 x4.toNatClampNeg)), (6, .int (F_J_max I5 (r4 - r5) 0)), (7, .int r8), (8, .int r11)]) (Ev.cm _) rfl rfl rfl ?_
            refine w_goto (Ev.cm _) rfl ?_
            show Wp _ _ _ _ _ _ _ 5 [(0, .ref 325), (1, .ref 1), (2, .int x2), (3, .int 1), (4, .int (x4 + 1)), (5, .int (I 134 x4.toNatClampNeg)), (6, .int (F_J_max I5 (r4 - r5) 0)), (7, .int r8), (8, .int r11)] [] (HS I11 L11 X)
            refine Wp.sub [0, 1, 2, 3, 4] (ls2 := [(0, .ref 325), (1, .ref 1), (2, .int x2), (3, .int 1), (4, .int (x4 + 1))]) rfl ?_
            exact ih _ _ _ _ _ q
          · have c4 : r8 = 0 := c4
            rw [if_pos c4] at q
            refine w_iload (Ev.cm _) rfl rfl ?_
            refine w_if_eq (Ev.cm _) rfl (fun c5 => ?_) (fun c5 => ?_)
            · have c5 : r11 = 0 := c5
              rw [if_pos c5] at q
              refine w_iconst (Ev.cm _) rfl ?_
              refine w_istore_n (ls2 := [(0, .ref 325), (1, .ref 1), (2, .int x2), (3, .int 0), (4, .int x4), (5, .int (I 134 x4.toNatClampNeg)), (6, .int (F_J_max I5 (r4 - r5) 0)), (7, .int r8), (8, .int r11)]) (Ev.cm _) rfl rfl ?_
              refine w_iinc (ls2 := [(0, .ref 325), (1, .ref 1), (2, .int x2), (3, .int 0), (4, .int (x4 + 1)), (5, .int (I 134 x4.toNatClampNeg)), (6, .int (F_J_max I5 (r4 - r5) 0)), (7, .int r8), (8, .int r11)]) (Ev.cm _) rfl rfl rfl ?_
              refine w_goto (Ev.cm _) rfl ?_
              show Wp _ _ _ _ _ _ _ 5 [(0, .ref 325), (1, .ref 1), (2, .int x2), (3, .int 0), (4, .int (x4 + 1)), (5, .int (I 134 x4.toNatClampNeg)), (6, .int (F_J_max I5 (r4 - r5) 0)), (7, .int r8), (8, .int r11)] [] (HS I11 L11 X)
              refine Wp.sub [0, 1, 2, 3, 4] (ls2 := [(0, .ref 325), (1, .ref 1), (2, .int x2), (3, .int 0), (4, .int (x4 + 1))]) rfl ?_
              exact ih _ _ _ _ _ q
            · have c5 : ¬ (r11 = 0) := c5
              rw [if_neg c5] at q
              refine w_iconst (Ev.cm _) rfl ?_
              refine w_goto (Ev.cm _) rfl ?_
              refine w_istore_n (ls2 := [(0, .ref 325), (1, .ref 1), (2, .int x2), (3, .int 1), (4, .int x4), (5, .int (I 134 x4.toNatClampNeg)), (6, .int (F_J_max I5 (r4 - r5) 0)), (7, .int r8), (8, .int r11)]) (Ev.cm _) rfl rfl ?_
              refine w_iinc (ls2 := [(0, .ref 325), (1, .ref 1), (2, .int x2), (3, .int 1), (4, .int (x4 + 1)), (5, .int (I 134 x4.toNatClampNeg)), (6, .int (F_J_max I5 (r4 - r5) 0)), (7, .int r8), (8, .int r11)]) (Ev.cm _) rfl rfl rfl ?_
              refine w_goto (Ev.cm _) rfl ?_
              show Wp _ _ _ _ _ _ _ 5 [(0, .ref 325), (1, .ref 1), (2, .int x2), (3, .int 1), (4, .int (x4 + 1)), (5, .int (I 134 x4.toNatClampNeg)), (6, .int (F_J_max I5 (r4 - r5) 0)), (7, .int r8), (8, .int r11)] [] (HS I11 L11 X)
              refine Wp.sub [0, 1, 2, 3, 4] (ls2 := [(0, .ref 325), (1, .ref 1), (2, .int x2), (3, .int 1), (4, .int (x4 + 1))]) rfl ?_
              exact ih _ _ _ _ _ q
def FO_C_goOn (fu : Nat) (p1 : Int32) (I : Nat → Nat → Int32) (L : Nat → Nat → Int64) : Option (Int32 × (Nat → Nat → Int32) × (Nat → Nat → Int64)) := LO_C_goOn_5 fu fu p1 0 0 I L
set_option maxHeartbeats 20000000 in
set_option maxRecDepth 20000 in
theorem eo_C_goOn {d fu : Nat} {p1 : Int32} {I : Nat → Nat → Int32} {L : Nat → Nat → Int64} {X : Nat × (Nat → Int32)} {Q : PQ} {res : Int32 × (Nat → Nat → Int32) × (Nat → Nat → Int64)} (g : Q (some (.int res.1)) (HS res.2.1 res.2.2 X)) (q : FO_C_goOn fu p1 I L = some res) : Ev (d + 3) m_C_goOn [.ref 325, .ref 1, .int p1] (HS I L X) Q := by
  unfold FO_C_goOn at q
  refine ev_start (d := d + 2) rfl rfl rfl (Nat.le_of_ble_eq_true rfl) ?_
  show Wp (Ev (d + 2)) cd_C_goOn (0, 0) (some .boolean) _ _ Q 0 [(0, .ref 325), (1, .ref 1), (2, .int p1)] [] (HS I L X)
  refine w_iconst (Ev.cm _) rfl ?_
  refine w_istore_n (ls2 := [(0, .ref 325), (1, .ref 1), (2, .int p1), (3, .int 0)]) (Ev.cm _) rfl rfl ?_
  refine w_iconst (Ev.cm _) rfl ?_
  refine w_istore (ls2 := [(0, .ref 325), (1, .ref 1), (2, .int p1), (3, .int 0), (4, .int 0)]) (Ev.cm _) rfl rfl ?_
  show Wp _ _ _ _ _ _ _ 5 [(0, .ref 325), (1, .ref 1), (2, .int p1), (3, .int 0), (4, .int 0)] [] (HS I L X)
  refine Wp.sub [0, 1, 2, 3, 4] (ls2 := [(0, .ref 325), (1, .ref 1), (2, .int p1), (3, .int 0), (4, .int 0)]) rfl ?_
  exact lo_C_goOn_5 g fu _ _ _ _ _ q
def LO_O_weighFromFront_18 (fu : Nat) (k_2 : Int32 → (Nat → Nat → Int32) → (Nat → Nat → Int64) → Option (Unit × (Nat → Nat → Int32) × (Nat → Nat → Int64))) : Nat → Int32 → Int32 → (Nat → Nat → Int32) → (Nat → Nat → Int64) → Option (Unit × (Nat → Nat → Int32) × (Nat → Nat → Int64))
  | 0, _, _, _, _ => none
  | n + 1, x2, x3, I, L => if 3 ≤ x3 then (k_2 (x2 + 1) I L) else (if x2 = 0 then ((FO_O_soundWeight fu x2 x3 I L).bind (fun u4 => let r4 := u4.1; let I4 := u4.2.1; let L4 := u4.2.2; if 0 ≤ (x2 * 3) + x3 ∧ (x2 * 3) + x3 < 18 then (LO_O_weighFromFront_18 fu k_2 n x2 (x3 + 1) I4 (sL L4 323 (((x2 * 3) + x3).toNatClampNeg) ((1 : Int64) * ((r4 : Int32).toInt64)))) else none)) else ((FO_O_comesTo fu (x2 - 1) x3 I L).bind (fun u1 => let r1 := u1.1; let I1 := u1.2.1; let L1 := u1.2.2; (FO_O_soundWeight fu x2 x3 I1 L1).bind (fun u2 => let r2 := u2.1; let I2 := u2.2.1; let L2 := u2.2.2; if 0 ≤ (x2 * 3) + x3 ∧ (x2 * 3) + x3 < 18 then (LO_O_weighFromFront_18 fu k_2 n x2 (x3 + 1) I2 (sL L2 323 (((x2 * 3) + x3).toNatClampNeg) (r1 * ((r2 : Int32).toInt64)))) else none))))
set_option maxHeartbeats 20000000 in
set_option maxRecDepth 20000 in
theorem lo_O_weighFromFront_18 {d fu n0 s0 : Nat} {X : Nat × (Nat → Int32)} {Q : PQ} {k_2 : Int32 → (Nat → Nat → Int32) → (Nat → Nat → Int64) → Option (Unit × (Nat → Nat → Int32) × (Nat → Nat → Int64))} {res : Unit × (Nat → Nat → Int32) × (Nat → Nat → Int64)} (g : Q none (HS res.2.1 res.2.2 X)) (hk_2 : ∀ (x2 : Int32) (I : Nat → Nat → Int32) (L : Nat → Nat → Int64), k_2 x2 I L = some res → Wp (Ev (d + 3)) cd_O_weighFromFront (0, 0) none n0 s0 Q 2 [(0, .ref 322), (1, .ref 1), (2, .int x2)] [] (HS I L X)) : ∀ (n : Nat) (x2 : Int32) (x3 : Int32) (I : Nat → Nat → Int32) (L : Nat → Nat → Int64), LO_O_weighFromFront_18 fu k_2 n x2 x3 I L = some res → Wp (Ev (d + 3)) cd_O_weighFromFront (0, 0) none n0 s0 Q 18 [(0, .ref 322), (1, .ref 1), (2, .int x2), (3, .int x3)] [] (HS I L X) := by
  intro n
  induction n with
  | zero => intro _ _ _ _ q; cases q
  | succ n ih =>
    intro x2 x3 I L q
    unfold LO_O_weighFromFront_18 at q
    refine w_iload_n (Ev.cm _) rfl rfl ?_
    refine w_iconst (Ev.cm _) rfl ?_
    refine w_icmp_ge (Ev.cm _) rfl (fun c1 => ?_) (fun c1 => ?_)
    · have c1 : 3 ≤ x3 := c1
      rw [if_pos c1] at q
      refine w_iinc (ls2 := [(0, .ref 322), (1, .ref 1), (2, .int (x2 + 1)), (3, .int x3)]) (Ev.cm _) rfl rfl rfl ?_
      refine w_goto (Ev.cm _) rfl ?_
      show Wp _ _ _ _ _ _ _ 2 [(0, .ref 322), (1, .ref 1), (2, .int (x2 + 1)), (3, .int x3)] [] (HS I L X)
      refine Wp.sub [0, 1, 2] (ls2 := [(0, .ref 322), (1, .ref 1), (2, .int (x2 + 1))]) rfl ?_
      exact hk_2 _ _ _ q
    · have c1 : ¬ (3 ≤ x3) := c1
      rw [if_neg c1] at q
      refine w_iload_n (Ev.cm _) rfl rfl ?_
      refine w_if_ne (Ev.cm _) rfl (fun c2 => ?_) (fun c2 => ?_)
      · have c2 : ¬ (x2 = 0) := c2
        rw [if_neg c2] at q
        refine w_aload_n (Ev.cm _) rfl rfl ?_
        refine w_aload_n (Ev.cm _) rfl rfl ?_
        refine w_iload_n (Ev.cm _) rfl rfl ?_
        refine w_iconst (Ev.cm _) rfl ?_
        refine w_isub (Ev.cm _) rfl ?_
        refine w_iload_n (Ev.cm _) rfl rfl ?_
        obtain ⟨⟨r1, I1, L1⟩, e1, q⟩ := obs q
        dsimp only at q
        refine w_cvirt (o := 322) (as := [.ref 1, .int (x2 - 1), .int x3]) (st := []) (Ev.cm _) rfl rfl rfl (Nat.le_of_ble_eq_true rfl) (Nat.le_of_ble_eq_true rfl) rfl (Nat.le_of_ble_eq_true rfl) (eo_O_comesTo (g := ?_) e1)
        show Wp _ _ _ _ _ _ _ 40 [(0, .ref 322), (1, .ref 1), (2, .int x2), (3, .int x3)] [.long r1] (HS I1 L1 X)
        refine w_lstore (ls2 := [(0, .ref 322), (1, .ref 1), (2, .int x2), (3, .int x3), (4, .long r1)]) (Ev.cm _) rfl rfl ?_
        refine w_aload_n (Ev.cm _) rfl rfl ?_
        refine w_getR (q := 323) (Ev.cm _) rfl (Nat.le_of_ble_eq_true rfl) rfl rfl ?_
        refine w_iload_n (Ev.cm _) rfl rfl ?_
        refine w_iconst (Ev.cm _) rfl ?_
        refine w_imul (Ev.cm _) rfl ?_
        refine w_iload_n (Ev.cm _) rfl rfl ?_
        refine w_iadd (Ev.cm _) rfl ?_
        refine w_lload (Ev.cm _) rfl rfl ?_
        refine w_aload_n (Ev.cm _) rfl rfl ?_
        refine w_iload_n (Ev.cm _) rfl rfl ?_
        refine w_iload_n (Ev.cm _) rfl rfl ?_
        obtain ⟨⟨r2, I2, L2⟩, e2, q⟩ := obs q
        dsimp only at q
        refine w_cstat (as := [.ref 1, .int x2, .int x3]) (st := [.long r1, .int ((x2 * 3) + x3), .ref 323]) (Ev.cm _) rfl rfl rfl (Nat.le_of_ble_eq_true rfl) (Nat.le_of_ble_eq_true rfl) (eo_O_soundWeight (g := ?_) e2)
        show Wp _ _ _ _ _ _ _ 59 [(0, .ref 322), (1, .ref 1), (2, .int x2), (3, .int x3), (4, .long r1)] [.int r2, .long r1, .int ((x2 * 3) + x3), .ref 323] (HS I2 L2 X)
        refine w_i2l (Ev.cm _) rfl ?_
        refine w_lmul (Ev.cm _) rfl ?_
        obtain ⟨b3, q⟩ := ois q
        refine w_last (Ev.cm _) rfl (Nat.le_of_ble_eq_true rfl) rfl (show vp_in ((x2 * 3) + x3) 18 from vpI 18 (by decide) b3.1 b3.2) ?_
        refine w_iinc (ls2 := [(0, .ref 322), (1, .ref 1), (2, .int x2), (3, .int (x3 + 1)), (4, .long r1)]) (Ev.cm _) rfl rfl rfl ?_
        refine w_goto (Ev.cm _) rfl ?_
        show Wp _ _ _ _ _ _ _ 18 [(0, .ref 322), (1, .ref 1), (2, .int x2), (3, .int (x3 + 1)), (4, .long r1)] [] (HS I2 (sL L2 323 (((x2 * 3) + x3).toNatClampNeg) (r1 * ((r2 : Int32).toInt64))) X)
        refine Wp.sub [0, 1, 2, 3] (ls2 := [(0, .ref 322), (1, .ref 1), (2, .int x2), (3, .int (x3 + 1))]) rfl ?_
        exact ih _ _ _ _ q
      · have c2 : x2 = 0 := c2
        rw [if_pos c2] at q
        refine w_lconst (Ev.cm _) rfl ?_
        refine w_goto (Ev.cm _) rfl ?_
        refine w_lstore (ls2 := [(0, .ref 322), (1, .ref 1), (2, .int x2), (3, .int x3), (4, .long 1)]) (Ev.cm _) rfl rfl ?_
        refine w_aload_n (Ev.cm _) rfl rfl ?_
        refine w_getR (q := 323) (Ev.cm _) rfl (Nat.le_of_ble_eq_true rfl) rfl rfl ?_
        refine w_iload_n (Ev.cm _) rfl rfl ?_
        refine w_iconst (Ev.cm _) rfl ?_
        refine w_imul (Ev.cm _) rfl ?_
        refine w_iload_n (Ev.cm _) rfl rfl ?_
        refine w_iadd (Ev.cm _) rfl ?_
        refine w_lload (Ev.cm _) rfl rfl ?_
        refine w_aload_n (Ev.cm _) rfl rfl ?_
        refine w_iload_n (Ev.cm _) rfl rfl ?_
        refine w_iload_n (Ev.cm _) rfl rfl ?_
        obtain ⟨⟨r4, I4, L4⟩, e4, q⟩ := obs q
        dsimp only at q
        refine w_cstat (as := [.ref 1, .int x2, .int x3]) (st := [.long 1, .int ((x2 * 3) + x3), .ref 323]) (Ev.cm _) rfl rfl rfl (Nat.le_of_ble_eq_true rfl) (Nat.le_of_ble_eq_true rfl) (eo_O_soundWeight (g := ?_) e4)
        show Wp _ _ _ _ _ _ _ 59 [(0, .ref 322), (1, .ref 1), (2, .int x2), (3, .int x3), (4, .long 1)] [.int r4, .long 1, .int ((x2 * 3) + x3), .ref 323] (HS I4 L4 X)
        refine w_i2l (Ev.cm _) rfl ?_
        refine w_lmul (Ev.cm _) rfl ?_
        obtain ⟨b5, q⟩ := ois q
        refine w_last (Ev.cm _) rfl (Nat.le_of_ble_eq_true rfl) rfl (show vp_in ((x2 * 3) + x3) 18 from vpI 18 (by decide) b5.1 b5.2) ?_
        refine w_iinc (ls2 := [(0, .ref 322), (1, .ref 1), (2, .int x2), (3, .int (x3 + 1)), (4, .long 1)]) (Ev.cm _) rfl rfl rfl ?_
        refine w_goto (Ev.cm _) rfl ?_
        show Wp _ _ _ _ _ _ _ 18 [(0, .ref 322), (1, .ref 1), (2, .int x2), (3, .int (x3 + 1)), (4, .long 1)] [] (HS I4 (sL L4 323 (((x2 * 3) + x3).toNatClampNeg) ((1 : Int64) * ((r4 : Int32).toInt64))) X)
        refine Wp.sub [0, 1, 2, 3] (ls2 := [(0, .ref 322), (1, .ref 1), (2, .int x2), (3, .int (x3 + 1))]) rfl ?_
        exact ih _ _ _ _ q
def LO_O_weighFromFront_2 (fu : Nat) : Nat → Int32 → (Nat → Nat → Int32) → (Nat → Nat → Int64) → Option (Unit × (Nat → Nat → Int32) × (Nat → Nat → Int64))
  | 0, _, _, _ => none
  | n + 1, x2, I, L => if I 1 11 ≤ x2 then (some ((), I, L)) else (if 6 ≤ x2 then (some ((), I, L)) else (LO_O_weighFromFront_18 fu (fun x2 I L => LO_O_weighFromFront_2 fu n x2 I L) fu x2 0 I L))
set_option maxHeartbeats 20000000 in
set_option maxRecDepth 20000 in
theorem lo_O_weighFromFront_2 {d fu n0 s0 : Nat} {X : Nat × (Nat → Int32)} {Q : PQ} {res : Unit × (Nat → Nat → Int32) × (Nat → Nat → Int64)} (g : Q none (HS res.2.1 res.2.2 X)) : ∀ (n : Nat) (x2 : Int32) (I : Nat → Nat → Int32) (L : Nat → Nat → Int64), LO_O_weighFromFront_2 fu n x2 I L = some res → Wp (Ev (d + 3)) cd_O_weighFromFront (0, 0) none n0 s0 Q 2 [(0, .ref 322), (1, .ref 1), (2, .int x2)] [] (HS I L X) := by
  intro n
  induction n with
  | zero => intro _ _ _ q; cases q
  | succ n ih =>
    intro x2 I L q
    unfold LO_O_weighFromFront_2 at q
    refine w_iload_n (Ev.cm _) rfl rfl ?_
    refine w_aload_n (Ev.cm _) rfl rfl ?_
    refine w_getI (Ev.cm _) rfl (Nat.le_of_ble_eq_true rfl) rfl ?_
    refine w_icmp_ge (Ev.cm _) rfl (fun c1 => ?_) (fun c1 => ?_)
    · have c1 : I 1 11 ≤ x2 := c1
      rw [if_pos c1] at q
      refine w_return (Ev.cm _) rfl rfl rf0 ?_
      cases q
      exact g
    · have c1 : ¬ (I 1 11 ≤ x2) := c1
      rw [if_neg c1] at q
      refine w_iload_n (Ev.cm _) rfl rfl ?_
      refine w_bipush (Ev.cm _) rfl ?_
      refine w_icmp_ge (Ev.cm _) rfl (fun c2 => ?_) (fun c2 => ?_)
      · have c2 : 6 ≤ x2 := c2
        rw [if_pos c2] at q
        refine w_return (Ev.cm _) rfl rfl rf0 ?_
        cases q
        exact g
      · have c2 : ¬ (6 ≤ x2) := c2
        rw [if_neg c2] at q
        refine w_iconst (Ev.cm _) rfl ?_
        refine w_istore_n (ls2 := [(0, .ref 322), (1, .ref 1), (2, .int x2), (3, .int 0)]) (Ev.cm _) rfl rfl ?_
        show Wp _ _ _ _ _ _ _ 18 [(0, .ref 322), (1, .ref 1), (2, .int x2), (3, .int 0)] [] (HS I L X)
        refine Wp.sub [0, 1, 2, 3] (ls2 := [(0, .ref 322), (1, .ref 1), (2, .int x2), (3, .int 0)]) rfl ?_
        exact lo_O_weighFromFront_18 g (fun x2 I L q => ih x2 I L q) fu _ _ _ _ q
def FO_O_weighFromFront (fu : Nat) (I : Nat → Nat → Int32) (L : Nat → Nat → Int64) : Option (Unit × (Nat → Nat → Int32) × (Nat → Nat → Int64)) := LO_O_weighFromFront_2 fu fu 0 I L
set_option maxHeartbeats 20000000 in
set_option maxRecDepth 20000 in
theorem eo_O_weighFromFront {d fu : Nat} {I : Nat → Nat → Int32} {L : Nat → Nat → Int64} {X : Nat × (Nat → Int32)} {Q : PQ} {res : Unit × (Nat → Nat → Int32) × (Nat → Nat → Int64)} (g : Q none (HS res.2.1 res.2.2 X)) (q : FO_O_weighFromFront fu  I L = some res) : Ev (d + 4) m_O_weighFromFront [.ref 322, .ref 1] (HS I L X) Q := by
  unfold FO_O_weighFromFront at q
  refine ev_start (d := d + 3) rfl rfl rfl (Nat.le_of_ble_eq_true rfl) ?_
  show Wp (Ev (d + 3)) cd_O_weighFromFront (0, 0) none _ _ Q 0 [(0, .ref 322), (1, .ref 1)] [] (HS I L X)
  refine w_iconst (Ev.cm _) rfl ?_
  refine w_istore_n (ls2 := [(0, .ref 322), (1, .ref 1), (2, .int 0)]) (Ev.cm _) rfl rfl ?_
  show Wp _ _ _ _ _ _ _ 2 [(0, .ref 322), (1, .ref 1), (2, .int 0)] [] (HS I L X)
  refine Wp.sub [0, 1, 2] (ls2 := [(0, .ref 322), (1, .ref 1), (2, .int 0)]) rfl ?_
  exact lo_O_weighFromFront_2 g fu _ _ _ q
def LO_O_heaviestBehind_9 (fu : Nat) : Nat → Int32 → Int32 → Int64 → Int32 → Int32 → (Nat → Nat → Int32) → (Nat → Nat → Int64) → Option (Int32 × (Nat → Nat → Int32) × (Nat → Nat → Int64))
  | 0, _, _, _, _, _, _, _ => none
  | n + 1, x2, x3, x4, x6, x7, I, L => if 3 ≤ x7 then (some (x6, I, L)) else (if x2 < 0 then (some (x6, I, L)) else (if 6 ≤ x2 then (some (x6, I, L)) else (if 0 ≤ (x2 * 3) + x7 ∧ (x2 * 3) + x7 < 18 then ((FO_O_soundWeight fu x2 x7 I L).bind (fun u2 => let r2 := u2.1; let I2 := u2.2.1; let L2 := u2.2.2; if x2 ≤ 0 then (if lg_cmp ((L 324 (((x2 * 3) + x7).toNatClampNeg)) * ((r2 : Int32).toInt64)) x4 ≤ 0 then (LO_O_heaviestBehind_9 fu n x2 x3 x4 x6 (x7 + 1) I2 L2) else (LO_O_heaviestBehind_9 fu n x2 x3 ((L 324 (((x2 * 3) + x7).toNatClampNeg)) * ((r2 : Int32).toInt64)) x7 (x7 + 1) I2 L2)) else (if 0 ≤ x3 ∧ x3 ≤ 2 then (if 0 ≤ (x3 * 3) + x7 ∧ (x3 * 3) + x7 < 9 then (if lg_cmp (((L 324 (((x2 * 3) + x7).toNatClampNeg)) * ((r2 : Int32).toInt64)) * (((I2 131 (((x3 * 3) + x7).toNatClampNeg)) : Int32).toInt64)) x4 ≤ 0 then (LO_O_heaviestBehind_9 fu n x2 x3 x4 x6 (x7 + 1) I2 L2) else (LO_O_heaviestBehind_9 fu n x2 x3 (((L 324 (((x2 * 3) + x7).toNatClampNeg)) * ((r2 : Int32).toInt64)) * (((I2 131 (((x3 * 3) + x7).toNatClampNeg)) : Int32).toInt64)) x7 (x7 + 1) I2 L2)) else none) else (if lg_cmp (((L 324 (((x2 * 3) + x7).toNatClampNeg)) * ((r2 : Int32).toInt64)) * 0) x4 ≤ 0 then (LO_O_heaviestBehind_9 fu n x2 x3 x4 x6 (x7 + 1) I2 L2) else (LO_O_heaviestBehind_9 fu n x2 x3 (((L 324 (((x2 * 3) + x7).toNatClampNeg)) * ((r2 : Int32).toInt64)) * 0) x7 (x7 + 1) I2 L2))))) else none)))
set_option maxHeartbeats 20000000 in
set_option maxRecDepth 20000 in
theorem lo_O_heaviestBehind_9 {d fu n0 s0 : Nat} {X : Nat × (Nat → Int32)} {Q : PQ} {res : Int32 × (Nat → Nat → Int32) × (Nat → Nat → Int64)} (g : Q (some (.int res.1)) (HS res.2.1 res.2.2 X)) : ∀ (n : Nat) (x2 : Int32) (x3 : Int32) (x4 : Int64) (x6 : Int32) (x7 : Int32) (I : Nat → Nat → Int32) (L : Nat → Nat → Int64), LO_O_heaviestBehind_9 fu n x2 x3 x4 x6 x7 I L = some res → Wp (Ev (d + 3)) cd_O_heaviestBehind (0, 0) (some .int) n0 s0 Q 9 [(0, .ref 322), (1, .ref 1), (2, .int x2), (3, .int x3), (4, .long x4), (6, .int x6), (7, .int x7)] [] (HS I L X) := by
  intro n
  induction n with
  | zero => intro _ _ _ _ _ _ _ q; cases q
  | succ n ih =>
    intro x2 x3 x4 x6 x7 I L q
    unfold LO_O_heaviestBehind_9 at q
    refine w_iload (Ev.cm _) rfl rfl ?_
    refine w_iconst (Ev.cm _) rfl ?_
    refine w_icmp_ge (Ev.cm _) rfl (fun c1 => ?_) (fun c1 => ?_)
    · have c1 : 3 ≤ x7 := c1
      rw [if_pos c1] at q
      refine w_iload (Ev.cm _) rfl rfl ?_
      refine w_ireturn (Ev.cm _) rfl trivial rf0 ?_
      cases q
      exact g
    · have c1 : ¬ (3 ≤ x7) := c1
      rw [if_neg c1] at q
      refine w_iload_n (Ev.cm _) rfl rfl ?_
      refine w_if_lt (Ev.cm _) rfl (fun c2 => ?_) (fun c2 => ?_)
      · have c2 : x2 < 0 := c2
        rw [if_pos c2] at q
        refine w_iload (Ev.cm _) rfl rfl ?_
        refine w_ireturn (Ev.cm _) rfl trivial rf0 ?_
        cases q
        exact g
      · have c2 : ¬ (x2 < 0) := c2
        rw [if_neg c2] at q
        refine w_iload_n (Ev.cm _) rfl rfl ?_
        refine w_bipush (Ev.cm _) rfl ?_
        refine w_icmp_ge (Ev.cm _) rfl (fun c3 => ?_) (fun c3 => ?_)
        · have c3 : 6 ≤ x2 := c3
          rw [if_pos c3] at q
          refine w_iload (Ev.cm _) rfl rfl ?_
          refine w_ireturn (Ev.cm _) rfl trivial rf0 ?_
          cases q
          exact g
        · have c3 : ¬ (6 ≤ x2) := c3
          rw [if_neg c3] at q
          refine w_aload_n (Ev.cm _) rfl rfl ?_
          refine w_getR (q := 324) (Ev.cm _) rfl (Nat.le_of_ble_eq_true rfl) rfl rfl ?_
          refine w_iload_n (Ev.cm _) rfl rfl ?_
          refine w_iconst (Ev.cm _) rfl ?_
          refine w_imul (Ev.cm _) rfl ?_
          refine w_iload (Ev.cm _) rfl rfl ?_
          refine w_iadd (Ev.cm _) rfl ?_
          obtain ⟨b1, q⟩ := ois q
          refine w_lald (Ev.cm _) rfl (Nat.le_of_ble_eq_true rfl) rfl (show vp_in ((x2 * 3) + x7) 18 from vpI 18 (by decide) b1.1 b1.2) ?_
          refine w_aload_n (Ev.cm _) rfl rfl ?_
          refine w_iload_n (Ev.cm _) rfl rfl ?_
          refine w_iload (Ev.cm _) rfl rfl ?_
          obtain ⟨⟨r2, I2, L2⟩, e2, q⟩ := obs q
          dsimp only at q
          refine w_cstat (as := [.ref 1, .int x2, .int x7]) (st := [.long (L 324 (((x2 * 3) + x7).toNatClampNeg))]) (Ev.cm _) rfl rfl rfl (Nat.le_of_ble_eq_true rfl) (Nat.le_of_ble_eq_true rfl) (eo_O_soundWeight (g := ?_) e2)
          show Wp _ _ _ _ _ _ _ 43 [(0, .ref 322), (1, .ref 1), (2, .int x2), (3, .int x3), (4, .long x4), (6, .int x6), (7, .int x7)] [.int r2, .long (L 324 (((x2 * 3) + x7).toNatClampNeg))] (HS I2 L2 X)
          refine w_i2l (Ev.cm _) rfl ?_
          refine w_lmul (Ev.cm _) rfl ?_
          refine w_lstore (ls2 := [(0, .ref 322), (1, .ref 1), (2, .int x2), (3, .int x3), (4, .long x4), (6, .int x6), (7, .int x7), (8, .long ((L 324 (((x2 * 3) + x7).toNatClampNeg)) * ((r2 : Int32).toInt64)))]) (Ev.cm _) rfl rfl ?_
          refine w_iload_n (Ev.cm _) rfl rfl ?_
          refine w_if_le (Ev.cm _) rfl (fun c4 => ?_) (fun c4 => ?_)
          · have c4 : x2 ≤ 0 := c4
            rw [if_pos c4] at q
            refine w_lload (Ev.cm _) rfl rfl ?_
            refine w_lload (Ev.cm _) rfl rfl ?_
            refine w_lcmp (Ev.cm _) rfl ?_
            refine w_if_le (Ev.cm _) rfl (fun c5 => ?_) (fun c5 => ?_)
            · have c5 : lg_cmp ((L 324 (((x2 * 3) + x7).toNatClampNeg)) * ((r2 : Int32).toInt64)) x4 ≤ 0 := c5
              rw [if_pos c5] at q
              refine w_iinc (ls2 := [(0, .ref 322), (1, .ref 1), (2, .int x2), (3, .int x3), (4, .long x4), (6, .int x6), (7, .int (x7 + 1)), (8, .long ((L 324 (((x2 * 3) + x7).toNatClampNeg)) * ((r2 : Int32).toInt64)))]) (Ev.cm _) rfl rfl rfl ?_
              refine w_goto (Ev.cm _) rfl ?_
              show Wp _ _ _ _ _ _ _ 9 [(0, .ref 322), (1, .ref 1), (2, .int x2), (3, .int x3), (4, .long x4), (6, .int x6), (7, .int (x7 + 1)), (8, .long ((L 324 (((x2 * 3) + x7).toNatClampNeg)) * ((r2 : Int32).toInt64)))] [] (HS I2 L2 X)
              refine Wp.sub [0, 1, 2, 3, 4, 5, 6] (ls2 := [(0, .ref 322), (1, .ref 1), (2, .int x2), (3, .int x3), (4, .long x4), (6, .int x6), (7, .int (x7 + 1))]) rfl ?_
              exact ih _ _ _ _ _ _ _ q
            · have c5 : ¬ (lg_cmp ((L 324 (((x2 * 3) + x7).toNatClampNeg)) * ((r2 : Int32).toInt64)) x4 ≤ 0) := c5
              rw [if_neg c5] at q
              refine w_lload (Ev.cm _) rfl rfl ?_
              refine w_lstore (ls2 := [(0, .ref 322), (1, .ref 1), (2, .int x2), (3, .int x3), (4, .long ((L 324 (((x2 * 3) + x7).toNatClampNeg)) * ((r2 : Int32).toInt64))), (6, .int x6), (7, .int x7), (8, .long ((L 324 (((x2 * 3) + x7).toNatClampNeg)) * ((r2 : Int32).toInt64)))]) (Ev.cm _) rfl rfl ?_
              refine w_iload (Ev.cm _) rfl rfl ?_
              refine w_istore (ls2 := [(0, .ref 322), (1, .ref 1), (2, .int x2), (3, .int x3), (4, .long ((L 324 (((x2 * 3) + x7).toNatClampNeg)) * ((r2 : Int32).toInt64))), (6, .int x7), (7, .int x7), (8, .long ((L 324 (((x2 * 3) + x7).toNatClampNeg)) * ((r2 : Int32).toInt64)))]) (Ev.cm _) rfl rfl ?_
              refine w_iinc (ls2 := [(0, .ref 322), (1, .ref 1), (2, .int x2), (3, .int x3), (4, .long ((L 324 (((x2 * 3) + x7).toNatClampNeg)) * ((r2 : Int32).toInt64))), (6, .int x7), (7, .int (x7 + 1)), (8, .long ((L 324 (((x2 * 3) + x7).toNatClampNeg)) * ((r2 : Int32).toInt64)))]) (Ev.cm _) rfl rfl rfl ?_
              refine w_goto (Ev.cm _) rfl ?_
              show Wp _ _ _ _ _ _ _ 9 [(0, .ref 322), (1, .ref 1), (2, .int x2), (3, .int x3), (4, .long ((L 324 (((x2 * 3) + x7).toNatClampNeg)) * ((r2 : Int32).toInt64))), (6, .int x7), (7, .int (x7 + 1)), (8, .long ((L 324 (((x2 * 3) + x7).toNatClampNeg)) * ((r2 : Int32).toInt64)))] [] (HS I2 L2 X)
              refine Wp.sub [0, 1, 2, 3, 4, 5, 6] (ls2 := [(0, .ref 322), (1, .ref 1), (2, .int x2), (3, .int x3), (4, .long ((L 324 (((x2 * 3) + x7).toNatClampNeg)) * ((r2 : Int32).toInt64))), (6, .int x7), (7, .int (x7 + 1))]) rfl ?_
              exact ih _ _ _ _ _ _ _ q
          · have c4 : ¬ (x2 ≤ 0) := c4
            rw [if_neg c4] at q
            refine w_lload (Ev.cm _) rfl rfl ?_
            refine w_iload_n (Ev.cm _) rfl rfl ?_
            refine w_cnest (as := [.int x3]) (st := [.long ((L 324 (((x2 * 3) + x7).toNatClampNeg)) * ((r2 : Int32).toInt64))]) (Ev.cm _) rfl rfl rfl (Nat.le_of_ble_eq_true rfl) (Nat.le_of_ble_eq_true rfl) (x_isMood ?_)
            show Wp _ _ _ _ _ _ _ 57 [(0, .ref 322), (1, .ref 1), (2, .int x2), (3, .int x3), (4, .long x4), (6, .int x6), (7, .int x7), (8, .long ((L 324 (((x2 * 3) + x7).toNatClampNeg)) * ((r2 : Int32).toInt64)))] [.int (bI (0 ≤ x3 ∧ x3 ≤ 2)), .long ((L 324 (((x2 * 3) + x7).toNatClampNeg)) * ((r2 : Int32).toInt64))] (HS I2 L2 X)
            refine w_if_eq (Ev.cm _) rfl (fun c6 => ?_) (fun c6 => ?_)
            · have c6 : ¬ (0 ≤ x3 ∧ x3 ≤ 2) := bI_0.mp c6
              rw [if_neg c6] at q
              refine w_lconst (Ev.cm _) rfl ?_
              refine w_lmul (Ev.cm _) rfl ?_
              refine w_lstore (ls2 := [(0, .ref 322), (1, .ref 1), (2, .int x2), (3, .int x3), (4, .long x4), (6, .int x6), (7, .int x7), (8, .long (((L 324 (((x2 * 3) + x7).toNatClampNeg)) * ((r2 : Int32).toInt64)) * 0))]) (Ev.cm _) rfl rfl ?_
              refine w_lload (Ev.cm _) rfl rfl ?_
              refine w_lload (Ev.cm _) rfl rfl ?_
              refine w_lcmp (Ev.cm _) rfl ?_
              refine w_if_le (Ev.cm _) rfl (fun c7 => ?_) (fun c7 => ?_)
              · have c7 : lg_cmp (((L 324 (((x2 * 3) + x7).toNatClampNeg)) * ((r2 : Int32).toInt64)) * 0) x4 ≤ 0 := c7
                rw [if_pos c7] at q
                refine w_iinc (ls2 := [(0, .ref 322), (1, .ref 1), (2, .int x2), (3, .int x3), (4, .long x4), (6, .int x6), (7, .int (x7 + 1)), (8, .long (((L 324 (((x2 * 3) + x7).toNatClampNeg)) * ((r2 : Int32).toInt64)) * 0))]) (Ev.cm _) rfl rfl rfl ?_
                refine w_goto (Ev.cm _) rfl ?_
                show Wp _ _ _ _ _ _ _ 9 [(0, .ref 322), (1, .ref 1), (2, .int x2), (3, .int x3), (4, .long x4), (6, .int x6), (7, .int (x7 + 1)), (8, .long (((L 324 (((x2 * 3) + x7).toNatClampNeg)) * ((r2 : Int32).toInt64)) * 0))] [] (HS I2 L2 X)
                refine Wp.sub [0, 1, 2, 3, 4, 5, 6] (ls2 := [(0, .ref 322), (1, .ref 1), (2, .int x2), (3, .int x3), (4, .long x4), (6, .int x6), (7, .int (x7 + 1))]) rfl ?_
                exact ih _ _ _ _ _ _ _ q
              · have c7 : ¬ (lg_cmp (((L 324 (((x2 * 3) + x7).toNatClampNeg)) * ((r2 : Int32).toInt64)) * 0) x4 ≤ 0) := c7
                rw [if_neg c7] at q
                refine w_lload (Ev.cm _) rfl rfl ?_
                refine w_lstore (ls2 := [(0, .ref 322), (1, .ref 1), (2, .int x2), (3, .int x3), (4, .long (((L 324 (((x2 * 3) + x7).toNatClampNeg)) * ((r2 : Int32).toInt64)) * 0)), (6, .int x6), (7, .int x7), (8, .long (((L 324 (((x2 * 3) + x7).toNatClampNeg)) * ((r2 : Int32).toInt64)) * 0))]) (Ev.cm _) rfl rfl ?_
                refine w_iload (Ev.cm _) rfl rfl ?_
                refine w_istore (ls2 := [(0, .ref 322), (1, .ref 1), (2, .int x2), (3, .int x3), (4, .long (((L 324 (((x2 * 3) + x7).toNatClampNeg)) * ((r2 : Int32).toInt64)) * 0)), (6, .int x7), (7, .int x7), (8, .long (((L 324 (((x2 * 3) + x7).toNatClampNeg)) * ((r2 : Int32).toInt64)) * 0))]) (Ev.cm _) rfl rfl ?_
                refine w_iinc (ls2 := [(0, .ref 322), (1, .ref 1), (2, .int x2), (3, .int x3), (4, .long (((L 324 (((x2 * 3) + x7).toNatClampNeg)) * ((r2 : Int32).toInt64)) * 0)), (6, .int x7), (7, .int (x7 + 1)), (8, .long (((L 324 (((x2 * 3) + x7).toNatClampNeg)) * ((r2 : Int32).toInt64)) * 0))]) (Ev.cm _) rfl rfl rfl ?_
                refine w_goto (Ev.cm _) rfl ?_
                show Wp _ _ _ _ _ _ _ 9 [(0, .ref 322), (1, .ref 1), (2, .int x2), (3, .int x3), (4, .long (((L 324 (((x2 * 3) + x7).toNatClampNeg)) * ((r2 : Int32).toInt64)) * 0)), (6, .int x7), (7, .int (x7 + 1)), (8, .long (((L 324 (((x2 * 3) + x7).toNatClampNeg)) * ((r2 : Int32).toInt64)) * 0))] [] (HS I2 L2 X)
                refine Wp.sub [0, 1, 2, 3, 4, 5, 6] (ls2 := [(0, .ref 322), (1, .ref 1), (2, .int x2), (3, .int x3), (4, .long (((L 324 (((x2 * 3) + x7).toNatClampNeg)) * ((r2 : Int32).toInt64)) * 0)), (6, .int x7), (7, .int (x7 + 1))]) rfl ?_
                exact ih _ _ _ _ _ _ _ q
            · have c6 : 0 ≤ x3 ∧ x3 ≤ 2 := bI_1.mp c6
              rw [if_pos c6] at q
              refine w_aload_n (Ev.cm _) rfl rfl ?_
              refine w_getR (q := 131) (Ev.cm _) rfl (Nat.le_of_ble_eq_true rfl) rfl rfl ?_
              refine w_iload_n (Ev.cm _) rfl rfl ?_
              refine w_iconst (Ev.cm _) rfl ?_
              refine w_imul (Ev.cm _) rfl ?_
              refine w_iload (Ev.cm _) rfl rfl ?_
              refine w_iadd (Ev.cm _) rfl ?_
              obtain ⟨b3, q⟩ := ois q
              refine w_iald (Ev.cm _) rfl (Nat.le_of_ble_eq_true rfl) rfl (show vp_in ((x3 * 3) + x7) 9 from vpI 9 (by decide) b3.1 b3.2) ?_
              refine w_i2l (Ev.cm _) rfl ?_
              refine w_goto (Ev.cm _) rfl ?_
              refine w_lmul (Ev.cm _) rfl ?_
              refine w_lstore (ls2 := [(0, .ref 322), (1, .ref 1), (2, .int x2), (3, .int x3), (4, .long x4), (6, .int x6), (7, .int x7), (8, .long (((L 324 (((x2 * 3) + x7).toNatClampNeg)) * ((r2 : Int32).toInt64)) * (((I2 131 (((x3 * 3) + x7).toNatClampNeg)) : Int32).toInt64)))]) (Ev.cm _) rfl rfl ?_
              refine w_lload (Ev.cm _) rfl rfl ?_
              refine w_lload (Ev.cm _) rfl rfl ?_
              refine w_lcmp (Ev.cm _) rfl ?_
              refine w_if_le (Ev.cm _) rfl (fun c8 => ?_) (fun c8 => ?_)
              · have c8 : lg_cmp (((L 324 (((x2 * 3) + x7).toNatClampNeg)) * ((r2 : Int32).toInt64)) * (((I2 131 (((x3 * 3) + x7).toNatClampNeg)) : Int32).toInt64)) x4 ≤ 0 := c8
                rw [if_pos c8] at q
                refine w_iinc (ls2 := [(0, .ref 322), (1, .ref 1), (2, .int x2), (3, .int x3), (4, .long x4), (6, .int x6), (7, .int (x7 + 1)), (8, .long (((L 324 (((x2 * 3) + x7).toNatClampNeg)) * ((r2 : Int32).toInt64)) * (((I2 131 (((x3 * 3) + x7).toNatClampNeg)) : Int32).toInt64)))]) (Ev.cm _) rfl rfl rfl ?_
                refine w_goto (Ev.cm _) rfl ?_
                show Wp _ _ _ _ _ _ _ 9 [(0, .ref 322), (1, .ref 1), (2, .int x2), (3, .int x3), (4, .long x4), (6, .int x6), (7, .int (x7 + 1)), (8, .long (((L 324 (((x2 * 3) + x7).toNatClampNeg)) * ((r2 : Int32).toInt64)) * (((I2 131 (((x3 * 3) + x7).toNatClampNeg)) : Int32).toInt64)))] [] (HS I2 L2 X)
                refine Wp.sub [0, 1, 2, 3, 4, 5, 6] (ls2 := [(0, .ref 322), (1, .ref 1), (2, .int x2), (3, .int x3), (4, .long x4), (6, .int x6), (7, .int (x7 + 1))]) rfl ?_
                exact ih _ _ _ _ _ _ _ q
              · have c8 : ¬ (lg_cmp (((L 324 (((x2 * 3) + x7).toNatClampNeg)) * ((r2 : Int32).toInt64)) * (((I2 131 (((x3 * 3) + x7).toNatClampNeg)) : Int32).toInt64)) x4 ≤ 0) := c8
                rw [if_neg c8] at q
                refine w_lload (Ev.cm _) rfl rfl ?_
                refine w_lstore (ls2 := [(0, .ref 322), (1, .ref 1), (2, .int x2), (3, .int x3), (4, .long (((L 324 (((x2 * 3) + x7).toNatClampNeg)) * ((r2 : Int32).toInt64)) * (((I2 131 (((x3 * 3) + x7).toNatClampNeg)) : Int32).toInt64))), (6, .int x6), (7, .int x7), (8, .long (((L 324 (((x2 * 3) + x7).toNatClampNeg)) * ((r2 : Int32).toInt64)) * (((I2 131 (((x3 * 3) + x7).toNatClampNeg)) : Int32).toInt64)))]) (Ev.cm _) rfl rfl ?_
                refine w_iload (Ev.cm _) rfl rfl ?_
                refine w_istore (ls2 := [(0, .ref 322), (1, .ref 1), (2, .int x2), (3, .int x3), (4, .long (((L 324 (((x2 * 3) + x7).toNatClampNeg)) * ((r2 : Int32).toInt64)) * (((I2 131 (((x3 * 3) + x7).toNatClampNeg)) : Int32).toInt64))), (6, .int x7), (7, .int x7), (8, .long (((L 324 (((x2 * 3) + x7).toNatClampNeg)) * ((r2 : Int32).toInt64)) * (((I2 131 (((x3 * 3) + x7).toNatClampNeg)) : Int32).toInt64)))]) (Ev.cm _) rfl rfl ?_
                refine w_iinc (ls2 := [(0, .ref 322), (1, .ref 1), (2, .int x2), (3, .int x3), (4, .long (((L 324 (((x2 * 3) + x7).toNatClampNeg)) * ((r2 : Int32).toInt64)) * (((I2 131 (((x3 * 3) + x7).toNatClampNeg)) : Int32).toInt64))), (6, .int x7), (7, .int (x7 + 1)), (8, .long (((L 324 (((x2 * 3) + x7).toNatClampNeg)) * ((r2 : Int32).toInt64)) * (((I2 131 (((x3 * 3) + x7).toNatClampNeg)) : Int32).toInt64)))]) (Ev.cm _) rfl rfl rfl ?_
                refine w_goto (Ev.cm _) rfl ?_
                show Wp _ _ _ _ _ _ _ 9 [(0, .ref 322), (1, .ref 1), (2, .int x2), (3, .int x3), (4, .long (((L 324 (((x2 * 3) + x7).toNatClampNeg)) * ((r2 : Int32).toInt64)) * (((I2 131 (((x3 * 3) + x7).toNatClampNeg)) : Int32).toInt64))), (6, .int x7), (7, .int (x7 + 1)), (8, .long (((L 324 (((x2 * 3) + x7).toNatClampNeg)) * ((r2 : Int32).toInt64)) * (((I2 131 (((x3 * 3) + x7).toNatClampNeg)) : Int32).toInt64)))] [] (HS I2 L2 X)
                refine Wp.sub [0, 1, 2, 3, 4, 5, 6] (ls2 := [(0, .ref 322), (1, .ref 1), (2, .int x2), (3, .int x3), (4, .long (((L 324 (((x2 * 3) + x7).toNatClampNeg)) * ((r2 : Int32).toInt64)) * (((I2 131 (((x3 * 3) + x7).toNatClampNeg)) : Int32).toInt64))), (6, .int x7), (7, .int (x7 + 1))]) rfl ?_
                exact ih _ _ _ _ _ _ _ q
def FO_O_heaviestBehind (fu : Nat) (p1 : Int32) (p2 : Int32) (I : Nat → Nat → Int32) (L : Nat → Nat → Int64) : Option (Int32 × (Nat → Nat → Int32) × (Nat → Nat → Int64)) := LO_O_heaviestBehind_9 fu fu p1 p2 0 (-1) 0 I L
set_option maxHeartbeats 20000000 in
set_option maxRecDepth 20000 in
theorem eo_O_heaviestBehind {d fu : Nat} {p1 : Int32} {p2 : Int32} {I : Nat → Nat → Int32} {L : Nat → Nat → Int64} {X : Nat × (Nat → Int32)} {Q : PQ} {res : Int32 × (Nat → Nat → Int32) × (Nat → Nat → Int64)} (g : Q (some (.int res.1)) (HS res.2.1 res.2.2 X)) (q : FO_O_heaviestBehind fu p1 p2 I L = some res) : Ev (d + 4) m_O_heaviestBehind [.ref 322, .ref 1, .int p1, .int p2] (HS I L X) Q := by
  unfold FO_O_heaviestBehind at q
  refine ev_start (d := d + 3) rfl rfl rfl (Nat.le_of_ble_eq_true rfl) ?_
  show Wp (Ev (d + 3)) cd_O_heaviestBehind (0, 0) (some .int) _ _ Q 0 [(0, .ref 322), (1, .ref 1), (2, .int p1), (3, .int p2)] [] (HS I L X)
  refine w_lconst (Ev.cm _) rfl ?_
  refine w_lstore (ls2 := [(0, .ref 322), (1, .ref 1), (2, .int p1), (3, .int p2), (4, .long 0)]) (Ev.cm _) rfl rfl ?_
  refine w_iconst (Ev.cm _) rfl ?_
  refine w_istore (ls2 := [(0, .ref 322), (1, .ref 1), (2, .int p1), (3, .int p2), (4, .long 0), (6, .int (-1))]) (Ev.cm _) rfl rfl ?_
  refine w_iconst (Ev.cm _) rfl ?_
  refine w_istore (ls2 := [(0, .ref 322), (1, .ref 1), (2, .int p1), (3, .int p2), (4, .long 0), (6, .int (-1)), (7, .int 0)]) (Ev.cm _) rfl rfl ?_
  show Wp _ _ _ _ _ _ _ 9 [(0, .ref 322), (1, .ref 1), (2, .int p1), (3, .int p2), (4, .long 0), (6, .int (-1)), (7, .int 0)] [] (HS I L X)
  refine Wp.sub [0, 1, 2, 3, 4, 5, 6] (ls2 := [(0, .ref 322), (1, .ref 1), (2, .int p1), (3, .int p2), (4, .long 0), (6, .int (-1)), (7, .int 0)]) rfl ?_
  exact lo_O_heaviestBehind_9 g fu _ _ _ _ _ _ _ q
def LO_O_soundsNext_5 (fu : Nat) : Nat → Int32 → Int64 → Int32 → (Nat → Nat → Int32) → (Nat → Nat → Int64) → Option (Int64 × (Nat → Nat → Int32) × (Nat → Nat → Int64))
  | 0, _, _, _, _, _ => none
  | n + 1, x2, x3, x5, I, L => if 3 ≤ x5 then (some (x3, I, L)) else (if I 1 11 = 0 then (if 0 ≤ (x5 * 3) + x2 ∧ (x5 * 3) + x2 < 9 then (LO_O_soundsNext_5 fu n x2 (x3 + ((1 : Int64) * (((I 132 (((x5 * 3) + x2).toNatClampNeg)) : Int32).toInt64))) (x5 + 1) I L) else none) else ((FO_O_comesTo fu ((I 1 11) - 1) x5 I L).bind (fun u1 => let r1 := u1.1; let I1 := u1.2.1; let L1 := u1.2.2; if 0 ≤ (x5 * 3) + x2 ∧ (x5 * 3) + x2 < 9 then (LO_O_soundsNext_5 fu n x2 (x3 + (r1 * (((I1 132 (((x5 * 3) + x2).toNatClampNeg)) : Int32).toInt64))) (x5 + 1) I1 L1) else none)))
set_option maxHeartbeats 20000000 in
set_option maxRecDepth 20000 in
theorem lo_O_soundsNext_5 {d fu n0 s0 : Nat} {X : Nat × (Nat → Int32)} {Q : PQ} {res : Int64 × (Nat → Nat → Int32) × (Nat → Nat → Int64)} (g : Q (some (.long res.1)) (HS res.2.1 res.2.2 X)) : ∀ (n : Nat) (x2 : Int32) (x3 : Int64) (x5 : Int32) (I : Nat → Nat → Int32) (L : Nat → Nat → Int64), LO_O_soundsNext_5 fu n x2 x3 x5 I L = some res → Wp (Ev (d + 1)) cd_O_soundsNext (0, 0) (some .long) n0 s0 Q 5 [(0, .ref 322), (1, .ref 1), (2, .int x2), (3, .long x3), (5, .int x5)] [] (HS I L X) := by
  intro n
  induction n with
  | zero => intro _ _ _ _ _ q; cases q
  | succ n ih =>
    intro x2 x3 x5 I L q
    unfold LO_O_soundsNext_5 at q
    refine w_iload (Ev.cm _) rfl rfl ?_
    refine w_iconst (Ev.cm _) rfl ?_
    refine w_icmp_ge (Ev.cm _) rfl (fun c1 => ?_) (fun c1 => ?_)
    · have c1 : 3 ≤ x5 := c1
      rw [if_pos c1] at q
      refine w_lload_n (Ev.cm _) rfl rfl ?_
      refine w_lreturn (Ev.cm _) rfl rfl rf0 ?_
      cases q
      exact g
    · have c1 : ¬ (3 ≤ x5) := c1
      rw [if_neg c1] at q
      refine w_aload_n (Ev.cm _) rfl rfl ?_
      refine w_getI (Ev.cm _) rfl (Nat.le_of_ble_eq_true rfl) rfl ?_
      refine w_if_ne (Ev.cm _) rfl (fun c2 => ?_) (fun c2 => ?_)
      · have c2 : ¬ (I 1 11 = 0) := c2
        rw [if_neg c2] at q
        refine w_aload_n (Ev.cm _) rfl rfl ?_
        refine w_aload_n (Ev.cm _) rfl rfl ?_
        refine w_aload_n (Ev.cm _) rfl rfl ?_
        refine w_getI (Ev.cm _) rfl (Nat.le_of_ble_eq_true rfl) rfl ?_
        refine w_iconst (Ev.cm _) rfl ?_
        refine w_isub (Ev.cm _) rfl ?_
        refine w_iload (Ev.cm _) rfl rfl ?_
        obtain ⟨⟨r1, I1, L1⟩, e1, q⟩ := obs q
        dsimp only at q
        refine w_cvirt (o := 322) (as := [.ref 1, .int ((I 1 11) - 1), .int x5]) (st := []) (Ev.cm _) rfl rfl rfl (Nat.le_of_ble_eq_true rfl) (Nat.le_of_ble_eq_true rfl) rfl (Nat.le_of_ble_eq_true rfl) (eo_O_comesTo (g := ?_) e1)
        show Wp _ _ _ _ _ _ _ 35 [(0, .ref 322), (1, .ref 1), (2, .int x2), (3, .long x3), (5, .int x5)] [.long r1] (HS I1 L1 X)
        refine w_lstore (ls2 := [(0, .ref 322), (1, .ref 1), (2, .int x2), (3, .long x3), (5, .int x5), (6, .long r1)]) (Ev.cm _) rfl rfl ?_
        refine w_lload_n (Ev.cm _) rfl rfl ?_
        refine w_lload (Ev.cm _) rfl rfl ?_
        refine w_aload_n (Ev.cm _) rfl rfl ?_
        refine w_getR (q := 132) (Ev.cm _) rfl (Nat.le_of_ble_eq_true rfl) rfl rfl ?_
        refine w_iload (Ev.cm _) rfl rfl ?_
        refine w_iconst (Ev.cm _) rfl ?_
        refine w_imul (Ev.cm _) rfl ?_
        refine w_iload_n (Ev.cm _) rfl rfl ?_
        refine w_iadd (Ev.cm _) rfl ?_
        obtain ⟨b2, q⟩ := ois q
        refine w_iald (Ev.cm _) rfl (Nat.le_of_ble_eq_true rfl) rfl (show vp_in ((x5 * 3) + x2) 9 from vpI 9 (by decide) b2.1 b2.2) ?_
        refine w_i2l (Ev.cm _) rfl ?_
        refine w_lmul (Ev.cm _) rfl ?_
        refine w_ladd (Ev.cm _) rfl ?_
        refine w_lstore_n (ls2 := [(0, .ref 322), (1, .ref 1), (2, .int x2), (3, .long (x3 + (r1 * (((I1 132 (((x5 * 3) + x2).toNatClampNeg)) : Int32).toInt64)))), (5, .int x5), (6, .long r1)]) (Ev.cm _) rfl rfl ?_
        refine w_iinc (ls2 := [(0, .ref 322), (1, .ref 1), (2, .int x2), (3, .long (x3 + (r1 * (((I1 132 (((x5 * 3) + x2).toNatClampNeg)) : Int32).toInt64)))), (5, .int (x5 + 1)), (6, .long r1)]) (Ev.cm _) rfl rfl rfl ?_
        refine w_goto (Ev.cm _) rfl ?_
        show Wp _ _ _ _ _ _ _ 5 [(0, .ref 322), (1, .ref 1), (2, .int x2), (3, .long (x3 + (r1 * (((I1 132 (((x5 * 3) + x2).toNatClampNeg)) : Int32).toInt64)))), (5, .int (x5 + 1)), (6, .long r1)] [] (HS I1 L1 X)
        refine Wp.sub [0, 1, 2, 3, 4] (ls2 := [(0, .ref 322), (1, .ref 1), (2, .int x2), (3, .long (x3 + (r1 * (((I1 132 (((x5 * 3) + x2).toNatClampNeg)) : Int32).toInt64)))), (5, .int (x5 + 1))]) rfl ?_
        exact ih _ _ _ _ _ q
      · have c2 : I 1 11 = 0 := c2
        rw [if_pos c2] at q
        refine w_lconst (Ev.cm _) rfl ?_
        refine w_goto (Ev.cm _) rfl ?_
        refine w_lstore (ls2 := [(0, .ref 322), (1, .ref 1), (2, .int x2), (3, .long x3), (5, .int x5), (6, .long 1)]) (Ev.cm _) rfl rfl ?_
        refine w_lload_n (Ev.cm _) rfl rfl ?_
        refine w_lload (Ev.cm _) rfl rfl ?_
        refine w_aload_n (Ev.cm _) rfl rfl ?_
        refine w_getR (q := 132) (Ev.cm _) rfl (Nat.le_of_ble_eq_true rfl) rfl rfl ?_
        refine w_iload (Ev.cm _) rfl rfl ?_
        refine w_iconst (Ev.cm _) rfl ?_
        refine w_imul (Ev.cm _) rfl ?_
        refine w_iload_n (Ev.cm _) rfl rfl ?_
        refine w_iadd (Ev.cm _) rfl ?_
        obtain ⟨b3, q⟩ := ois q
        refine w_iald (Ev.cm _) rfl (Nat.le_of_ble_eq_true rfl) rfl (show vp_in ((x5 * 3) + x2) 9 from vpI 9 (by decide) b3.1 b3.2) ?_
        refine w_i2l (Ev.cm _) rfl ?_
        refine w_lmul (Ev.cm _) rfl ?_
        refine w_ladd (Ev.cm _) rfl ?_
        refine w_lstore_n (ls2 := [(0, .ref 322), (1, .ref 1), (2, .int x2), (3, .long (x3 + ((1 : Int64) * (((I 132 (((x5 * 3) + x2).toNatClampNeg)) : Int32).toInt64)))), (5, .int x5), (6, .long 1)]) (Ev.cm _) rfl rfl ?_
        refine w_iinc (ls2 := [(0, .ref 322), (1, .ref 1), (2, .int x2), (3, .long (x3 + ((1 : Int64) * (((I 132 (((x5 * 3) + x2).toNatClampNeg)) : Int32).toInt64)))), (5, .int (x5 + 1)), (6, .long 1)]) (Ev.cm _) rfl rfl rfl ?_
        refine w_goto (Ev.cm _) rfl ?_
        show Wp _ _ _ _ _ _ _ 5 [(0, .ref 322), (1, .ref 1), (2, .int x2), (3, .long (x3 + ((1 : Int64) * (((I 132 (((x5 * 3) + x2).toNatClampNeg)) : Int32).toInt64)))), (5, .int (x5 + 1)), (6, .long 1)] [] (HS I L X)
        refine Wp.sub [0, 1, 2, 3, 4] (ls2 := [(0, .ref 322), (1, .ref 1), (2, .int x2), (3, .long (x3 + ((1 : Int64) * (((I 132 (((x5 * 3) + x2).toNatClampNeg)) : Int32).toInt64)))), (5, .int (x5 + 1))]) rfl ?_
        exact ih _ _ _ _ _ q
def FO_O_soundsNext (fu : Nat) (p1 : Int32) (I : Nat → Nat → Int32) (L : Nat → Nat → Int64) : Option (Int64 × (Nat → Nat → Int32) × (Nat → Nat → Int64)) := LO_O_soundsNext_5 fu fu p1 0 0 I L
set_option maxHeartbeats 20000000 in
set_option maxRecDepth 20000 in
theorem eo_O_soundsNext {d fu : Nat} {p1 : Int32} {I : Nat → Nat → Int32} {L : Nat → Nat → Int64} {X : Nat × (Nat → Int32)} {Q : PQ} {res : Int64 × (Nat → Nat → Int32) × (Nat → Nat → Int64)} (g : Q (some (.long res.1)) (HS res.2.1 res.2.2 X)) (q : FO_O_soundsNext fu p1 I L = some res) : Ev (d + 2) m_O_soundsNext [.ref 322, .ref 1, .int p1] (HS I L X) Q := by
  unfold FO_O_soundsNext at q
  refine ev_start (d := d + 1) rfl rfl rfl (Nat.le_of_ble_eq_true rfl) ?_
  show Wp (Ev (d + 1)) cd_O_soundsNext (0, 0) (some .long) _ _ Q 0 [(0, .ref 322), (1, .ref 1), (2, .int p1)] [] (HS I L X)
  refine w_lconst (Ev.cm _) rfl ?_
  refine w_lstore_n (ls2 := [(0, .ref 322), (1, .ref 1), (2, .int p1), (3, .long 0)]) (Ev.cm _) rfl rfl ?_
  refine w_iconst (Ev.cm _) rfl ?_
  refine w_istore (ls2 := [(0, .ref 322), (1, .ref 1), (2, .int p1), (3, .long 0), (5, .int 0)]) (Ev.cm _) rfl rfl ?_
  show Wp _ _ _ _ _ _ _ 5 [(0, .ref 322), (1, .ref 1), (2, .int p1), (3, .long 0), (5, .int 0)] [] (HS I L X)
  refine Wp.sub [0, 1, 2, 3, 4] (ls2 := [(0, .ref 322), (1, .ref 1), (2, .int p1), (3, .long 0), (5, .int 0)]) rfl ?_
  exact lo_O_soundsNext_5 g fu _ _ _ _ _ q
def FO_O_goesOn (fu : Nat) (p1 : Int32) (p2 : Int32) (p3 : Int32) (I : Nat → Nat → Int32) (L : Nat → Nat → Int64) : Option (Int64 × (Nat → Nat → Int32) × (Nat → Nat → Int64)) := if (0 : Int32) ≤ (((p1 + 1) * 3) + p3) ∧ (((p1 + 1) * 3) + p3) ≤ (17 : Int32) then (if 0 ≤ ((p1 + 1) * 3) + p3 ∧ ((p1 + 1) * 3) + p3 < 18 then (if 0 ≤ (p2 * 3) + p3 ∧ (p2 * 3) + p3 < 9 then ((FO_O_soundWeight fu (p1 + 1) p3 I L).bind (fun u3 => let r3 := u3.1; let I3 := u3.2.1; let L3 := u3.2.2; some (((L 324 ((((p1 + 1) * 3) + p3).toNatClampNeg)) * (((I 131 (((p2 * 3) + p3).toNatClampNeg)) : Int32).toInt64)) * ((r3 : Int32).toInt64), I3, L3))) else none) else none) else (some (0, I, L))
set_option maxHeartbeats 20000000 in
set_option maxRecDepth 20000 in
theorem eo_O_goesOn {d fu : Nat} {p1 : Int32} {p2 : Int32} {p3 : Int32} {I : Nat → Nat → Int32} {L : Nat → Nat → Int64} {X : Nat × (Nat → Int32)} {Q : PQ} {res : Int64 × (Nat → Nat → Int32) × (Nat → Nat → Int64)} (g : Q (some (.long res.1)) (HS res.2.1 res.2.2 X)) (q : FO_O_goesOn fu p1 p2 p3 I L = some res) : Ev (d + 4) m_O_goesOn [.ref 322, .ref 1, .int p1, .int p2, .int p3] (HS I L X) Q := by
  unfold FO_O_goesOn at q
  refine ev_start (d := d + 3) rfl rfl rfl (Nat.le_of_ble_eq_true rfl) ?_
  show Wp (Ev (d + 3)) cd_O_goesOn (0, 0) (some .long) _ _ Q 0 [(0, .ref 322), (1, .ref 1), (2, .int p1), (3, .int p2), (4, .int p3)] [] (HS I L X)
  refine w_iload_n (Ev.cm _) rfl rfl ?_
  refine w_iconst (Ev.cm _) rfl ?_
  refine w_iadd (Ev.cm _) rfl ?_
  refine w_iconst (Ev.cm _) rfl ?_
  refine w_imul (Ev.cm _) rfl ?_
  refine w_iload (Ev.cm _) rfl rfl ?_
  refine w_iadd (Ev.cm _) rfl ?_
  refine w_istore (ls2 := [(0, .ref 322), (1, .ref 1), (2, .int p1), (3, .int p2), (4, .int p3), (5, .int (((p1 + 1) * 3) + p3))]) (Ev.cm _) rfl rfl ?_
  refine w_iload (Ev.cm _) rfl rfl ?_
  refine w_iconst (Ev.cm _) rfl ?_
  refine w_bipush (Ev.cm _) rfl ?_
  refine w_cnest (as := [.int (((p1 + 1) * 3) + p3), .int 0, .int 17]) (st := []) (Ev.cm _) rfl rfl rfl (Nat.le_of_ble_eq_true rfl) (Nat.le_of_ble_eq_true rfl) (x_within ?_)
  show Wp _ _ _ _ _ _ _ 18 [(0, .ref 322), (1, .ref 1), (2, .int p1), (3, .int p2), (4, .int p3), (5, .int (((p1 + 1) * 3) + p3))] [.int (bI ((0 : Int32) ≤ (((p1 + 1) * 3) + p3) ∧ (((p1 + 1) * 3) + p3) ≤ (17 : Int32)))] (HS I L X)
  refine w_if_ne (Ev.cm _) rfl (fun c1 => ?_) (fun c1 => ?_)
  · have c1 : (0 : Int32) ≤ (((p1 + 1) * 3) + p3) ∧ (((p1 + 1) * 3) + p3) ≤ (17 : Int32) := bI_1.mp c1
    rw [if_pos c1] at q
    refine w_aload_n (Ev.cm _) rfl rfl ?_
    refine w_getR (q := 324) (Ev.cm _) rfl (Nat.le_of_ble_eq_true rfl) rfl rfl ?_
    refine w_iload (Ev.cm _) rfl rfl ?_
    obtain ⟨b1, q⟩ := ois q
    refine w_lald (Ev.cm _) rfl (Nat.le_of_ble_eq_true rfl) rfl (show vp_in (((p1 + 1) * 3) + p3) 18 from vpI 18 (by decide) b1.1 b1.2) ?_
    refine w_aload_n (Ev.cm _) rfl rfl ?_
    refine w_getR (q := 131) (Ev.cm _) rfl (Nat.le_of_ble_eq_true rfl) rfl rfl ?_
    refine w_iload_n (Ev.cm _) rfl rfl ?_
    refine w_iconst (Ev.cm _) rfl ?_
    refine w_imul (Ev.cm _) rfl ?_
    refine w_iload (Ev.cm _) rfl rfl ?_
    refine w_iadd (Ev.cm _) rfl ?_
    obtain ⟨b2, q⟩ := ois q
    refine w_iald (Ev.cm _) rfl (Nat.le_of_ble_eq_true rfl) rfl (show vp_in ((p2 * 3) + p3) 9 from vpI 9 (by decide) b2.1 b2.2) ?_
    refine w_i2l (Ev.cm _) rfl ?_
    refine w_lmul (Ev.cm _) rfl ?_
    refine w_aload_n (Ev.cm _) rfl rfl ?_
    refine w_iload_n (Ev.cm _) rfl rfl ?_
    refine w_iconst (Ev.cm _) rfl ?_
    refine w_iadd (Ev.cm _) rfl ?_
    refine w_iload (Ev.cm _) rfl rfl ?_
    obtain ⟨⟨r3, I3, L3⟩, e3, q⟩ := obs q
    dsimp only at q
    refine w_cstat (as := [.ref 1, .int (p1 + 1), .int p3]) (st := [.long ((L 324 ((((p1 + 1) * 3) + p3).toNatClampNeg)) * (((I 131 (((p2 * 3) + p3).toNatClampNeg)) : Int32).toInt64))]) (Ev.cm _) rfl rfl rfl (Nat.le_of_ble_eq_true rfl) (Nat.le_of_ble_eq_true rfl) (eo_O_soundWeight (g := ?_) e3)
    show Wp _ _ _ _ _ _ _ 52 [(0, .ref 322), (1, .ref 1), (2, .int p1), (3, .int p2), (4, .int p3), (5, .int (((p1 + 1) * 3) + p3))] [.int r3, .long ((L 324 ((((p1 + 1) * 3) + p3).toNatClampNeg)) * (((I 131 (((p2 * 3) + p3).toNatClampNeg)) : Int32).toInt64))] (HS I3 L3 X)
    refine w_i2l (Ev.cm _) rfl ?_
    refine w_lmul (Ev.cm _) rfl ?_
    refine w_lreturn (Ev.cm _) rfl rfl rf0 ?_
    cases q
    exact g
  · have c1 : ¬ ((0 : Int32) ≤ (((p1 + 1) * 3) + p3) ∧ (((p1 + 1) * 3) + p3) ≤ (17 : Int32)) := bI_0.mp c1
    rw [if_neg c1] at q
    refine w_lconst (Ev.cm _) rfl ?_
    refine w_lreturn (Ev.cm _) rfl rfl rf0 ?_
    cases q
    exact g
def FO_R_readPair (fu : Nat) (p0 : Int32) (p1 : Int32) (p2 : Int32) (p3 : Int32) (p4 : Int32) (I : Nat → Nat → Int32) (L : Nat → Nat → Int64) : Option (Int32 × (Nat → Nat → Int32) × (Nat → Nat → Int64)) := (FO_R_passNumber fu 1 p1 I L).bind (fun u1 => let r1 := u1.1; let I1 := u1.2.1; let L1 := u1.2.2; if r1 = 0 then (some (0, I1, L1)) else ((FO_R_pass fu p2 I1 L1).bind (fun u2 => let r2 := u2.1; let I2 := u2.2.1; let L2 := u2.2.2; if r2 = 0 then (some (0, I2, L2)) else ((FO_T_addClause fu p0 (I 307 10) (I2 307 10) I2 L2).bind (fun u3 => let r3 := u3.1; let I3 := u3.2.1; let L3 := u3.2.2; (FO_R_passNumber fu p3 p4 I3 L3).bind (fun u4 => let r4 := u4.1; let I4 := u4.2.1; let L4 := u4.2.2; if r4 = 0 ∨ r4 = 1 then (some (r4, I4, L4)) else none))))))
set_option maxHeartbeats 20000000 in
set_option maxRecDepth 20000 in
theorem eo_R_readPair {d fu : Nat} {p0 : Int32} {p1 : Int32} {p2 : Int32} {p3 : Int32} {p4 : Int32} {I : Nat → Nat → Int32} {L : Nat → Nat → Int64} {X : Nat × (Nat → Int32)} {Q : PQ} {res : Int32 × (Nat → Nat → Int32) × (Nat → Nat → Int64)} (g : Q (some (.int res.1)) (HS res.2.1 res.2.2 X)) (q : FO_R_readPair fu p0 p1 p2 p3 p4 I L = some res) : Ev (d + 4) m_R_readPair [.ref 307, .int p0, .int p1, .int p2, .int p3, .int p4] (HS I L X) Q := by
  unfold FO_R_readPair at q
  refine ev_start (d := d + 3) rfl rfl rfl (Nat.le_of_ble_eq_true rfl) ?_
  show Wp (Ev (d + 3)) cd_R_readPair (0, 0) (some .boolean) _ _ Q 0 [(0, .ref 307), (1, .int p0), (2, .int p1), (3, .int p2), (4, .int p3), (5, .int p4)] [] (HS I L X)
  refine w_aload_n (Ev.cm _) rfl rfl ?_
  refine w_getI (Ev.cm _) rfl (Nat.le_of_ble_eq_true rfl) rfl ?_
  refine w_istore (ls2 := [(0, .ref 307), (1, .int p0), (2, .int p1), (3, .int p2), (4, .int p3), (5, .int p4), (6, .int (I 307 10))]) (Ev.cm _) rfl rfl ?_
  refine w_aload_n (Ev.cm _) rfl rfl ?_
  refine w_iconst (Ev.cm _) rfl ?_
  refine w_iload_n (Ev.cm _) rfl rfl ?_
  obtain ⟨⟨r1, I1, L1⟩, e1, q⟩ := obs q
  dsimp only at q
  refine w_cvirt (o := 307) (as := [.int 1, .int p1]) (st := []) (Ev.cm _) rfl rfl rfl (Nat.le_of_ble_eq_true rfl) (Nat.le_of_ble_eq_true rfl) rfl (Nat.le_of_ble_eq_true rfl) (eo_R_passNumber (g := ?_) e1)
  show Wp _ _ _ _ _ _ _ 12 [(0, .ref 307), (1, .int p0), (2, .int p1), (3, .int p2), (4, .int p3), (5, .int p4), (6, .int (I 307 10))] [.int r1] (HS I1 L1 X)
  refine w_if_eq (Ev.cm _) rfl (fun c1 => ?_) (fun c1 => ?_)
  · have c1 : r1 = 0 := c1
    rw [if_pos c1] at q
    refine w_iconst (Ev.cm _) rfl ?_
    refine w_ireturn (Ev.cm _) rfl (by first | exact rok_0 | exact rok_1 | exact rok_b) rf0 ?_
    cases q
    exact g
  · have c1 : ¬ (r1 = 0) := c1
    rw [if_neg c1] at q
    refine w_aload_n (Ev.cm _) rfl rfl ?_
    refine w_iload_n (Ev.cm _) rfl rfl ?_
    obtain ⟨⟨r2, I2, L2⟩, e2, q⟩ := obs q
    dsimp only at q
    refine w_cvirt (o := 307) (as := [.int p2]) (st := []) (Ev.cm _) rfl rfl rfl (Nat.le_of_ble_eq_true rfl) (Nat.le_of_ble_eq_true rfl) rfl (Nat.le_of_ble_eq_true rfl) (eo_R_pass (g := ?_) e2)
    show Wp _ _ _ _ _ _ _ 20 [(0, .ref 307), (1, .int p0), (2, .int p1), (3, .int p2), (4, .int p3), (5, .int p4), (6, .int (I 307 10))] [.int r2] (HS I2 L2 X)
    refine w_if_ne (Ev.cm _) rfl (fun c2 => ?_) (fun c2 => ?_)
    · have c2 : ¬ (r2 = 0) := c2
      rw [if_neg c2] at q
      refine w_aload_n (Ev.cm _) rfl rfl ?_
      refine w_getR (q := 308) (Ev.cm _) rfl (Nat.le_of_ble_eq_true rfl) rfl rfl ?_
      refine w_iload_n (Ev.cm _) rfl rfl ?_
      refine w_iload (Ev.cm _) rfl rfl ?_
      refine w_aload_n (Ev.cm _) rfl rfl ?_
      refine w_getI (Ev.cm _) rfl (Nat.le_of_ble_eq_true rfl) rfl ?_
      obtain ⟨⟨r3, I3, L3⟩, e3, q⟩ := obs q
      dsimp only at q
      refine w_cvirt (o := 308) (as := [.int p0, .int (I 307 10), .int (I2 307 10)]) (st := []) (Ev.cm _) rfl rfl rfl (Nat.le_of_ble_eq_true rfl) (Nat.le_of_ble_eq_true rfl) rfl (Nat.le_of_ble_eq_true rfl) (eo_T_addClause (g := ?_) e3)
      show Wp _ _ _ _ _ _ _ 39 [(0, .ref 307), (1, .int p0), (2, .int p1), (3, .int p2), (4, .int p3), (5, .int p4), (6, .int (I 307 10))] [] (HS I3 L3 X)
      refine w_aload_n (Ev.cm _) rfl rfl ?_
      refine w_iload (Ev.cm _) rfl rfl ?_
      refine w_iload (Ev.cm _) rfl rfl ?_
      obtain ⟨⟨r4, I4, L4⟩, e4, q⟩ := obs q
      dsimp only at q
      refine w_cvirt (o := 307) (as := [.int p3, .int p4]) (st := []) (Ev.cm _) rfl rfl rfl (Nat.le_of_ble_eq_true rfl) (Nat.le_of_ble_eq_true rfl) rfl (Nat.le_of_ble_eq_true rfl) (eo_R_passNumber (g := ?_) e4)
      show Wp _ _ _ _ _ _ _ 47 [(0, .ref 307), (1, .int p0), (2, .int p1), (3, .int p2), (4, .int p3), (5, .int p4), (6, .int (I 307 10))] [.int r4] (HS I4 L4 X)
      obtain ⟨b5, q⟩ := ois q
      refine w_ireturn (Ev.cm _) rfl (show rok (some .boolean) _ from b5) rf0 ?_
      cases q
      exact g
    · have c2 : r2 = 0 := c2
      rw [if_pos c2] at q
      refine w_iconst (Ev.cm _) rfl ?_
      refine w_ireturn (Ev.cm _) rfl (by first | exact rok_0 | exact rok_1 | exact rok_b) rf0 ?_
      cases q
      exact g
def FO_R_readSingle (fu : Nat) (p0 : Int32) (p1 : Int32) (I : Nat → Nat → Int32) (L : Nat → Nat → Int64) : Option (Int32 × (Nat → Nat → Int32) × (Nat → Nat → Int64)) := (FO_T_addClause fu p0 (I 307 10) 0 I L).bind (fun u1 => let r1 := u1.1; let I1 := u1.2.1; let L1 := u1.2.2; (FO_R_passNumber fu 1 p1 I1 L1).bind (fun u2 => let r2 := u2.1; let I2 := u2.2.1; let L2 := u2.2.2; if r2 = 0 ∨ r2 = 1 then (some (r2, I2, L2)) else none))
set_option maxHeartbeats 20000000 in
set_option maxRecDepth 20000 in
theorem eo_R_readSingle {d fu : Nat} {p0 : Int32} {p1 : Int32} {I : Nat → Nat → Int32} {L : Nat → Nat → Int64} {X : Nat × (Nat → Int32)} {Q : PQ} {res : Int32 × (Nat → Nat → Int32) × (Nat → Nat → Int64)} (g : Q (some (.int res.1)) (HS res.2.1 res.2.2 X)) (q : FO_R_readSingle fu p0 p1 I L = some res) : Ev (d + 4) m_R_readSingle [.ref 307, .int p0, .int p1] (HS I L X) Q := by
  unfold FO_R_readSingle at q
  refine ev_start (d := d + 3) rfl rfl rfl (Nat.le_of_ble_eq_true rfl) ?_
  show Wp (Ev (d + 3)) cd_R_readSingle (0, 0) (some .boolean) _ _ Q 0 [(0, .ref 307), (1, .int p0), (2, .int p1)] [] (HS I L X)
  refine w_aload_n (Ev.cm _) rfl rfl ?_
  refine w_getR (q := 308) (Ev.cm _) rfl (Nat.le_of_ble_eq_true rfl) rfl rfl ?_
  refine w_iload_n (Ev.cm _) rfl rfl ?_
  refine w_aload_n (Ev.cm _) rfl rfl ?_
  refine w_getI (Ev.cm _) rfl (Nat.le_of_ble_eq_true rfl) rfl ?_
  refine w_iconst (Ev.cm _) rfl ?_
  obtain ⟨⟨r1, I1, L1⟩, e1, q⟩ := obs q
  dsimp only at q
  refine w_cvirt (o := 308) (as := [.int p0, .int (I 307 10), .int 0]) (st := []) (Ev.cm _) rfl rfl rfl (Nat.le_of_ble_eq_true rfl) (Nat.le_of_ble_eq_true rfl) rfl (Nat.le_of_ble_eq_true rfl) (eo_T_addClause (g := ?_) e1)
  show Wp _ _ _ _ _ _ _ 13 [(0, .ref 307), (1, .int p0), (2, .int p1)] [] (HS I1 L1 X)
  refine w_aload_n (Ev.cm _) rfl rfl ?_
  refine w_iconst (Ev.cm _) rfl ?_
  refine w_iload_n (Ev.cm _) rfl rfl ?_
  obtain ⟨⟨r2, I2, L2⟩, e2, q⟩ := obs q
  dsimp only at q
  refine w_cvirt (o := 307) (as := [.int 1, .int p1]) (st := []) (Ev.cm _) rfl rfl rfl (Nat.le_of_ble_eq_true rfl) (Nat.le_of_ble_eq_true rfl) rfl (Nat.le_of_ble_eq_true rfl) (eo_R_passNumber (g := ?_) e2)
  show Wp _ _ _ _ _ _ _ 19 [(0, .ref 307), (1, .int p0), (2, .int p1)] [.int r2] (HS I2 L2 X)
  obtain ⟨b3, q⟩ := ois q
  refine w_ireturn (Ev.cm _) rfl (show rok (some .boolean) _ from b3) rf0 ?_
  cases q
  exact g
def FO_X_lodger (fu : Nat) (p0 : Int32) (p1 : Int32) (I : Nat → Nat → Int32) (L : Nat → Nat → Int64) : Option (Int32 × (Nat → Nat → Int32) × (Nat → Nat → Int64)) := if (1 : Int32) ≤ p0 ∧ p0 ≤ (9 : Int32) then (if 1 ≤ p1 ∧ p1 ≤ 12 then ((FO_X_moveIn fu p0 p1 I L).bind (fun u1 => let r1 := u1.1; let I1 := u1.2.1; let L1 := u1.2.2; some (r1, I1, L1))) else (some ((-1), I, L))) else (some ((-1), I, L))
set_option maxHeartbeats 20000000 in
set_option maxRecDepth 20000 in
theorem eo_X_lodger {d fu : Nat} {p0 : Int32} {p1 : Int32} {I : Nat → Nat → Int32} {L : Nat → Nat → Int64} {X : Nat × (Nat → Int32)} {Q : PQ} {res : Int32 × (Nat → Nat → Int32) × (Nat → Nat → Int64)} (g : Q (some (.int res.1)) (HS res.2.1 res.2.2 X)) (q : FO_X_lodger fu p0 p1 I L = some res) : Ev (d + 3) m_X_lodger [.ref 0, .int p0, .int p1] (HS I L X) Q := by
  unfold FO_X_lodger at q
  refine ev_start (d := d + 2) rfl rfl rfl (Nat.le_of_ble_eq_true rfl) ?_
  show Wp (Ev (d + 2)) cd_X_lodger (0, 0) (some .int) _ _ Q 0 [(0, .ref 0), (1, .int p0), (2, .int p1)] [] (HS I L X)
  refine w_iload_n (Ev.cm _) rfl rfl ?_
  refine w_iconst (Ev.cm _) rfl ?_
  refine w_bipush (Ev.cm _) rfl ?_
  refine w_cstat (as := [.int p0, .int 1, .int 9]) (st := []) (Ev.cm _) rfl rfl rfl (Nat.le_of_ble_eq_true rfl) (Nat.le_of_ble_eq_true rfl) (x_within ?_)
  show Wp _ _ _ _ _ _ _ 7 [(0, .ref 0), (1, .int p0), (2, .int p1)] [.int (bI ((1 : Int32) ≤ p0 ∧ p0 ≤ (9 : Int32)))] (HS I L X)
  refine w_if_eq (Ev.cm _) rfl (fun c1 => ?_) (fun c1 => ?_)
  · have c1 : ¬ ((1 : Int32) ≤ p0 ∧ p0 ≤ (9 : Int32)) := bI_0.mp c1
    rw [if_neg c1] at q
    refine w_iconst (Ev.cm _) rfl ?_
    refine w_ireturn (Ev.cm _) rfl trivial rf0 ?_
    cases q
    exact g
  · have c1 : (1 : Int32) ≤ p0 ∧ p0 ≤ (9 : Int32) := bI_1.mp c1
    rw [if_pos c1] at q
    refine w_iload_n (Ev.cm _) rfl rfl ?_
    refine w_cstat (as := [.int p1]) (st := []) (Ev.cm _) rfl rfl rfl (Nat.le_of_ble_eq_true rfl) (Nat.le_of_ble_eq_true rfl) (x_isStair ?_)
    show Wp _ _ _ _ _ _ _ 14 [(0, .ref 0), (1, .int p0), (2, .int p1)] [.int (bI (1 ≤ p1 ∧ p1 ≤ 12))] (HS I L X)
    refine w_if_ne (Ev.cm _) rfl (fun c2 => ?_) (fun c2 => ?_)
    · have c2 : 1 ≤ p1 ∧ p1 ≤ 12 := bI_1.mp c2
      rw [if_pos c2] at q
      refine w_aload_n (Ev.cm _) rfl rfl ?_
      refine w_iload_n (Ev.cm _) rfl rfl ?_
      refine w_iload_n (Ev.cm _) rfl rfl ?_
      obtain ⟨⟨r1, I1, L1⟩, e1, q⟩ := obs q
      dsimp only at q
      refine w_cvirt (o := 0) (as := [.int p0, .int p1]) (st := []) (Ev.cm _) rfl rfl rfl (Nat.le_of_ble_eq_true rfl) (Nat.le_of_ble_eq_true rfl) rfl (Nat.le_of_ble_eq_true rfl) (eo_X_moveIn (g := ?_) e1)
      show Wp _ _ _ _ _ _ _ 25 [(0, .ref 0), (1, .int p0), (2, .int p1)] [.int r1] (HS I1 L1 X)
      refine w_ireturn (Ev.cm _) rfl trivial rf0 ?_
      cases q
      exact g
    · have c2 : ¬ (1 ≤ p1 ∧ p1 ≤ 12) := bI_0.mp c2
      rw [if_neg c2] at q
      refine w_iconst (Ev.cm _) rfl ?_
      refine w_ireturn (Ev.cm _) rfl trivial rf0 ?_
      cases q
      exact g
def FO_X_feed (fu : Nat) (p0 : Int32) (p1 : Int32) (p2 : Int32) (p3 : Int32) (p4 : Int32) (I : Nat → Nat → Int32) (L : Nat → Nat → Int64) : Option (Int32 × (Nat → Nat → Int32) × (Nat → Nat → Int64)) := if I 0 4 < 0 then (some ((-1), I, L)) else (if (I 0 4) + 20 ≤ 300 then ((FO_X_putFour fu p0 I L).bind (fun u1 => let r1 := u1.1; let I1 := u1.2.1; let L1 := u1.2.2; (FO_X_putFour fu p1 I1 L1).bind (fun u2 => let r2 := u2.1; let I2 := u2.2.1; let L2 := u2.2.2; (FO_X_putFour fu p2 I2 L2).bind (fun u3 => let r3 := u3.1; let I3 := u3.2.1; let L3 := u3.2.2; (FO_X_putFour fu p3 I3 L3).bind (fun u4 => let r4 := u4.1; let I4 := u4.2.1; let L4 := u4.2.2; (FO_X_putFour fu p4 I4 L4).bind (fun u5 => let r5 := u5.1; let I5 := u5.2.1; let L5 := u5.2.2; some (I5 0 4, I5, L5))))))) else (some ((-1), I, L)))
set_option maxHeartbeats 20000000 in
set_option maxRecDepth 20000 in
theorem eo_X_feed {d fu : Nat} {p0 : Int32} {p1 : Int32} {p2 : Int32} {p3 : Int32} {p4 : Int32} {I : Nat → Nat → Int32} {L : Nat → Nat → Int64} {X : Nat × (Nat → Int32)} {Q : PQ} {res : Int32 × (Nat → Nat → Int32) × (Nat → Nat → Int64)} (g : Q (some (.int res.1)) (HS res.2.1 res.2.2 X)) (q : FO_X_feed fu p0 p1 p2 p3 p4 I L = some res) : Ev (d + 3) m_X_feed [.ref 0, .int p0, .int p1, .int p2, .int p3, .int p4] (HS I L X) Q := by
  unfold FO_X_feed at q
  refine ev_start (d := d + 2) rfl rfl rfl (Nat.le_of_ble_eq_true rfl) ?_
  show Wp (Ev (d + 2)) cd_X_feed (0, 0) (some .int) _ _ Q 0 [(0, .ref 0), (1, .int p0), (2, .int p1), (3, .int p2), (4, .int p3), (5, .int p4)] [] (HS I L X)
  refine w_aload_n (Ev.cm _) rfl rfl ?_
  refine w_getI (Ev.cm _) rfl (Nat.le_of_ble_eq_true rfl) rfl ?_
  refine w_if_lt (Ev.cm _) rfl (fun c1 => ?_) (fun c1 => ?_)
  · have c1 : I 0 4 < 0 := c1
    rw [if_pos c1] at q
    refine w_iconst (Ev.cm _) rfl ?_
    refine w_ireturn (Ev.cm _) rfl trivial rf0 ?_
    cases q
    exact g
  · have c1 : ¬ (I 0 4 < 0) := c1
    rw [if_neg c1] at q
    refine w_aload_n (Ev.cm _) rfl rfl ?_
    refine w_getI (Ev.cm _) rfl (Nat.le_of_ble_eq_true rfl) rfl ?_
    refine w_bipush (Ev.cm _) rfl ?_
    refine w_iadd (Ev.cm _) rfl ?_
    refine w_sipush (Ev.cm _) rfl ?_
    refine w_icmp_le (Ev.cm _) rfl (fun c2 => ?_) (fun c2 => ?_)
    · have c2 : (I 0 4) + 20 ≤ 300 := c2
      rw [if_pos c2] at q
      refine w_aload_n (Ev.cm _) rfl rfl ?_
      refine w_iload_n (Ev.cm _) rfl rfl ?_
      obtain ⟨⟨r1, I1, L1⟩, e1, q⟩ := obs q
      dsimp only at q
      refine w_cvirt (o := 0) (as := [.int p0]) (st := []) (Ev.cm _) rfl rfl rfl (Nat.le_of_ble_eq_true rfl) (Nat.le_of_ble_eq_true rfl) rfl (Nat.le_of_ble_eq_true rfl) (eo_X_putFour (g := ?_) e1)
      show Wp _ _ _ _ _ _ _ 27 [(0, .ref 0), (1, .int p0), (2, .int p1), (3, .int p2), (4, .int p3), (5, .int p4)] [] (HS I1 L1 X)
      refine w_aload_n (Ev.cm _) rfl rfl ?_
      refine w_iload_n (Ev.cm _) rfl rfl ?_
      obtain ⟨⟨r2, I2, L2⟩, e2, q⟩ := obs q
      dsimp only at q
      refine w_cvirt (o := 0) (as := [.int p1]) (st := []) (Ev.cm _) rfl rfl rfl (Nat.le_of_ble_eq_true rfl) (Nat.le_of_ble_eq_true rfl) rfl (Nat.le_of_ble_eq_true rfl) (eo_X_putFour (g := ?_) e2)
      show Wp _ _ _ _ _ _ _ 32 [(0, .ref 0), (1, .int p0), (2, .int p1), (3, .int p2), (4, .int p3), (5, .int p4)] [] (HS I2 L2 X)
      refine w_aload_n (Ev.cm _) rfl rfl ?_
      refine w_iload_n (Ev.cm _) rfl rfl ?_
      obtain ⟨⟨r3, I3, L3⟩, e3, q⟩ := obs q
      dsimp only at q
      refine w_cvirt (o := 0) (as := [.int p2]) (st := []) (Ev.cm _) rfl rfl rfl (Nat.le_of_ble_eq_true rfl) (Nat.le_of_ble_eq_true rfl) rfl (Nat.le_of_ble_eq_true rfl) (eo_X_putFour (g := ?_) e3)
      show Wp _ _ _ _ _ _ _ 37 [(0, .ref 0), (1, .int p0), (2, .int p1), (3, .int p2), (4, .int p3), (5, .int p4)] [] (HS I3 L3 X)
      refine w_aload_n (Ev.cm _) rfl rfl ?_
      refine w_iload (Ev.cm _) rfl rfl ?_
      obtain ⟨⟨r4, I4, L4⟩, e4, q⟩ := obs q
      dsimp only at q
      refine w_cvirt (o := 0) (as := [.int p3]) (st := []) (Ev.cm _) rfl rfl rfl (Nat.le_of_ble_eq_true rfl) (Nat.le_of_ble_eq_true rfl) rfl (Nat.le_of_ble_eq_true rfl) (eo_X_putFour (g := ?_) e4)
      show Wp _ _ _ _ _ _ _ 43 [(0, .ref 0), (1, .int p0), (2, .int p1), (3, .int p2), (4, .int p3), (5, .int p4)] [] (HS I4 L4 X)
      refine w_aload_n (Ev.cm _) rfl rfl ?_
      refine w_iload (Ev.cm _) rfl rfl ?_
      obtain ⟨⟨r5, I5, L5⟩, e5, q⟩ := obs q
      dsimp only at q
      refine w_cvirt (o := 0) (as := [.int p4]) (st := []) (Ev.cm _) rfl rfl rfl (Nat.le_of_ble_eq_true rfl) (Nat.le_of_ble_eq_true rfl) rfl (Nat.le_of_ble_eq_true rfl) (eo_X_putFour (g := ?_) e5)
      show Wp _ _ _ _ _ _ _ 49 [(0, .ref 0), (1, .int p0), (2, .int p1), (3, .int p2), (4, .int p3), (5, .int p4)] [] (HS I5 L5 X)
      refine w_aload_n (Ev.cm _) rfl rfl ?_
      refine w_getI (Ev.cm _) rfl (Nat.le_of_ble_eq_true rfl) rfl ?_
      refine w_ireturn (Ev.cm _) rfl trivial rf0 ?_
      cases q
      exact g
    · have c2 : ¬ ((I 0 4) + 20 ≤ 300) := c2
      rw [if_neg c2] at q
      refine w_iconst (Ev.cm _) rfl ?_
      refine w_ireturn (Ev.cm _) rfl trivial rf0 ?_
      cases q
      exact g
def LO_X_cupRow_6 (fu : Nat) : Nat → Int32 → Int32 → Int32 → (Nat → Nat → Int32) → (Nat → Nat → Int64) → Option (Int32 × (Nat → Nat → Int32) × (Nat → Nat → Int64))
  | 0, _, _, _, _, _ => none
  | n + 1, x1, x2, x3, I, L => if 12 < x3 then (some (x1, I, L)) else ((FO_X_hasCup fu x3 I L).bind (fun u1 => let r1 := u1.1; let I1 := u1.2.1; let L1 := u1.2.2; if r1 = 0 then (LO_X_cupRow_6 fu n (F_J_max I1 x1 0) 0 (x3 + 1) I1 L1) else (LO_X_cupRow_6 fu n (F_J_max I1 x1 (x2 + 1)) (x2 + 1) (x3 + 1) I1 L1)))
set_option maxHeartbeats 20000000 in
set_option maxRecDepth 20000 in
theorem lo_X_cupRow_6 {d fu n0 s0 : Nat} {X : Nat × (Nat → Int32)} {Q : PQ} {res : Int32 × (Nat → Nat → Int32) × (Nat → Nat → Int64)} (g : Q (some (.int res.1)) (HS res.2.1 res.2.2 X)) : ∀ (n : Nat) (x1 : Int32) (x2 : Int32) (x3 : Int32) (I : Nat → Nat → Int32) (L : Nat → Nat → Int64), LO_X_cupRow_6 fu n x1 x2 x3 I L = some res → Wp (Ev (d + 3)) cd_X_cupRow (0, 0) (some .int) n0 s0 Q 6 [(0, .ref 0), (1, .int x1), (2, .int x2), (3, .int x3)] [] (HS I L X) := by
  intro n
  induction n with
  | zero => intro _ _ _ _ _ q; cases q
  | succ n ih =>
    intro x1 x2 x3 I L q
    unfold LO_X_cupRow_6 at q
    refine w_iload_n (Ev.cm _) rfl rfl ?_
    refine w_bipush (Ev.cm _) rfl ?_
    refine w_icmp_gt (Ev.cm _) rfl (fun c1 => ?_) (fun c1 => ?_)
    · have c1 : 12 < x3 := c1
      rw [if_pos c1] at q
      refine w_iload_n (Ev.cm _) rfl rfl ?_
      refine w_ireturn (Ev.cm _) rfl trivial rf0 ?_
      cases q
      exact g
    · have c1 : ¬ (12 < x3) := c1
      rw [if_neg c1] at q
      refine w_aload_n (Ev.cm _) rfl rfl ?_
      refine w_iload_n (Ev.cm _) rfl rfl ?_
      obtain ⟨⟨r1, I1, L1⟩, e1, q⟩ := obs q
      dsimp only at q
      refine w_cvirt (o := 0) (as := [.int x3]) (st := []) (Ev.cm _) rfl rfl rfl (Nat.le_of_ble_eq_true rfl) (Nat.le_of_ble_eq_true rfl) rfl (Nat.le_of_ble_eq_true rfl) (eo_X_hasCup (g := ?_) e1)
      show Wp _ _ _ _ _ _ _ 17 [(0, .ref 0), (1, .int x1), (2, .int x2), (3, .int x3)] [.int r1] (HS I1 L1 X)
      refine w_if_eq (Ev.cm _) rfl (fun c2 => ?_) (fun c2 => ?_)
      · have c2 : r1 = 0 := c2
        rw [if_pos c2] at q
        refine w_iconst (Ev.cm _) rfl ?_
        refine w_istore_n (ls2 := [(0, .ref 0), (1, .int x1), (2, .int 0), (3, .int x3)]) (Ev.cm _) rfl rfl ?_
        refine w_iload_n (Ev.cm _) rfl rfl ?_
        refine w_iload_n (Ev.cm _) rfl rfl ?_
        refine w_cstat (as := [.int x1, .int 0]) (st := []) (Ev.cm _) rfl rfl rfl (Nat.le_of_ble_eq_true rfl) (Nat.le_of_ble_eq_true rfl) (e_J_max ?_)
        show Wp _ _ _ _ _ _ _ 33 [(0, .ref 0), (1, .int x1), (2, .int 0), (3, .int x3)] [.int (F_J_max I1 x1 0)] (HS I1 L1 X)
        refine w_istore_n (ls2 := [(0, .ref 0), (1, .int (F_J_max I1 x1 0)), (2, .int 0), (3, .int x3)]) (Ev.cm _) rfl rfl ?_
        refine w_iinc (ls2 := [(0, .ref 0), (1, .int (F_J_max I1 x1 0)), (2, .int 0), (3, .int (x3 + 1))]) (Ev.cm _) rfl rfl rfl ?_
        refine w_goto (Ev.cm _) rfl ?_
        show Wp _ _ _ _ _ _ _ 6 [(0, .ref 0), (1, .int (F_J_max I1 x1 0)), (2, .int 0), (3, .int (x3 + 1))] [] (HS I1 L1 X)
        refine Wp.sub [0, 1, 2, 3] (ls2 := [(0, .ref 0), (1, .int (F_J_max I1 x1 0)), (2, .int 0), (3, .int (x3 + 1))]) rfl ?_
        exact ih _ _ _ _ _ q
      · have c2 : ¬ (r1 = 0) := c2
        rw [if_neg c2] at q
        refine w_iload_n (Ev.cm _) rfl rfl ?_
        refine w_iconst (Ev.cm _) rfl ?_
        refine w_iadd (Ev.cm _) rfl ?_
        refine w_goto (Ev.cm _) rfl ?_
        refine w_istore_n (ls2 := [(0, .ref 0), (1, .int x1), (2, .int (x2 + 1)), (3, .int x3)]) (Ev.cm _) rfl rfl ?_
        refine w_iload_n (Ev.cm _) rfl rfl ?_
        refine w_iload_n (Ev.cm _) rfl rfl ?_
        refine w_cstat (as := [.int x1, .int (x2 + 1)]) (st := []) (Ev.cm _) rfl rfl rfl (Nat.le_of_ble_eq_true rfl) (Nat.le_of_ble_eq_true rfl) (e_J_max ?_)
        show Wp _ _ _ _ _ _ _ 33 [(0, .ref 0), (1, .int x1), (2, .int (x2 + 1)), (3, .int x3)] [.int (F_J_max I1 x1 (x2 + 1))] (HS I1 L1 X)
        refine w_istore_n (ls2 := [(0, .ref 0), (1, .int (F_J_max I1 x1 (x2 + 1))), (2, .int (x2 + 1)), (3, .int x3)]) (Ev.cm _) rfl rfl ?_
        refine w_iinc (ls2 := [(0, .ref 0), (1, .int (F_J_max I1 x1 (x2 + 1))), (2, .int (x2 + 1)), (3, .int (x3 + 1))]) (Ev.cm _) rfl rfl rfl ?_
        refine w_goto (Ev.cm _) rfl ?_
        show Wp _ _ _ _ _ _ _ 6 [(0, .ref 0), (1, .int (F_J_max I1 x1 (x2 + 1))), (2, .int (x2 + 1)), (3, .int (x3 + 1))] [] (HS I1 L1 X)
        refine Wp.sub [0, 1, 2, 3] (ls2 := [(0, .ref 0), (1, .int (F_J_max I1 x1 (x2 + 1))), (2, .int (x2 + 1)), (3, .int (x3 + 1))]) rfl ?_
        exact ih _ _ _ _ _ q
def FO_X_cupRow (fu : Nat) (I : Nat → Nat → Int32) (L : Nat → Nat → Int64) : Option (Int32 × (Nat → Nat → Int32) × (Nat → Nat → Int64)) := LO_X_cupRow_6 fu fu 0 0 1 I L
set_option maxHeartbeats 20000000 in
set_option maxRecDepth 20000 in
theorem eo_X_cupRow {d fu : Nat} {I : Nat → Nat → Int32} {L : Nat → Nat → Int64} {X : Nat × (Nat → Int32)} {Q : PQ} {res : Int32 × (Nat → Nat → Int32) × (Nat → Nat → Int64)} (g : Q (some (.int res.1)) (HS res.2.1 res.2.2 X)) (q : FO_X_cupRow fu  I L = some res) : Ev (d + 4) m_X_cupRow [.ref 0] (HS I L X) Q := by
  unfold FO_X_cupRow at q
  refine ev_start (d := d + 3) rfl rfl rfl (Nat.le_of_ble_eq_true rfl) ?_
  show Wp (Ev (d + 3)) cd_X_cupRow (0, 0) (some .int) _ _ Q 0 [(0, .ref 0)] [] (HS I L X)
  refine w_iconst (Ev.cm _) rfl ?_
  refine w_istore_n (ls2 := [(0, .ref 0), (1, .int 0)]) (Ev.cm _) rfl rfl ?_
  refine w_iconst (Ev.cm _) rfl ?_
  refine w_istore_n (ls2 := [(0, .ref 0), (1, .int 0), (2, .int 0)]) (Ev.cm _) rfl rfl ?_
  refine w_iconst (Ev.cm _) rfl ?_
  refine w_istore_n (ls2 := [(0, .ref 0), (1, .int 0), (2, .int 0), (3, .int 1)]) (Ev.cm _) rfl rfl ?_
  show Wp _ _ _ _ _ _ _ 6 [(0, .ref 0), (1, .int 0), (2, .int 0), (3, .int 1)] [] (HS I L X)
  refine Wp.sub [0, 1, 2, 3] (ls2 := [(0, .ref 0), (1, .int 0), (2, .int 0), (3, .int 1)]) rfl ?_
  exact lo_X_cupRow_6 g fu _ _ _ _ _ q
def FO_X_weighed (fu : Nat) (I : Nat → Nat → Int32) (L : Nat → Nat → Int64) : Option (Int64 × (Nat → Nat → Int32) × (Nat → Nat → Int64)) := (FO_O_weighFromFront fu  I L).bind (fun u1 => let r1 := u1.1; let I1 := u1.2.1; let L1 := u1.2.2; (FO_O_all fu (I1 1 11) I1 L1).bind (fun u2 => let r2 := u2.1; let I2 := u2.2.1; let L2 := u2.2.2; some (r2, I2, L2)))
set_option maxHeartbeats 20000000 in
set_option maxRecDepth 20000 in
theorem eo_X_weighed {d fu : Nat} {I : Nat → Nat → Int32} {L : Nat → Nat → Int64} {X : Nat × (Nat → Int32)} {Q : PQ} {res : Int64 × (Nat → Nat → Int32) × (Nat → Nat → Int64)} (g : Q (some (.long res.1)) (HS res.2.1 res.2.2 X)) (q : FO_X_weighed fu  I L = some res) : Ev (d + 5) m_X_weighed [.ref 0] (HS I L X) Q := by
  unfold FO_X_weighed at q
  refine ev_start (d := d + 4) rfl rfl rfl (Nat.le_of_ble_eq_true rfl) ?_
  show Wp (Ev (d + 4)) cd_X_weighed (0, 0) (some .long) _ _ Q 0 [(0, .ref 0)] [] (HS I L X)
  refine w_aload_n (Ev.cm _) rfl rfl ?_
  refine w_getR (q := 322) (Ev.cm _) rfl (Nat.le_of_ble_eq_true rfl) rfl rfl ?_
  refine w_aload_n (Ev.cm _) rfl rfl ?_
  refine w_getR (q := 1) (Ev.cm _) rfl (Nat.le_of_ble_eq_true rfl) rfl rfl ?_
  obtain ⟨⟨r1, I1, L1⟩, e1, q⟩ := obs q
  dsimp only at q
  refine w_cvirt (o := 322) (as := [.ref 1]) (st := []) (Ev.cm _) rfl rfl rfl (Nat.le_of_ble_eq_true rfl) (Nat.le_of_ble_eq_true rfl) rfl (Nat.le_of_ble_eq_true rfl) (eo_O_weighFromFront (g := ?_) e1)
  show Wp _ _ _ _ _ _ _ 11 [(0, .ref 0)] [] (HS I1 L1 X)
  refine w_aload_n (Ev.cm _) rfl rfl ?_
  refine w_getR (q := 322) (Ev.cm _) rfl (Nat.le_of_ble_eq_true rfl) rfl rfl ?_
  refine w_aload_n (Ev.cm _) rfl rfl ?_
  refine w_getR (q := 1) (Ev.cm _) rfl (Nat.le_of_ble_eq_true rfl) rfl rfl ?_
  refine w_getI (Ev.cm _) rfl (Nat.le_of_ble_eq_true rfl) rfl ?_
  obtain ⟨⟨r2, I2, L2⟩, e2, q⟩ := obs q
  dsimp only at q
  refine w_cvirt (o := 322) (as := [.int (I1 1 11)]) (st := []) (Ev.cm _) rfl rfl rfl (Nat.le_of_ble_eq_true rfl) (Nat.le_of_ble_eq_true rfl) rfl (Nat.le_of_ble_eq_true rfl) (eo_O_all (g := ?_) e2)
  show Wp _ _ _ _ _ _ _ 25 [(0, .ref 0)] [.long r2] (HS I2 L2 X)
  refine w_lreturn (Ev.cm _) rfl rfl rf0 ?_
  cases q
  exact g
def LO_X_next_27 (fu : Nat) : Nat → Int32 → Int32 → Int64 → Int32 → (Nat → Nat → Int32) → (Nat → Nat → Int64) → Option (Int64 × (Nat → Nat → Int32) × (Nat → Nat → Int64))
  | 0, _, _, _, _, _, _ => none
  | n + 1, x1, x2, x3, x5, I, L => if 3 ≤ x5 then ((FO_O_soundsNext fu x1 I L).bind (fun u1 => let r1 := u1.1; let I1 := u1.2.1; let L1 := u1.2.2; (FO_X_part fu r1 x3 x2 I1 L1).bind (fun u2 => let r2 := u2.1; let I2 := u2.2.1; let L2 := u2.2.2; some (r2, I2, L2)))) else ((FO_O_soundsNext fu x5 I L).bind (fun u3 => let r3 := u3.1; let I3 := u3.2.1; let L3 := u3.2.2; LO_X_next_27 fu n x1 x2 (x3 + r3) (x5 + 1) I3 L3))
set_option maxHeartbeats 20000000 in
set_option maxRecDepth 20000 in
theorem lo_X_next_27 {d fu n0 s0 : Nat} {X : Nat × (Nat → Int32)} {Q : PQ} {res : Int64 × (Nat → Nat → Int32) × (Nat → Nat → Int64)} (g : Q (some (.long res.1)) (HS res.2.1 res.2.2 X)) : ∀ (n : Nat) (x1 : Int32) (x2 : Int32) (x3 : Int64) (x5 : Int32) (I : Nat → Nat → Int32) (L : Nat → Nat → Int64), LO_X_next_27 fu n x1 x2 x3 x5 I L = some res → Wp (Ev (d + 4)) cd_X_next (0, 0) (some .long) n0 s0 Q 27 [(0, .ref 0), (1, .int x1), (2, .int x2), (3, .long x3), (5, .int x5)] [] (HS I L X) := by
  intro n
  induction n with
  | zero => intro _ _ _ _ _ _ q; cases q
  | succ n ih =>
    intro x1 x2 x3 x5 I L q
    unfold LO_X_next_27 at q
    refine w_iload (Ev.cm _) rfl rfl ?_
    refine w_iconst (Ev.cm _) rfl ?_
    refine w_icmp_ge (Ev.cm _) rfl (fun c1 => ?_) (fun c1 => ?_)
    · have c1 : 3 ≤ x5 := c1
      rw [if_pos c1] at q
      refine w_aload_n (Ev.cm _) rfl rfl ?_
      refine w_getR (q := 322) (Ev.cm _) rfl (Nat.le_of_ble_eq_true rfl) rfl rfl ?_
      refine w_aload_n (Ev.cm _) rfl rfl ?_
      refine w_getR (q := 1) (Ev.cm _) rfl (Nat.le_of_ble_eq_true rfl) rfl rfl ?_
      refine w_iload_n (Ev.cm _) rfl rfl ?_
      obtain ⟨⟨r1, I1, L1⟩, e1, q⟩ := obs q
      dsimp only at q
      refine w_cvirt (o := 322) (as := [.ref 1, .int x1]) (st := []) (Ev.cm _) rfl rfl rfl (Nat.le_of_ble_eq_true rfl) (Nat.le_of_ble_eq_true rfl) rfl (Nat.le_of_ble_eq_true rfl) (eo_O_soundsNext (g := ?_) e1)
      show Wp _ _ _ _ _ _ _ 67 [(0, .ref 0), (1, .int x1), (2, .int x2), (3, .long x3), (5, .int x5)] [.long r1] (HS I1 L1 X)
      refine w_lload_n (Ev.cm _) rfl rfl ?_
      refine w_iload_n (Ev.cm _) rfl rfl ?_
      obtain ⟨⟨r2, I2, L2⟩, e2, q⟩ := obs q
      dsimp only at q
      refine w_cstat (as := [.long r1, .long x3, .int x2]) (st := []) (Ev.cm _) rfl rfl rfl (Nat.le_of_ble_eq_true rfl) (Nat.le_of_ble_eq_true rfl) (eo_X_part (g := ?_) e2)
      show Wp _ _ _ _ _ _ _ 72 [(0, .ref 0), (1, .int x1), (2, .int x2), (3, .long x3), (5, .int x5)] [.long r2] (HS I2 L2 X)
      refine w_lreturn (Ev.cm _) rfl rfl rf0 ?_
      cases q
      exact g
    · have c1 : ¬ (3 ≤ x5) := c1
      rw [if_neg c1] at q
      refine w_lload_n (Ev.cm _) rfl rfl ?_
      refine w_aload_n (Ev.cm _) rfl rfl ?_
      refine w_getR (q := 322) (Ev.cm _) rfl (Nat.le_of_ble_eq_true rfl) rfl rfl ?_
      refine w_aload_n (Ev.cm _) rfl rfl ?_
      refine w_getR (q := 1) (Ev.cm _) rfl (Nat.le_of_ble_eq_true rfl) rfl rfl ?_
      refine w_iload (Ev.cm _) rfl rfl ?_
      obtain ⟨⟨r3, I3, L3⟩, e3, q⟩ := obs q
      dsimp only at q
      refine w_cvirt (o := 322) (as := [.ref 1, .int x5]) (st := [.long x3]) (Ev.cm _) rfl rfl rfl (Nat.le_of_ble_eq_true rfl) (Nat.le_of_ble_eq_true rfl) rfl (Nat.le_of_ble_eq_true rfl) (eo_O_soundsNext (g := ?_) e3)
      show Wp _ _ _ _ _ _ _ 47 [(0, .ref 0), (1, .int x1), (2, .int x2), (3, .long x3), (5, .int x5)] [.long r3, .long x3] (HS I3 L3 X)
      refine w_ladd (Ev.cm _) rfl ?_
      refine w_lstore_n (ls2 := [(0, .ref 0), (1, .int x1), (2, .int x2), (3, .long (x3 + r3)), (5, .int x5)]) (Ev.cm _) rfl rfl ?_
      refine w_iinc (ls2 := [(0, .ref 0), (1, .int x1), (2, .int x2), (3, .long (x3 + r3)), (5, .int (x5 + 1))]) (Ev.cm _) rfl rfl rfl ?_
      refine w_goto (Ev.cm _) rfl ?_
      show Wp _ _ _ _ _ _ _ 27 [(0, .ref 0), (1, .int x1), (2, .int x2), (3, .long (x3 + r3)), (5, .int (x5 + 1))] [] (HS I3 L3 X)
      refine Wp.sub [0, 1, 2, 3, 4] (ls2 := [(0, .ref 0), (1, .int x1), (2, .int x2), (3, .long (x3 + r3)), (5, .int (x5 + 1))]) rfl ?_
      exact ih _ _ _ _ _ _ q
def FO_X_next (fu : Nat) (p0 : Int32) (p1 : Int32) (I : Nat → Nat → Int32) (L : Nat → Nat → Int64) : Option (Int64 × (Nat → Nat → Int32) × (Nat → Nat → Int64)) := if 0 ≤ p0 ∧ p0 ≤ 2 then ((FO_O_weighFromFront fu  I L).bind (fun u1 => let r1 := u1.1; let I1 := u1.2.1; let L1 := u1.2.2; LO_X_next_27 fu fu p0 p1 0 0 I1 L1)) else (some ((-1), I, L))
set_option maxHeartbeats 20000000 in
set_option maxRecDepth 20000 in
theorem eo_X_next {d fu : Nat} {p0 : Int32} {p1 : Int32} {I : Nat → Nat → Int32} {L : Nat → Nat → Int64} {X : Nat × (Nat → Int32)} {Q : PQ} {res : Int64 × (Nat → Nat → Int32) × (Nat → Nat → Int64)} (g : Q (some (.long res.1)) (HS res.2.1 res.2.2 X)) (q : FO_X_next fu p0 p1 I L = some res) : Ev (d + 5) m_X_next [.ref 0, .int p0, .int p1] (HS I L X) Q := by
  unfold FO_X_next at q
  refine ev_start (d := d + 4) rfl rfl rfl (Nat.le_of_ble_eq_true rfl) ?_
  show Wp (Ev (d + 4)) cd_X_next (0, 0) (some .long) _ _ Q 0 [(0, .ref 0), (1, .int p0), (2, .int p1)] [] (HS I L X)
  refine w_iload_n (Ev.cm _) rfl rfl ?_
  refine w_cstat (as := [.int p0]) (st := []) (Ev.cm _) rfl rfl rfl (Nat.le_of_ble_eq_true rfl) (Nat.le_of_ble_eq_true rfl) (x_isMood ?_)
  show Wp _ _ _ _ _ _ _ 4 [(0, .ref 0), (1, .int p0), (2, .int p1)] [.int (bI (0 ≤ p0 ∧ p0 ≤ 2))] (HS I L X)
  refine w_if_ne (Ev.cm _) rfl (fun c1 => ?_) (fun c1 => ?_)
  · have c1 : 0 ≤ p0 ∧ p0 ≤ 2 := bI_1.mp c1
    rw [if_pos c1] at q
    refine w_aload_n (Ev.cm _) rfl rfl ?_
    refine w_getR (q := 322) (Ev.cm _) rfl (Nat.le_of_ble_eq_true rfl) rfl rfl ?_
    refine w_aload_n (Ev.cm _) rfl rfl ?_
    refine w_getR (q := 1) (Ev.cm _) rfl (Nat.le_of_ble_eq_true rfl) rfl rfl ?_
    obtain ⟨⟨r1, I1, L1⟩, e1, q⟩ := obs q
    dsimp only at q
    refine w_cvirt (o := 322) (as := [.ref 1]) (st := []) (Ev.cm _) rfl rfl rfl (Nat.le_of_ble_eq_true rfl) (Nat.le_of_ble_eq_true rfl) rfl (Nat.le_of_ble_eq_true rfl) (eo_O_weighFromFront (g := ?_) e1)
    show Wp _ _ _ _ _ _ _ 22 [(0, .ref 0), (1, .int p0), (2, .int p1)] [] (HS I1 L1 X)
    refine w_lconst (Ev.cm _) rfl ?_
    refine w_lstore_n (ls2 := [(0, .ref 0), (1, .int p0), (2, .int p1), (3, .long 0)]) (Ev.cm _) rfl rfl ?_
    refine w_iconst (Ev.cm _) rfl ?_
    refine w_istore (ls2 := [(0, .ref 0), (1, .int p0), (2, .int p1), (3, .long 0), (5, .int 0)]) (Ev.cm _) rfl rfl ?_
    show Wp _ _ _ _ _ _ _ 27 [(0, .ref 0), (1, .int p0), (2, .int p1), (3, .long 0), (5, .int 0)] [] (HS I1 L1 X)
    refine Wp.sub [0, 1, 2, 3, 4] (ls2 := [(0, .ref 0), (1, .int p0), (2, .int p1), (3, .long 0), (5, .int 0)]) rfl ?_
    exact lo_X_next_27 g fu _ _ _ _ _ _ q
  · have c1 : ¬ (0 ≤ p0 ∧ p0 ≤ 2) := bI_0.mp c1
    rw [if_neg c1] at q
    refine w_ldc2_w (Ev.cm _) rfl ?_
    refine w_lreturn (Ev.cm _) rfl rfl rf0 ?_
    cases q
    exact g
def LO_X_room_8 (fu : Nat) : Nat → Int32 → Int32 → Int32 → Int32 → (Nat → Nat → Int32) → (Nat → Nat → Int64) → Option (Int32 × (Nat → Nat → Int32) × (Nat → Nat → Int64))
  | 0, _, _, _, _, _, _ => none
  | n + 1, x1, x2, x3, x4, I, L => if I 1 13 ≤ x4 then ((FO_X_part fu ((x3 : Int32).toInt64) ((x2 : Int32).toInt64) x1 I L).bind (fun u1 => let r1 := u1.1; let I1 := u1.2.1; let L1 := u1.2.2; some ((r1 : Int64).toInt32, I1, L1))) else (if 5 ≤ x4 then ((FO_X_part fu ((x3 : Int32).toInt64) ((x2 : Int32).toInt64) x1 I L).bind (fun u2 => let r2 := u2.1; let I2 := u2.2.1; let L2 := u2.2.2; some ((r2 : Int64).toInt32, I2, L2))) else (if 0 ≤ x4 ∧ x4 < 5 then ((FO_C_lengthOf fu (I 134 x4.toNatClampNeg) I L).bind (fun u4 => let r4 := u4.1; let I4 := u4.2.1; let L4 := u4.2.2; LO_X_room_8 fu n x1 x2 (x3 + (x2 >>> (r4 &&& 31))) (x4 + 1) I4 L4)) else none))
set_option maxHeartbeats 20000000 in
set_option maxRecDepth 20000 in
theorem lo_X_room_8 {d fu n0 s0 : Nat} {X : Nat × (Nat → Int32)} {Q : PQ} {res : Int32 × (Nat → Nat → Int32) × (Nat → Nat → Int64)} (g : Q (some (.int res.1)) (HS res.2.1 res.2.2 X)) : ∀ (n : Nat) (x1 : Int32) (x2 : Int32) (x3 : Int32) (x4 : Int32) (I : Nat → Nat → Int32) (L : Nat → Nat → Int64), LO_X_room_8 fu n x1 x2 x3 x4 I L = some res → Wp (Ev (d + 1)) cd_X_room (0, 0) (some .int) n0 s0 Q 8 [(0, .ref 0), (1, .int x1), (2, .int x2), (3, .int x3), (4, .int x4)] [] (HS I L X) := by
  intro n
  induction n with
  | zero => intro _ _ _ _ _ _ q; cases q
  | succ n ih =>
    intro x1 x2 x3 x4 I L q
    unfold LO_X_room_8 at q
    refine w_iload (Ev.cm _) rfl rfl ?_
    refine w_aload_n (Ev.cm _) rfl rfl ?_
    refine w_getR (q := 1) (Ev.cm _) rfl (Nat.le_of_ble_eq_true rfl) rfl rfl ?_
    refine w_getI (Ev.cm _) rfl (Nat.le_of_ble_eq_true rfl) rfl ?_
    refine w_icmp_ge (Ev.cm _) rfl (fun c1 => ?_) (fun c1 => ?_)
    · have c1 : I 1 13 ≤ x4 := c1
      rw [if_pos c1] at q
      refine w_iload_n (Ev.cm _) rfl rfl ?_
      refine w_i2l (Ev.cm _) rfl ?_
      refine w_iload_n (Ev.cm _) rfl rfl ?_
      refine w_i2l (Ev.cm _) rfl ?_
      refine w_iload_n (Ev.cm _) rfl rfl ?_
      obtain ⟨⟨r1, I1, L1⟩, e1, q⟩ := obs q
      dsimp only at q
      refine w_cstat (as := [.long ((x3 : Int32).toInt64), .long ((x2 : Int32).toInt64), .int x1]) (st := []) (Ev.cm _) rfl rfl rfl (Nat.le_of_ble_eq_true rfl) (Nat.le_of_ble_eq_true rfl) (eo_X_part (g := ?_) e1)
      show Wp _ _ _ _ _ _ _ 58 [(0, .ref 0), (1, .int x1), (2, .int x2), (3, .int x3), (4, .int x4)] [.long r1] (HS I1 L1 X)
      refine w_l2i (Ev.cm _) rfl ?_
      refine w_ireturn (Ev.cm _) rfl trivial rf0 ?_
      cases q
      exact g
    · have c1 : ¬ (I 1 13 ≤ x4) := c1
      rw [if_neg c1] at q
      refine w_iload (Ev.cm _) rfl rfl ?_
      refine w_iconst (Ev.cm _) rfl ?_
      refine w_icmp_ge (Ev.cm _) rfl (fun c2 => ?_) (fun c2 => ?_)
      · have c2 : 5 ≤ x4 := c2
        rw [if_pos c2] at q
        refine w_iload_n (Ev.cm _) rfl rfl ?_
        refine w_i2l (Ev.cm _) rfl ?_
        refine w_iload_n (Ev.cm _) rfl rfl ?_
        refine w_i2l (Ev.cm _) rfl ?_
        refine w_iload_n (Ev.cm _) rfl rfl ?_
        obtain ⟨⟨r2, I2, L2⟩, e2, q⟩ := obs q
        dsimp only at q
        refine w_cstat (as := [.long ((x3 : Int32).toInt64), .long ((x2 : Int32).toInt64), .int x1]) (st := []) (Ev.cm _) rfl rfl rfl (Nat.le_of_ble_eq_true rfl) (Nat.le_of_ble_eq_true rfl) (eo_X_part (g := ?_) e2)
        show Wp _ _ _ _ _ _ _ 58 [(0, .ref 0), (1, .int x1), (2, .int x2), (3, .int x3), (4, .int x4)] [.long r2] (HS I2 L2 X)
        refine w_l2i (Ev.cm _) rfl ?_
        refine w_ireturn (Ev.cm _) rfl trivial rf0 ?_
        cases q
        exact g
      · have c2 : ¬ (5 ≤ x4) := c2
        rw [if_neg c2] at q
        refine w_iload_n (Ev.cm _) rfl rfl ?_
        refine w_iload_n (Ev.cm _) rfl rfl ?_
        refine w_aload_n (Ev.cm _) rfl rfl ?_
        refine w_getR (q := 1) (Ev.cm _) rfl (Nat.le_of_ble_eq_true rfl) rfl rfl ?_
        refine w_getR (q := 134) (Ev.cm _) rfl (Nat.le_of_ble_eq_true rfl) rfl rfl ?_
        refine w_iload (Ev.cm _) rfl rfl ?_
        obtain ⟨b3, q⟩ := ois q
        refine w_iald (Ev.cm _) rfl (Nat.le_of_ble_eq_true rfl) rfl (show vp_in x4 5 from vpI 5 (by decide) b3.1 b3.2) ?_
        obtain ⟨⟨r4, I4, L4⟩, e4, q⟩ := obs q
        dsimp only at q
        refine w_cstat (as := [.int (I 134 x4.toNatClampNeg)]) (st := [.int x2, .int x3]) (Ev.cm _) rfl rfl rfl (Nat.le_of_ble_eq_true rfl) (Nat.le_of_ble_eq_true rfl) (eo_C_lengthOf (g := ?_) e4)
        show Wp _ _ _ _ _ _ _ 41 [(0, .ref 0), (1, .int x1), (2, .int x2), (3, .int x3), (4, .int x4)] [.int r4, .int x2, .int x3] (HS I4 L4 X)
        refine w_ishr (Ev.cm _) rfl ?_
        refine w_iadd (Ev.cm _) rfl ?_
        refine w_istore_n (ls2 := [(0, .ref 0), (1, .int x1), (2, .int x2), (3, .int (x3 + (x2 >>> (r4 &&& 31)))), (4, .int x4)]) (Ev.cm _) rfl rfl ?_
        refine w_iinc (ls2 := [(0, .ref 0), (1, .int x1), (2, .int x2), (3, .int (x3 + (x2 >>> (r4 &&& 31)))), (4, .int (x4 + 1))]) (Ev.cm _) rfl rfl rfl ?_
        refine w_goto (Ev.cm _) rfl ?_
        show Wp _ _ _ _ _ _ _ 8 [(0, .ref 0), (1, .int x1), (2, .int x2), (3, .int (x3 + (x2 >>> (r4 &&& 31)))), (4, .int (x4 + 1))] [] (HS I4 L4 X)
        refine Wp.sub [0, 1, 2, 3, 4] (ls2 := [(0, .ref 0), (1, .int x1), (2, .int x2), (3, .int (x3 + (x2 >>> (r4 &&& 31)))), (4, .int (x4 + 1))]) rfl ?_
        exact ih _ _ _ _ _ _ q
def FO_X_room (fu : Nat) (p0 : Int32) (I : Nat → Nat → Int32) (L : Nat → Nat → Int64) : Option (Int32 × (Nat → Nat → Int32) × (Nat → Nat → Int64)) := LO_X_room_8 fu fu p0 32 0 0 I L
set_option maxHeartbeats 20000000 in
set_option maxRecDepth 20000 in
theorem eo_X_room {d fu : Nat} {p0 : Int32} {I : Nat → Nat → Int32} {L : Nat → Nat → Int64} {X : Nat × (Nat → Int32)} {Q : PQ} {res : Int32 × (Nat → Nat → Int32) × (Nat → Nat → Int64)} (g : Q (some (.int res.1)) (HS res.2.1 res.2.2 X)) (q : FO_X_room fu p0 I L = some res) : Ev (d + 2) m_X_room [.ref 0, .int p0] (HS I L X) Q := by
  unfold FO_X_room at q
  refine ev_start (d := d + 1) rfl rfl rfl (Nat.le_of_ble_eq_true rfl) ?_
  show Wp (Ev (d + 1)) cd_X_room (0, 0) (some .int) _ _ Q 0 [(0, .ref 0), (1, .int p0)] [] (HS I L X)
  refine w_bipush (Ev.cm _) rfl ?_
  refine w_istore_n (ls2 := [(0, .ref 0), (1, .int p0), (2, .int 32)]) (Ev.cm _) rfl rfl ?_
  refine w_iconst (Ev.cm _) rfl ?_
  refine w_istore_n (ls2 := [(0, .ref 0), (1, .int p0), (2, .int 32), (3, .int 0)]) (Ev.cm _) rfl rfl ?_
  refine w_iconst (Ev.cm _) rfl ?_
  refine w_istore (ls2 := [(0, .ref 0), (1, .int p0), (2, .int 32), (3, .int 0), (4, .int 0)]) (Ev.cm _) rfl rfl ?_
  show Wp _ _ _ _ _ _ _ 8 [(0, .ref 0), (1, .int p0), (2, .int 32), (3, .int 0), (4, .int 0)] [] (HS I L X)
  refine Wp.sub [0, 1, 2, 3, 4] (ls2 := [(0, .ref 0), (1, .int p0), (2, .int 32), (3, .int 0), (4, .int 0)]) rfl ?_
  exact lo_X_room_8 g fu _ _ _ _ _ _ q
def LO_X_enough_8 (fu : Nat) : Nat → Int32 → Int32 → Int32 → Int32 → (Nat → Nat → Int32) → (Nat → Nat → Int64) → Option (Int32 × (Nat → Nat → Int32) × (Nat → Nat → Int64))
  | 0, _, _, _, _, _, _ => none
  | n + 1, x1, x2, x3, x4, I, L => if 8190 < x4 then (if x1 = 0 then (some (x3, I, L)) else (if x3 = (-1) then (some (x3, I, L)) else (some (x2, I, L)))) else ((FO_J_bitCount fu x4 I L).bind (fun u1 => let r1 := u1.1; let I1 := u1.2.1; let L1 := u1.2.2; if x2 ≤ r1 then (LO_X_enough_8 fu n x1 x2 x3 (x4 + 2) I1 L1) else ((FO_X_tellsAllApart fu x4 I1 L1).bind (fun u2 => let r2 := u2.1; let I2 := u2.2.1; let L2 := u2.2.2; if r2 = 0 then (LO_X_enough_8 fu n x1 x2 x3 (x4 + 2) I2 L2) else (LO_X_enough_8 fu n x1 r1 x4 (x4 + 2) I2 L2)))))
set_option maxHeartbeats 20000000 in
set_option maxRecDepth 20000 in
theorem lo_X_enough_8 {d fu n0 s0 : Nat} {X : Nat × (Nat → Int32)} {Q : PQ} {res : Int32 × (Nat → Nat → Int32) × (Nat → Nat → Int64)} (g : Q (some (.int res.1)) (HS res.2.1 res.2.2 X)) : ∀ (n : Nat) (x1 : Int32) (x2 : Int32) (x3 : Int32) (x4 : Int32) (I : Nat → Nat → Int32) (L : Nat → Nat → Int64), LO_X_enough_8 fu n x1 x2 x3 x4 I L = some res → Wp (Ev (d + 3)) cd_X_enough (0, 0) (some .int) n0 s0 Q 8 [(0, .ref 0), (1, .int x1), (2, .int x2), (3, .int x3), (4, .int x4)] [] (HS I L X) := by
  intro n
  induction n with
  | zero => intro _ _ _ _ _ _ q; cases q
  | succ n ih =>
    intro x1 x2 x3 x4 I L q
    unfold LO_X_enough_8 at q
    refine w_iload (Ev.cm _) rfl rfl ?_
    refine w_sipush (Ev.cm _) rfl ?_
    refine w_icmp_gt (Ev.cm _) rfl (fun c1 => ?_) (fun c1 => ?_)
    · have c1 : 8190 < x4 := c1
      rw [if_pos c1] at q
      refine w_iload_n (Ev.cm _) rfl rfl ?_
      refine w_if_eq (Ev.cm _) rfl (fun c2 => ?_) (fun c2 => ?_)
      · have c2 : x1 = 0 := c2
        rw [if_pos c2] at q
        refine w_iload_n (Ev.cm _) rfl rfl ?_
        refine w_ireturn (Ev.cm _) rfl trivial rf0 ?_
        cases q
        exact g
      · have c2 : ¬ (x1 = 0) := c2
        rw [if_neg c2] at q
        refine w_iload_n (Ev.cm _) rfl rfl ?_
        refine w_iconst (Ev.cm _) rfl ?_
        refine w_icmp_eq (Ev.cm _) rfl (fun c3 => ?_) (fun c3 => ?_)
        · have c3 : x3 = (-1) := c3
          rw [if_pos c3] at q
          refine w_iload_n (Ev.cm _) rfl rfl ?_
          refine w_ireturn (Ev.cm _) rfl trivial rf0 ?_
          cases q
          exact g
        · have c3 : ¬ (x3 = (-1)) := c3
          rw [if_neg c3] at q
          refine w_iload_n (Ev.cm _) rfl rfl ?_
          refine w_goto (Ev.cm _) rfl ?_
          refine w_ireturn (Ev.cm _) rfl trivial rf0 ?_
          cases q
          exact g
    · have c1 : ¬ (8190 < x4) := c1
      rw [if_neg c1] at q
      refine w_iload (Ev.cm _) rfl rfl ?_
      obtain ⟨⟨r1, I1, L1⟩, e1, q⟩ := obs q
      dsimp only at q
      refine w_cstat (as := [.int x4]) (st := []) (Ev.cm _) rfl rfl rfl (Nat.le_of_ble_eq_true rfl) (Nat.le_of_ble_eq_true rfl) (eo_J_bitCount (g := ?_) e1)
      show Wp _ _ _ _ _ _ _ 21 [(0, .ref 0), (1, .int x1), (2, .int x2), (3, .int x3), (4, .int x4)] [.int r1] (HS I1 L1 X)
      refine w_istore (ls2 := [(0, .ref 0), (1, .int x1), (2, .int x2), (3, .int x3), (4, .int x4), (5, .int r1)]) (Ev.cm _) rfl rfl ?_
      refine w_iload (Ev.cm _) rfl rfl ?_
      refine w_iload_n (Ev.cm _) rfl rfl ?_
      refine w_icmp_ge (Ev.cm _) rfl (fun c4 => ?_) (fun c4 => ?_)
      · have c4 : x2 ≤ r1 := c4
        rw [if_pos c4] at q
        refine w_iinc (ls2 := [(0, .ref 0), (1, .int x1), (2, .int x2), (3, .int x3), (4, .int (x4 + 2)), (5, .int r1)]) (Ev.cm _) rfl rfl rfl ?_
        refine w_goto (Ev.cm _) rfl ?_
        show Wp _ _ _ _ _ _ _ 8 [(0, .ref 0), (1, .int x1), (2, .int x2), (3, .int x3), (4, .int (x4 + 2)), (5, .int r1)] [] (HS I1 L1 X)
        refine Wp.sub [0, 1, 2, 3, 4] (ls2 := [(0, .ref 0), (1, .int x1), (2, .int x2), (3, .int x3), (4, .int (x4 + 2))]) rfl ?_
        exact ih _ _ _ _ _ _ q
      · have c4 : ¬ (x2 ≤ r1) := c4
        rw [if_neg c4] at q
        refine w_aload_n (Ev.cm _) rfl rfl ?_
        refine w_iload (Ev.cm _) rfl rfl ?_
        obtain ⟨⟨r2, I2, L2⟩, e2, q⟩ := obs q
        dsimp only at q
        refine w_cvirt (o := 0) (as := [.int x4]) (st := []) (Ev.cm _) rfl rfl rfl (Nat.le_of_ble_eq_true rfl) (Nat.le_of_ble_eq_true rfl) rfl (Nat.le_of_ble_eq_true rfl) (eo_X_tellsAllApart (g := ?_) e2)
        show Wp _ _ _ _ _ _ _ 35 [(0, .ref 0), (1, .int x1), (2, .int x2), (3, .int x3), (4, .int x4), (5, .int r1)] [.int r2] (HS I2 L2 X)
        refine w_if_eq (Ev.cm _) rfl (fun c5 => ?_) (fun c5 => ?_)
        · have c5 : r2 = 0 := c5
          rw [if_pos c5] at q
          refine w_iinc (ls2 := [(0, .ref 0), (1, .int x1), (2, .int x2), (3, .int x3), (4, .int (x4 + 2)), (5, .int r1)]) (Ev.cm _) rfl rfl rfl ?_
          refine w_goto (Ev.cm _) rfl ?_
          show Wp _ _ _ _ _ _ _ 8 [(0, .ref 0), (1, .int x1), (2, .int x2), (3, .int x3), (4, .int (x4 + 2)), (5, .int r1)] [] (HS I2 L2 X)
          refine Wp.sub [0, 1, 2, 3, 4] (ls2 := [(0, .ref 0), (1, .int x1), (2, .int x2), (3, .int x3), (4, .int (x4 + 2))]) rfl ?_
          exact ih _ _ _ _ _ _ q
        · have c5 : ¬ (r2 = 0) := c5
          rw [if_neg c5] at q
          refine w_iload (Ev.cm _) rfl rfl ?_
          refine w_istore_n (ls2 := [(0, .ref 0), (1, .int x1), (2, .int r1), (3, .int x3), (4, .int x4), (5, .int r1)]) (Ev.cm _) rfl rfl ?_
          refine w_iload (Ev.cm _) rfl rfl ?_
          refine w_istore_n (ls2 := [(0, .ref 0), (1, .int x1), (2, .int r1), (3, .int x4), (4, .int x4), (5, .int r1)]) (Ev.cm _) rfl rfl ?_
          refine w_iinc (ls2 := [(0, .ref 0), (1, .int x1), (2, .int r1), (3, .int x4), (4, .int (x4 + 2)), (5, .int r1)]) (Ev.cm _) rfl rfl rfl ?_
          refine w_goto (Ev.cm _) rfl ?_
          show Wp _ _ _ _ _ _ _ 8 [(0, .ref 0), (1, .int x1), (2, .int r1), (3, .int x4), (4, .int (x4 + 2)), (5, .int r1)] [] (HS I2 L2 X)
          refine Wp.sub [0, 1, 2, 3, 4] (ls2 := [(0, .ref 0), (1, .int x1), (2, .int r1), (3, .int x4), (4, .int (x4 + 2))]) rfl ?_
          exact ih _ _ _ _ _ _ q
def FO_X_enough (fu : Nat) (p0 : Int32) (I : Nat → Nat → Int32) (L : Nat → Nat → Int64) : Option (Int32 × (Nat → Nat → Int32) × (Nat → Nat → Int64)) := LO_X_enough_8 fu fu p0 13 (-1) 0 I L
set_option maxHeartbeats 20000000 in
set_option maxRecDepth 20000 in
theorem eo_X_enough {d fu : Nat} {p0 : Int32} {I : Nat → Nat → Int32} {L : Nat → Nat → Int64} {X : Nat × (Nat → Int32)} {Q : PQ} {res : Int32 × (Nat → Nat → Int32) × (Nat → Nat → Int64)} (g : Q (some (.int res.1)) (HS res.2.1 res.2.2 X)) (q : FO_X_enough fu p0 I L = some res) : Ev (d + 4) m_X_enough [.ref 0, .int p0] (HS I L X) Q := by
  unfold FO_X_enough at q
  refine ev_start (d := d + 3) rfl rfl rfl (Nat.le_of_ble_eq_true rfl) ?_
  show Wp (Ev (d + 3)) cd_X_enough (0, 0) (some .int) _ _ Q 0 [(0, .ref 0), (1, .int p0)] [] (HS I L X)
  refine w_bipush (Ev.cm _) rfl ?_
  refine w_istore_n (ls2 := [(0, .ref 0), (1, .int p0), (2, .int 13)]) (Ev.cm _) rfl rfl ?_
  refine w_iconst (Ev.cm _) rfl ?_
  refine w_istore_n (ls2 := [(0, .ref 0), (1, .int p0), (2, .int 13), (3, .int (-1))]) (Ev.cm _) rfl rfl ?_
  refine w_iconst (Ev.cm _) rfl ?_
  refine w_istore (ls2 := [(0, .ref 0), (1, .int p0), (2, .int 13), (3, .int (-1)), (4, .int 0)]) (Ev.cm _) rfl rfl ?_
  show Wp _ _ _ _ _ _ _ 8 [(0, .ref 0), (1, .int p0), (2, .int 13), (3, .int (-1)), (4, .int 0)] [] (HS I L X)
  refine Wp.sub [0, 1, 2, 3, 4] (ls2 := [(0, .ref 0), (1, .int p0), (2, .int 13), (3, .int (-1)), (4, .int 0)]) rfl ?_
  exact lo_X_enough_8 g fu _ _ _ _ _ _ q
def LO_X_cheapest_33 (fu : Nat) : Nat → Int32 → Int32 → Int32 → (Nat → Nat → Int32) → (Nat → Nat → Int64) → Option (Int32 × (Nat → Nat → Int32) × (Nat → Nat → Int64))
  | 0, _, _, _, _, _ => none
  | n + 1, x1, x2, x3, I, L => if x3 ≤ 1 then (some (x2, I, L)) else ((FO_X_takeLightest fu x3 I L).bind (fun u1 => let r1 := u1.1; let I1 := u1.2.1; let L1 := u1.2.2; (FO_X_takeLightest fu (x3 - 1) I1 L1).bind (fun u2 => let r2 := u2.1; let I2 := u2.2.1; let L2 := u2.2.2; if 0 ≤ x3 - 2 ∧ x3 - 2 < 6 then (LO_X_cheapest_33 fu n x1 (x2 + (r1 + r2)) (x3 + (-1)) (sI I2 330 ((x3 - 2).toNatClampNeg) (r1 + r2)) L2) else none)))
set_option maxHeartbeats 20000000 in
set_option maxRecDepth 20000 in
theorem lo_X_cheapest_33 {d fu n0 s0 : Nat} {X : Nat × (Nat → Int32)} {Q : PQ} {res : Int32 × (Nat → Nat → Int32) × (Nat → Nat → Int64)} (g : Q (some (.int res.1)) (HS res.2.1 res.2.2 X)) : ∀ (n : Nat) (x1 : Int32) (x2 : Int32) (x3 : Int32) (I : Nat → Nat → Int32) (L : Nat → Nat → Int64), LO_X_cheapest_33 fu n x1 x2 x3 I L = some res → Wp (Ev (d + 2)) cd_X_cheapest (0, 0) (some .int) n0 s0 Q 33 [(0, .ref 0), (1, .int x1), (2, .int x2), (3, .int x3)] [] (HS I L X) := by
  intro n
  induction n with
  | zero => intro _ _ _ _ _ q; cases q
  | succ n ih =>
    intro x1 x2 x3 I L q
    unfold LO_X_cheapest_33 at q
    refine w_iload_n (Ev.cm _) rfl rfl ?_
    refine w_iconst (Ev.cm _) rfl ?_
    refine w_icmp_le (Ev.cm _) rfl (fun c1 => ?_) (fun c1 => ?_)
    · have c1 : x3 ≤ 1 := c1
      rw [if_pos c1] at q
      refine w_iload_n (Ev.cm _) rfl rfl ?_
      refine w_ireturn (Ev.cm _) rfl trivial rf0 ?_
      cases q
      exact g
    · have c1 : ¬ (x3 ≤ 1) := c1
      rw [if_neg c1] at q
      refine w_aload_n (Ev.cm _) rfl rfl ?_
      refine w_iload_n (Ev.cm _) rfl rfl ?_
      obtain ⟨⟨r1, I1, L1⟩, e1, q⟩ := obs q
      dsimp only at q
      refine w_cvirt (o := 0) (as := [.int x3]) (st := []) (Ev.cm _) rfl rfl rfl (Nat.le_of_ble_eq_true rfl) (Nat.le_of_ble_eq_true rfl) rfl (Nat.le_of_ble_eq_true rfl) (eo_X_takeLightest (g := ?_) e1)
      show Wp _ _ _ _ _ _ _ 43 [(0, .ref 0), (1, .int x1), (2, .int x2), (3, .int x3)] [.int r1] (HS I1 L1 X)
      refine w_istore (ls2 := [(0, .ref 0), (1, .int x1), (2, .int x2), (3, .int x3), (4, .int r1)]) (Ev.cm _) rfl rfl ?_
      refine w_iload (Ev.cm _) rfl rfl ?_
      refine w_aload_n (Ev.cm _) rfl rfl ?_
      refine w_iload_n (Ev.cm _) rfl rfl ?_
      refine w_iconst (Ev.cm _) rfl ?_
      refine w_isub (Ev.cm _) rfl ?_
      obtain ⟨⟨r2, I2, L2⟩, e2, q⟩ := obs q
      dsimp only at q
      refine w_cvirt (o := 0) (as := [.int (x3 - 1)]) (st := [.int r1]) (Ev.cm _) rfl rfl rfl (Nat.le_of_ble_eq_true rfl) (Nat.le_of_ble_eq_true rfl) rfl (Nat.le_of_ble_eq_true rfl) (eo_X_takeLightest (g := ?_) e2)
      show Wp _ _ _ _ _ _ _ 54 [(0, .ref 0), (1, .int x1), (2, .int x2), (3, .int x3), (4, .int r1)] [.int r2, .int r1] (HS I2 L2 X)
      refine w_iadd (Ev.cm _) rfl ?_
      refine w_istore (ls2 := [(0, .ref 0), (1, .int x1), (2, .int x2), (3, .int x3), (4, .int r1), (5, .int (r1 + r2))]) (Ev.cm _) rfl rfl ?_
      refine w_aload_n (Ev.cm _) rfl rfl ?_
      refine w_getR (q := 330) (Ev.cm _) rfl (Nat.le_of_ble_eq_true rfl) rfl rfl ?_
      refine w_iload_n (Ev.cm _) rfl rfl ?_
      refine w_iconst (Ev.cm _) rfl ?_
      refine w_isub (Ev.cm _) rfl ?_
      refine w_iload (Ev.cm _) rfl rfl ?_
      obtain ⟨b3, q⟩ := ois q
      refine w_iast (Ev.cm _) rfl (Nat.le_of_ble_eq_true rfl) rfl (show vp_in (x3 - 2) 6 from vpI 6 (by decide) b3.1 b3.2) ?_
      refine w_iload_n (Ev.cm _) rfl rfl ?_
      refine w_iload (Ev.cm _) rfl rfl ?_
      refine w_iadd (Ev.cm _) rfl ?_
      refine w_istore_n (ls2 := [(0, .ref 0), (1, .int x1), (2, .int (x2 + (r1 + r2))), (3, .int x3), (4, .int r1), (5, .int (r1 + r2))]) (Ev.cm _) rfl rfl ?_
      refine w_iinc (ls2 := [(0, .ref 0), (1, .int x1), (2, .int (x2 + (r1 + r2))), (3, .int (x3 + (-1))), (4, .int r1), (5, .int (r1 + r2))]) (Ev.cm _) rfl rfl rfl ?_
      refine w_goto (Ev.cm _) rfl ?_
      show Wp _ _ _ _ _ _ _ 33 [(0, .ref 0), (1, .int x1), (2, .int (x2 + (r1 + r2))), (3, .int (x3 + (-1))), (4, .int r1), (5, .int (r1 + r2))] [] (HS (sI I2 330 ((x3 - 2).toNatClampNeg) (r1 + r2)) L2 X)
      refine Wp.sub [0, 1, 2, 3] (ls2 := [(0, .ref 0), (1, .int x1), (2, .int (x2 + (r1 + r2))), (3, .int (x3 + (-1)))]) rfl ?_
      exact ih _ _ _ _ _ q
def FO_X_cheapest (fu : Nat) (p0 : Int32) (I : Nat → Nat → Int32) (L : Nat → Nat → Int64) : Option (Int32 × (Nat → Nat → Int32) × (Nat → Nat → Int64)) := if (1 : Int32) ≤ p0 ∧ p0 ≤ (6 : Int32) then (if 0 ≤ (0 : Int32) ∧ 0 ≤ (0 : Int32) ∧ 0 ≤ p0 ∧ (0 : Int32).toNatClampNeg + p0.toNatClampNeg ≤ 6 ∧ (0 : Int32).toNatClampNeg + p0.toNatClampNeg ≤ 6 then (LO_X_cheapest_33 fu fu p0 0 p0 (va_up I 330 (va_cpy (I 135) (I 330) 0 0 p0.toNatClampNeg)) L) else none) else (some ((-1), I, L))
set_option maxHeartbeats 20000000 in
set_option maxRecDepth 20000 in
theorem eo_X_cheapest {d fu : Nat} {p0 : Int32} {I : Nat → Nat → Int32} {L : Nat → Nat → Int64} {X : Nat × (Nat → Int32)} {Q : PQ} {res : Int32 × (Nat → Nat → Int32) × (Nat → Nat → Int64)} (g : Q (some (.int res.1)) (HS res.2.1 res.2.2 X)) (q : FO_X_cheapest fu p0 I L = some res) : Ev (d + 3) m_X_cheapest [.ref 0, .int p0] (HS I L X) Q := by
  unfold FO_X_cheapest at q
  refine ev_start (d := d + 2) rfl rfl rfl (Nat.le_of_ble_eq_true rfl) ?_
  show Wp (Ev (d + 2)) cd_X_cheapest (0, 0) (some .int) _ _ Q 0 [(0, .ref 0), (1, .int p0)] [] (HS I L X)
  refine w_iload_n (Ev.cm _) rfl rfl ?_
  refine w_iconst (Ev.cm _) rfl ?_
  refine w_bipush (Ev.cm _) rfl ?_
  refine w_cstat (as := [.int p0, .int 1, .int 6]) (st := []) (Ev.cm _) rfl rfl rfl (Nat.le_of_ble_eq_true rfl) (Nat.le_of_ble_eq_true rfl) (x_within ?_)
  show Wp _ _ _ _ _ _ _ 7 [(0, .ref 0), (1, .int p0)] [.int (bI ((1 : Int32) ≤ p0 ∧ p0 ≤ (6 : Int32)))] (HS I L X)
  refine w_if_ne (Ev.cm _) rfl (fun c1 => ?_) (fun c1 => ?_)
  · have c1 : (1 : Int32) ≤ p0 ∧ p0 ≤ (6 : Int32) := bI_1.mp c1
    rw [if_pos c1] at q
    refine w_aload_n (Ev.cm _) rfl rfl ?_
    refine w_getR (q := 1) (Ev.cm _) rfl (Nat.le_of_ble_eq_true rfl) rfl rfl ?_
    refine w_getR (q := 135) (Ev.cm _) rfl (Nat.le_of_ble_eq_true rfl) rfl rfl ?_
    refine w_iconst (Ev.cm _) rfl ?_
    refine w_aload_n (Ev.cm _) rfl rfl ?_
    refine w_getR (q := 330) (Ev.cm _) rfl (Nat.le_of_ble_eq_true rfl) rfl rfl ?_
    refine w_iconst (Ev.cm _) rfl ?_
    refine w_iload_n (Ev.cm _) rfl rfl ?_
    obtain ⟨b1, q⟩ := ois q
    refine w_copy (Ev.cm _) rfl (Nat.le_of_ble_eq_true rfl) (Nat.le_of_ble_eq_true rfl) rfl rfl (Int32.not_lt.mpr b1.1) (Int32.not_lt.mpr b1.2.1) (Int32.not_lt.mpr b1.2.2.1) b1.2.2.2.1 b1.2.2.2.2 (Nat.le_of_ble_eq_true rfl) ?_
    refine w_iconst (Ev.cm _) rfl ?_
    refine w_istore_n (ls2 := [(0, .ref 0), (1, .int p0), (2, .int 0)]) (Ev.cm _) rfl rfl ?_
    refine w_iload_n (Ev.cm _) rfl rfl ?_
    refine w_istore_n (ls2 := [(0, .ref 0), (1, .int p0), (2, .int 0), (3, .int p0)]) (Ev.cm _) rfl rfl ?_
    show Wp _ _ _ _ _ _ _ 33 [(0, .ref 0), (1, .int p0), (2, .int 0), (3, .int p0)] [] (HS (va_up I 330 (va_cpy (I 135) (I 330) 0 0 p0.toNatClampNeg)) L X)
    refine Wp.sub [0, 1, 2, 3] (ls2 := [(0, .ref 0), (1, .int p0), (2, .int 0), (3, .int p0)]) rfl ?_
    exact lo_X_cheapest_33 g fu _ _ _ _ _ q
  · have c1 : ¬ ((1 : Int32) ≤ p0 ∧ p0 ≤ (6 : Int32)) := bI_0.mp c1
    rw [if_neg c1] at q
    refine w_iconst (Ev.cm _) rfl ?_
    refine w_ireturn (Ev.cm _) rfl trivial rf0 ?_
    cases q
    exact g
def FO_X_highest (fu : Nat) (I : Nat → Nat → Int32) (L : Nat → Nat → Int64) : Option (Int32 × (Nat → Nat → Int32) × (Nat → Nat → Int64)) := (FO_X_mostOf_3 fu  I L).bind (fun u1 => let r1 := u1.1; let I1 := u1.2.1; let L1 := u1.2.2; some (r1, I1, L1))
set_option maxHeartbeats 20000000 in
set_option maxRecDepth 20000 in
theorem eo_X_highest {d fu : Nat} {I : Nat → Nat → Int32} {L : Nat → Nat → Int64} {X : Nat × (Nat → Int32)} {Q : PQ} {res : Int32 × (Nat → Nat → Int32) × (Nat → Nat → Int64)} (g : Q (some (.int res.1)) (HS res.2.1 res.2.2 X)) (q : FO_X_highest fu  I L = some res) : Ev (d + 4) m_X_highest [.ref 0] (HS I L X) Q := by
  unfold FO_X_highest at q
  refine ev_start (d := d + 3) rfl rfl rfl (Nat.le_of_ble_eq_true rfl) ?_
  show Wp (Ev (d + 3)) cd_X_highest (0, 0) (some .int) _ _ Q 0 [(0, .ref 0)] [] (HS I L X)
  refine w_aload_n (Ev.cm _) rfl rfl ?_
  refine w_aload_n (Ev.cm _) rfl rfl ?_
  refine w_getR (q := 1) (Ev.cm _) rfl (Nat.le_of_ble_eq_true rfl) rfl rfl ?_
  refine w_getR (q := 2) (Ev.cm _) rfl (Nat.le_of_ble_eq_true rfl) rfl rfl ?_
  refine w_getR (q := 3) (Ev.cm _) rfl (Nat.le_of_ble_eq_true rfl) rfl rfl ?_
  obtain ⟨⟨r1, I1, L1⟩, e1, q⟩ := obs q
  dsimp only at q
  refine w_cvirt (o := 0) (as := [.ref 3]) (st := []) (Ev.cm _) rfl rfl rfl (Nat.le_of_ble_eq_true rfl) (Nat.le_of_ble_eq_true rfl) rfl (Nat.le_of_ble_eq_true rfl) (eo_X_mostOf_3 (g := ?_) e1)
  show Wp _ _ _ _ _ _ _ 14 [(0, .ref 0)] [.int r1] (HS I1 L1 X)
  refine w_ireturn (Ev.cm _) rfl trivial rf0 ?_
  cases q
  exact g
def FO_X_restless (fu : Nat) (I : Nat → Nat → Int32) (L : Nat → Nat → Int64) : Option (Int32 × (Nat → Nat → Int32) × (Nat → Nat → Int64)) := (FO_X_mostOf_4 fu  I L).bind (fun u1 => let r1 := u1.1; let I1 := u1.2.1; let L1 := u1.2.2; some (r1, I1, L1))
set_option maxHeartbeats 20000000 in
set_option maxRecDepth 20000 in
theorem eo_X_restless {d fu : Nat} {I : Nat → Nat → Int32} {L : Nat → Nat → Int64} {X : Nat × (Nat → Int32)} {Q : PQ} {res : Int32 × (Nat → Nat → Int32) × (Nat → Nat → Int64)} (g : Q (some (.int res.1)) (HS res.2.1 res.2.2 X)) (q : FO_X_restless fu  I L = some res) : Ev (d + 4) m_X_restless [.ref 0] (HS I L X) Q := by
  unfold FO_X_restless at q
  refine ev_start (d := d + 3) rfl rfl rfl (Nat.le_of_ble_eq_true rfl) ?_
  show Wp (Ev (d + 3)) cd_X_restless (0, 0) (some .int) _ _ Q 0 [(0, .ref 0)] [] (HS I L X)
  refine w_aload_n (Ev.cm _) rfl rfl ?_
  refine w_aload_n (Ev.cm _) rfl rfl ?_
  refine w_getR (q := 1) (Ev.cm _) rfl (Nat.le_of_ble_eq_true rfl) rfl rfl ?_
  refine w_getR (q := 2) (Ev.cm _) rfl (Nat.le_of_ble_eq_true rfl) rfl rfl ?_
  refine w_getR (q := 4) (Ev.cm _) rfl (Nat.le_of_ble_eq_true rfl) rfl rfl ?_
  obtain ⟨⟨r1, I1, L1⟩, e1, q⟩ := obs q
  dsimp only at q
  refine w_cvirt (o := 0) (as := [.ref 4]) (st := []) (Ev.cm _) rfl rfl rfl (Nat.le_of_ble_eq_true rfl) (Nat.le_of_ble_eq_true rfl) rfl (Nat.le_of_ble_eq_true rfl) (eo_X_mostOf_4 (g := ?_) e1)
  show Wp _ _ _ _ _ _ _ 14 [(0, .ref 0)] [.int r1] (HS I1 L1 X)
  refine w_ireturn (Ev.cm _) rfl trivial rf0 ?_
  cases q
  exact g
