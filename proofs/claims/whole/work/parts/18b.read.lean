/-! methods, read back by program -/
def LO_X_foretold_109 (fu : Nat) (k_92 : Int32 → Int32 → Int32 → Int32 → Int32 → Int32 → Int32 → Int32 → (Nat → Nat → Int32) → (Nat → Nat → Int64) → Option (Int32 × (Nat → Nat → Int32) × (Nat → Nat → Int64))) : Nat → Int32 → Int32 → Int32 → Int32 → Int32 → Int32 → Int32 → Int32 → Int32 → (Nat → Nat → Int32) → (Nat → Nat → Int64) → Option (Int32 × (Nat → Nat → Int32) × (Nat → Nat → Int64))
  | 0, _, _, _, _, _, _, _, _, _, _, _ => none
  | n + 1, x1, x2, x3, x4, x5, x6, x7, x8, x9, I, L => if F_X_tenants I  ≤ x9 then (k_92 x1 x2 x3 x4 x5 x6 x7 (x8 + 1) I L) else (if x9 = x2 then (if F_X_goesBy I (iR x6 4) = 0 then (LO_X_foretold_109 fu k_92 n x1 x2 x3 x4 x5 (F_X_afterX I x6) x7 x8 (x9 + 1) I L) else (if 0 ≤ (x4 + (F_X_goesBy I (iR x6 4))) ∧ (x4 + (F_X_goesBy I (iR x6 4))) ≤ 12 then (LO_X_foretold_109 fu k_92 n x1 x2 x3 (x4 + (F_X_goesBy I (iR x6 4))) (F_J_min I (x5 + 1) 9999) (F_X_afterX I x6) x7 x8 (x9 + 1) I L) else (LO_X_foretold_109 fu k_92 n x1 x2 x3 x4 x5 (F_X_afterX I x6) x7 x8 (x9 + 1) I L))) else (LO_X_foretold_109 fu k_92 n x1 x2 x3 x4 x5 (F_X_afterX I x6) x7 x8 (x9 + 1) I L))
set_option maxHeartbeats 20000000 in
set_option maxRecDepth 20000 in
theorem lo_X_foretold_109 {d fu n0 s0 : Nat} {X : Nat × (Nat → Int32)} {Q : PQ} {k_92 : Int32 → Int32 → Int32 → Int32 → Int32 → Int32 → Int32 → Int32 → (Nat → Nat → Int32) → (Nat → Nat → Int64) → Option (Int32 × (Nat → Nat → Int32) × (Nat → Nat → Int64))} {res : Int32 × (Nat → Nat → Int32) × (Nat → Nat → Int64)}  (g : Q (some (.int res.1)) (HS res.2.1 res.2.2 X)) (hk_92 : ∀ (x1 : Int32) (x2 : Int32) (x3 : Int32) (x4 : Int32) (x5 : Int32) (x6 : Int32) (x7 : Int32) (x8 : Int32) (I : Nat → Nat → Int32) (L : Nat → Nat → Int64), k_92 x1 x2 x3 x4 x5 x6 x7 x8 I L = some res → Wp (Ev (d + 3)) cd_X_foretold (0, 0) (some .int) n0 s0 Q 92 [(0, .ref 0), (1, .int x1), (2, .int x2), (3, .int x3), (4, .int x4), (5, .int x5), (6, .int x6), (7, .int x7), (8, .int x8)] [] (HS I L X)) : ∀ (n : Nat) (x1 : Int32) (x2 : Int32) (x3 : Int32) (x4 : Int32) (x5 : Int32) (x6 : Int32) (x7 : Int32) (x8 : Int32) (x9 : Int32) (I : Nat → Nat → Int32) (L : Nat → Nat → Int64), LO_X_foretold_109 fu k_92 n x1 x2 x3 x4 x5 x6 x7 x8 x9 I L = some res → Wp (Ev (d + 3)) cd_X_foretold (0, 0) (some .int) n0 s0 Q 109 [(0, .ref 0), (1, .int x1), (2, .int x2), (3, .int x3), (4, .int x4), (5, .int x5), (6, .int x6), (7, .int x7), (8, .int x8), (9, .int x9)] [] (HS I L X) := by
  intro n
  induction n with
  | zero => intro _ _ _ _ _ _ _ _ _ _ _ q; cases q
  | succ n ih =>
    intro x1 x2 x3 x4 x5 x6 x7 x8 x9 I L q
    unfold LO_X_foretold_109 at q
    refine w_iload (Ev.cm _) rfl rfl ?_
    refine w_aload_n (Ev.cm _) rfl rfl ?_
    refine w_cvirt (o := 0) (as := []) (st := [.int x9]) (Ev.cm _) rfl rfl rfl (Nat.le_of_ble_eq_true rfl) (Nat.le_of_ble_eq_true rfl) rfl (Nat.le_of_ble_eq_true rfl) (e_X_tenants ?_)
    show Wp _ _ _ _ _ _ _ 115 [(0, .ref 0), (1, .int x1), (2, .int x2), (3, .int x3), (4, .int x4), (5, .int x5), (6, .int x6), (7, .int x7), (8, .int x8), (9, .int x9)] [.int (F_X_tenants I ), .int x9] (HS I L X)
    refine w_icmp_ge (Ev.cm _) rfl (fun c1 => ?_) (fun c1 => ?_)
    · have c1 : F_X_tenants I  ≤ x9 := c1
      rw [if_pos c1] at q
      refine w_iinc (ls2 := [(0, .ref 0), (1, .int x1), (2, .int x2), (3, .int x3), (4, .int x4), (5, .int x5), (6, .int x6), (7, .int x7), (8, .int (x8 + 1)), (9, .int x9)]) (Ev.cm _) rfl rfl rfl ?_
      refine w_goto (Ev.cm _) rfl ?_
      show Wp _ _ _ _ _ _ _ 92 [(0, .ref 0), (1, .int x1), (2, .int x2), (3, .int x3), (4, .int x4), (5, .int x5), (6, .int x6), (7, .int x7), (8, .int (x8 + 1)), (9, .int x9)] [] (HS I L X)
      refine Wp.sub [0, 1, 2, 3, 4, 5, 6, 7, 8] (ls2 := [(0, .ref 0), (1, .int x1), (2, .int x2), (3, .int x3), (4, .int x4), (5, .int x5), (6, .int x6), (7, .int x7), (8, .int (x8 + 1))]) rfl ?_
      exact hk_92 _ _ _ _ _ _ _ _ _ _ q
    · have c1 : ¬ (F_X_tenants I  ≤ x9) := c1
      rw [if_neg c1] at q
      refine w_iload (Ev.cm _) rfl rfl ?_
      refine w_iload_n (Ev.cm _) rfl rfl ?_
      refine w_icmp_ne (Ev.cm _) rfl (fun c2 => ?_) (fun c2 => ?_)
      · have c2 : ¬ (x9 = x2) := c2
        rw [if_neg c2] at q
        refine w_iconst (Ev.cm _) rfl ?_
        refine w_istore (ls2 := [(0, .ref 0), (1, .int x1), (2, .int x2), (3, .int x3), (4, .int x4), (5, .int x5), (6, .int x6), (7, .int x7), (8, .int x8), (9, .int x9), (10, .int 0)]) (Ev.cm _) rfl rfl ?_
        refine w_iload (Ev.cm _) rfl rfl ?_
        refine w_if_eq (Ev.cm _) rfl (fun _ => ?_) (fun q => absurd (by decide) q)
        refine w_iload (Ev.cm _) rfl rfl ?_
        refine w_cstat (as := [.int x6]) (st := []) (Ev.cm _) rfl rfl rfl (Nat.le_of_ble_eq_true rfl) (Nat.le_of_ble_eq_true rfl) (e_X_afterX ?_)
        show Wp _ _ _ _ _ _ _ 177 [(0, .ref 0), (1, .int x1), (2, .int x2), (3, .int x3), (4, .int x4), (5, .int x5), (6, .int x6), (7, .int x7), (8, .int x8), (9, .int x9), (10, .int 0)] [.int (F_X_afterX I x6)] (HS I L X)
        refine w_istore (ls2 := [(0, .ref 0), (1, .int x1), (2, .int x2), (3, .int x3), (4, .int x4), (5, .int x5), (6, .int (F_X_afterX I x6)), (7, .int x7), (8, .int x8), (9, .int x9), (10, .int 0)]) (Ev.cm _) rfl rfl ?_
        refine w_iinc (ls2 := [(0, .ref 0), (1, .int x1), (2, .int x2), (3, .int x3), (4, .int x4), (5, .int x5), (6, .int (F_X_afterX I x6)), (7, .int x7), (8, .int x8), (9, .int (x9 + 1)), (10, .int 0)]) (Ev.cm _) rfl rfl rfl ?_
        refine w_goto (Ev.cm _) rfl ?_
        show Wp _ _ _ _ _ _ _ 109 [(0, .ref 0), (1, .int x1), (2, .int x2), (3, .int x3), (4, .int x4), (5, .int x5), (6, .int (F_X_afterX I x6)), (7, .int x7), (8, .int x8), (9, .int (x9 + 1)), (10, .int 0)] [] (HS I L X)
        refine Wp.sub [0, 1, 2, 3, 4, 5, 6, 7, 8, 9] (ls2 := [(0, .ref 0), (1, .int x1), (2, .int x2), (3, .int x3), (4, .int x4), (5, .int x5), (6, .int (F_X_afterX I x6)), (7, .int x7), (8, .int x8), (9, .int (x9 + 1))]) rfl ?_
        exact ih _ _ _ _ _ _ _ _ _ _ _ q
      · have c2 : x9 = x2 := c2
        rw [if_pos c2] at q
        refine w_iload (Ev.cm _) rfl rfl ?_
        refine w_iconst (Ev.cm _) rfl ?_
        refine w_irem (Ev.cm _) rfl (by decide) ?_
        refine w_cstat (as := [.int (iR x6 4)]) (st := []) (Ev.cm _) rfl rfl rfl (Nat.le_of_ble_eq_true rfl) (Nat.le_of_ble_eq_true rfl) (e_X_goesBy ?_)
        show Wp _ _ _ _ _ _ _ 131 [(0, .ref 0), (1, .int x1), (2, .int x2), (3, .int x3), (4, .int x4), (5, .int x5), (6, .int x6), (7, .int x7), (8, .int x8), (9, .int x9)] [.int (F_X_goesBy I (iR x6 4))] (HS I L X)
        refine w_goto (Ev.cm _) rfl ?_
        refine w_istore (ls2 := [(0, .ref 0), (1, .int x1), (2, .int x2), (3, .int x3), (4, .int x4), (5, .int x5), (6, .int x6), (7, .int x7), (8, .int x8), (9, .int x9), (10, .int (F_X_goesBy I (iR x6 4)))]) (Ev.cm _) rfl rfl ?_
        refine w_iload (Ev.cm _) rfl rfl ?_
        refine w_if_eq (Ev.cm _) rfl (fun c4 => ?_) (fun c4 => ?_)
        · have c4 : F_X_goesBy I (iR x6 4) = 0 := c4
          rw [if_pos c4] at q
          refine w_iload (Ev.cm _) rfl rfl ?_
          refine w_cstat (as := [.int x6]) (st := []) (Ev.cm _) rfl rfl rfl (Nat.le_of_ble_eq_true rfl) (Nat.le_of_ble_eq_true rfl) (e_X_afterX ?_)
          show Wp _ _ _ _ _ _ _ 177 [(0, .ref 0), (1, .int x1), (2, .int x2), (3, .int x3), (4, .int x4), (5, .int x5), (6, .int x6), (7, .int x7), (8, .int x8), (9, .int x9), (10, .int (F_X_goesBy I (iR x6 4)))] [.int (F_X_afterX I x6)] (HS I L X)
          refine w_istore (ls2 := [(0, .ref 0), (1, .int x1), (2, .int x2), (3, .int x3), (4, .int x4), (5, .int x5), (6, .int (F_X_afterX I x6)), (7, .int x7), (8, .int x8), (9, .int x9), (10, .int (F_X_goesBy I (iR x6 4)))]) (Ev.cm _) rfl rfl ?_
          refine w_iinc (ls2 := [(0, .ref 0), (1, .int x1), (2, .int x2), (3, .int x3), (4, .int x4), (5, .int x5), (6, .int (F_X_afterX I x6)), (7, .int x7), (8, .int x8), (9, .int (x9 + 1)), (10, .int (F_X_goesBy I (iR x6 4)))]) (Ev.cm _) rfl rfl rfl ?_
          refine w_goto (Ev.cm _) rfl ?_
          show Wp _ _ _ _ _ _ _ 109 [(0, .ref 0), (1, .int x1), (2, .int x2), (3, .int x3), (4, .int x4), (5, .int x5), (6, .int (F_X_afterX I x6)), (7, .int x7), (8, .int x8), (9, .int (x9 + 1)), (10, .int (F_X_goesBy I (iR x6 4)))] [] (HS I L X)
          refine Wp.sub [0, 1, 2, 3, 4, 5, 6, 7, 8, 9] (ls2 := [(0, .ref 0), (1, .int x1), (2, .int x2), (3, .int x3), (4, .int x4), (5, .int x5), (6, .int (F_X_afterX I x6)), (7, .int x7), (8, .int x8), (9, .int (x9 + 1))]) rfl ?_
          exact ih _ _ _ _ _ _ _ _ _ _ _ q
        · have c4 : ¬ (F_X_goesBy I (iR x6 4) = 0) := c4
          rw [if_neg c4] at q
          refine w_iload (Ev.cm _) rfl rfl ?_
          refine w_iload (Ev.cm _) rfl rfl ?_
          refine w_iadd (Ev.cm _) rfl ?_
          refine w_cstat (as := [.int (x4 + (F_X_goesBy I (iR x6 4)))]) (st := []) (Ev.cm _) rfl rfl rfl (Nat.le_of_ble_eq_true rfl) (Nat.le_of_ble_eq_true rfl) (x_isPlace ?_)
          show Wp _ _ _ _ _ _ _ 150 [(0, .ref 0), (1, .int x1), (2, .int x2), (3, .int x3), (4, .int x4), (5, .int x5), (6, .int x6), (7, .int x7), (8, .int x8), (9, .int x9), (10, .int (F_X_goesBy I (iR x6 4)))] [.int (bI (0 ≤ (x4 + (F_X_goesBy I (iR x6 4))) ∧ (x4 + (F_X_goesBy I (iR x6 4))) ≤ 12))] (HS I L X)
          refine w_if_eq (Ev.cm _) rfl (fun c5 => ?_) (fun c5 => ?_)
          · have c5 : ¬ (0 ≤ (x4 + (F_X_goesBy I (iR x6 4))) ∧ (x4 + (F_X_goesBy I (iR x6 4))) ≤ 12) := bI_0.mp c5
            rw [if_neg c5] at q
            refine w_iload (Ev.cm _) rfl rfl ?_
            refine w_cstat (as := [.int x6]) (st := []) (Ev.cm _) rfl rfl rfl (Nat.le_of_ble_eq_true rfl) (Nat.le_of_ble_eq_true rfl) (e_X_afterX ?_)
            show Wp _ _ _ _ _ _ _ 177 [(0, .ref 0), (1, .int x1), (2, .int x2), (3, .int x3), (4, .int x4), (5, .int x5), (6, .int x6), (7, .int x7), (8, .int x8), (9, .int x9), (10, .int (F_X_goesBy I (iR x6 4)))] [.int (F_X_afterX I x6)] (HS I L X)
            refine w_istore (ls2 := [(0, .ref 0), (1, .int x1), (2, .int x2), (3, .int x3), (4, .int x4), (5, .int x5), (6, .int (F_X_afterX I x6)), (7, .int x7), (8, .int x8), (9, .int x9), (10, .int (F_X_goesBy I (iR x6 4)))]) (Ev.cm _) rfl rfl ?_
            refine w_iinc (ls2 := [(0, .ref 0), (1, .int x1), (2, .int x2), (3, .int x3), (4, .int x4), (5, .int x5), (6, .int (F_X_afterX I x6)), (7, .int x7), (8, .int x8), (9, .int (x9 + 1)), (10, .int (F_X_goesBy I (iR x6 4)))]) (Ev.cm _) rfl rfl rfl ?_
            refine w_goto (Ev.cm _) rfl ?_
            show Wp _ _ _ _ _ _ _ 109 [(0, .ref 0), (1, .int x1), (2, .int x2), (3, .int x3), (4, .int x4), (5, .int x5), (6, .int (F_X_afterX I x6)), (7, .int x7), (8, .int x8), (9, .int (x9 + 1)), (10, .int (F_X_goesBy I (iR x6 4)))] [] (HS I L X)
            refine Wp.sub [0, 1, 2, 3, 4, 5, 6, 7, 8, 9] (ls2 := [(0, .ref 0), (1, .int x1), (2, .int x2), (3, .int x3), (4, .int x4), (5, .int x5), (6, .int (F_X_afterX I x6)), (7, .int x7), (8, .int x8), (9, .int (x9 + 1))]) rfl ?_
            exact ih _ _ _ _ _ _ _ _ _ _ _ q
          · have c5 : 0 ≤ (x4 + (F_X_goesBy I (iR x6 4))) ∧ (x4 + (F_X_goesBy I (iR x6 4))) ≤ 12 := bI_1.mp c5
            rw [if_pos c5] at q
            refine w_iload (Ev.cm _) rfl rfl ?_
            refine w_iload (Ev.cm _) rfl rfl ?_
            refine w_iadd (Ev.cm _) rfl ?_
            refine w_istore (ls2 := [(0, .ref 0), (1, .int x1), (2, .int x2), (3, .int x3), (4, .int (x4 + (F_X_goesBy I (iR x6 4)))), (5, .int x5), (6, .int x6), (7, .int x7), (8, .int x8), (9, .int x9), (10, .int (F_X_goesBy I (iR x6 4)))]) (Ev.cm _) rfl rfl ?_
            refine w_iload (Ev.cm _) rfl rfl ?_
            refine w_iconst (Ev.cm _) rfl ?_
            refine w_iadd (Ev.cm _) rfl ?_
            refine w_sipush (Ev.cm _) rfl ?_
            refine w_cstat (as := [.int (x5 + 1), .int 9999]) (st := []) (Ev.cm _) rfl rfl rfl (Nat.le_of_ble_eq_true rfl) (Nat.le_of_ble_eq_true rfl) (e_J_min ?_)
            show Wp _ _ _ _ _ _ _ 170 [(0, .ref 0), (1, .int x1), (2, .int x2), (3, .int x3), (4, .int (x4 + (F_X_goesBy I (iR x6 4)))), (5, .int x5), (6, .int x6), (7, .int x7), (8, .int x8), (9, .int x9), (10, .int (F_X_goesBy I (iR x6 4)))] [.int (F_J_min I (x5 + 1) 9999)] (HS I L X)
            refine w_istore (ls2 := [(0, .ref 0), (1, .int x1), (2, .int x2), (3, .int x3), (4, .int (x4 + (F_X_goesBy I (iR x6 4)))), (5, .int (F_J_min I (x5 + 1) 9999)), (6, .int x6), (7, .int x7), (8, .int x8), (9, .int x9), (10, .int (F_X_goesBy I (iR x6 4)))]) (Ev.cm _) rfl rfl ?_
            refine w_iload (Ev.cm _) rfl rfl ?_
            refine w_cstat (as := [.int x6]) (st := []) (Ev.cm _) rfl rfl rfl (Nat.le_of_ble_eq_true rfl) (Nat.le_of_ble_eq_true rfl) (e_X_afterX ?_)
            show Wp _ _ _ _ _ _ _ 177 [(0, .ref 0), (1, .int x1), (2, .int x2), (3, .int x3), (4, .int (x4 + (F_X_goesBy I (iR x6 4)))), (5, .int (F_J_min I (x5 + 1) 9999)), (6, .int x6), (7, .int x7), (8, .int x8), (9, .int x9), (10, .int (F_X_goesBy I (iR x6 4)))] [.int (F_X_afterX I x6)] (HS I L X)
            refine w_istore (ls2 := [(0, .ref 0), (1, .int x1), (2, .int x2), (3, .int x3), (4, .int (x4 + (F_X_goesBy I (iR x6 4)))), (5, .int (F_J_min I (x5 + 1) 9999)), (6, .int (F_X_afterX I x6)), (7, .int x7), (8, .int x8), (9, .int x9), (10, .int (F_X_goesBy I (iR x6 4)))]) (Ev.cm _) rfl rfl ?_
            refine w_iinc (ls2 := [(0, .ref 0), (1, .int x1), (2, .int x2), (3, .int x3), (4, .int (x4 + (F_X_goesBy I (iR x6 4)))), (5, .int (F_J_min I (x5 + 1) 9999)), (6, .int (F_X_afterX I x6)), (7, .int x7), (8, .int x8), (9, .int (x9 + 1)), (10, .int (F_X_goesBy I (iR x6 4)))]) (Ev.cm _) rfl rfl rfl ?_
            refine w_goto (Ev.cm _) rfl ?_
            show Wp _ _ _ _ _ _ _ 109 [(0, .ref 0), (1, .int x1), (2, .int x2), (3, .int x3), (4, .int (x4 + (F_X_goesBy I (iR x6 4)))), (5, .int (F_J_min I (x5 + 1) 9999)), (6, .int (F_X_afterX I x6)), (7, .int x7), (8, .int x8), (9, .int (x9 + 1)), (10, .int (F_X_goesBy I (iR x6 4)))] [] (HS I L X)
            refine Wp.sub [0, 1, 2, 3, 4, 5, 6, 7, 8, 9] (ls2 := [(0, .ref 0), (1, .int x1), (2, .int x2), (3, .int x3), (4, .int (x4 + (F_X_goesBy I (iR x6 4)))), (5, .int (F_J_min I (x5 + 1) 9999)), (6, .int (F_X_afterX I x6)), (7, .int x7), (8, .int x8), (9, .int (x9 + 1))]) rfl ?_
            exact ih _ _ _ _ _ _ _ _ _ _ _ q
def LO_X_foretold_92 (fu : Nat) : Nat → Int32 → Int32 → Int32 → Int32 → Int32 → Int32 → Int32 → Int32 → (Nat → Nat → Int32) → (Nat → Nat → Int64) → Option (Int32 × (Nat → Nat → Int32) × (Nat → Nat → Int64))
  | 0, _, _, _, _, _, _, _, _, _, _ => none
  | n + 1, x1, x2, x3, x4, x5, x6, x7, x8, I, L => if x7 ≤ x8 then (if x3 = 0 then (some (x4, I, L)) else (some (x5, I, L))) else (LO_X_foretold_109 fu (fun x1 x2 x3 x4 x5 x6 x7 x8 I L => LO_X_foretold_92 fu n x1 x2 x3 x4 x5 x6 x7 x8 I L) fu x1 x2 x3 x4 x5 (F_X_afterX I x6) x7 x8 0 I L)
set_option maxHeartbeats 20000000 in
set_option maxRecDepth 20000 in
theorem lo_X_foretold_92 {d fu n0 s0 : Nat} {X : Nat × (Nat → Int32)} {Q : PQ} {res : Int32 × (Nat → Nat → Int32) × (Nat → Nat → Int64)}  (g : Q (some (.int res.1)) (HS res.2.1 res.2.2 X)) : ∀ (n : Nat) (x1 : Int32) (x2 : Int32) (x3 : Int32) (x4 : Int32) (x5 : Int32) (x6 : Int32) (x7 : Int32) (x8 : Int32) (I : Nat → Nat → Int32) (L : Nat → Nat → Int64), LO_X_foretold_92 fu n x1 x2 x3 x4 x5 x6 x7 x8 I L = some res → Wp (Ev (d + 3)) cd_X_foretold (0, 0) (some .int) n0 s0 Q 92 [(0, .ref 0), (1, .int x1), (2, .int x2), (3, .int x3), (4, .int x4), (5, .int x5), (6, .int x6), (7, .int x7), (8, .int x8)] [] (HS I L X) := by
  intro n
  induction n with
  | zero => intro _ _ _ _ _ _ _ _ _ _ q; cases q
  | succ n ih =>
    intro x1 x2 x3 x4 x5 x6 x7 x8 I L q
    unfold LO_X_foretold_92 at q
    refine w_iload (Ev.cm _) rfl rfl ?_
    refine w_iload (Ev.cm _) rfl rfl ?_
    refine w_icmp_ge (Ev.cm _) rfl (fun c1 => ?_) (fun c1 => ?_)
    · have c1 : x7 ≤ x8 := c1
      rw [if_pos c1] at q
      refine w_iload_n (Ev.cm _) rfl rfl ?_
      refine w_if_ne (Ev.cm _) rfl (fun c2 => ?_) (fun c2 => ?_)
      · have c2 : ¬ (x3 = 0) := c2
        rw [if_neg c2] at q
        refine w_iload (Ev.cm _) rfl rfl ?_
        refine w_ireturn (Ev.cm _) rfl trivial rf0 ?_
        cases q
        exact g
      · have c2 : x3 = 0 := c2
        rw [if_pos c2] at q
        refine w_iload (Ev.cm _) rfl rfl ?_
        refine w_goto (Ev.cm _) rfl ?_
        refine w_ireturn (Ev.cm _) rfl trivial rf0 ?_
        cases q
        exact g
    · have c1 : ¬ (x7 ≤ x8) := c1
      rw [if_neg c1] at q
      refine w_iload (Ev.cm _) rfl rfl ?_
      refine w_cstat (as := [.int x6]) (st := []) (Ev.cm _) rfl rfl rfl (Nat.le_of_ble_eq_true rfl) (Nat.le_of_ble_eq_true rfl) (e_X_afterX ?_)
      show Wp _ _ _ _ _ _ _ 104 [(0, .ref 0), (1, .int x1), (2, .int x2), (3, .int x3), (4, .int x4), (5, .int x5), (6, .int x6), (7, .int x7), (8, .int x8)] [.int (F_X_afterX I x6)] (HS I L X)
      refine w_istore (ls2 := [(0, .ref 0), (1, .int x1), (2, .int x2), (3, .int x3), (4, .int x4), (5, .int x5), (6, .int (F_X_afterX I x6)), (7, .int x7), (8, .int x8)]) (Ev.cm _) rfl rfl ?_
      refine w_iconst (Ev.cm _) rfl ?_
      refine w_istore (ls2 := [(0, .ref 0), (1, .int x1), (2, .int x2), (3, .int x3), (4, .int x4), (5, .int x5), (6, .int (F_X_afterX I x6)), (7, .int x7), (8, .int x8), (9, .int 0)]) (Ev.cm _) rfl rfl ?_
      show Wp _ _ _ _ _ _ _ 109 [(0, .ref 0), (1, .int x1), (2, .int x2), (3, .int x3), (4, .int x4), (5, .int x5), (6, .int (F_X_afterX I x6)), (7, .int x7), (8, .int x8), (9, .int 0)] [] (HS I L X)
      refine Wp.sub [0, 1, 2, 3, 4, 5, 6, 7, 8, 9] (ls2 := [(0, .ref 0), (1, .int x1), (2, .int x2), (3, .int x3), (4, .int x4), (5, .int x5), (6, .int (F_X_afterX I x6)), (7, .int x7), (8, .int x8), (9, .int 0)]) rfl ?_
      exact lo_X_foretold_109 g (fun x1 x2 x3 x4 x5 x6 x7 x8 I L q => ih x1 x2 x3 x4 x5 x6 x7 x8 I L q) fu _ _ _ _ _ _ _ _ _ _ _ q
def FO_X_foretold (fu : Nat) (p0 : Int32) (p1 : Int32) (p2 : Int32) (I : Nat → Nat → Int32) (L : Nat → Nat → Int64) : Option (Int32 × (Nat → Nat → Int32) × (Nat → Nat → Int64)) := if (1 : Int32) ≤ p0 ∧ p0 ≤ (60 : Int32) then (if F_X_isLodger I p1 = 0 then (some ((-1), I, L)) else (if (0 : Int32) ≤ p2 ∧ p2 ≤ (1 : Int32) then (if 0 ≤ p1 ∧ p1 < 6 then (if 0 ≤ p1 ∧ p1 < 6 then (LO_X_foretold_92 fu fu p0 p1 p2 (I 3 p1.toNatClampNeg) (I 4 p1.toNatClampNeg) (I 2 1) (F_J_min I p0 ((9999 : Int32) - (I 2 0))) 0 I L) else none) else none) else (some ((-1), I, L)))) else (some ((-1), I, L))
set_option maxHeartbeats 20000000 in
set_option maxRecDepth 20000 in
theorem eo_X_foretold {d fu : Nat} {p0 : Int32} {p1 : Int32} {p2 : Int32} {I : Nat → Nat → Int32} {L : Nat → Nat → Int64} {X : Nat × (Nat → Int32)} {Q : PQ} {res : Int32 × (Nat → Nat → Int32) × (Nat → Nat → Int64)}  (g : Q (some (.int res.1)) (HS res.2.1 res.2.2 X)) (q : FO_X_foretold fu p0 p1 p2 I L = some res) : Ev (d + 4) m_X_foretold [.ref 0, .int p0, .int p1, .int p2] (HS I L X) Q := by
  unfold FO_X_foretold at q
  refine ev_start (d := d + 3) rfl rfl rfl (Nat.le_of_ble_eq_true rfl) ?_
  show Wp (Ev (d + 3)) cd_X_foretold (0, 0) (some .int) _ _ Q 0 [(0, .ref 0), (1, .int p0), (2, .int p1), (3, .int p2)] [] (HS I L X)
  refine w_iload_n (Ev.cm _) rfl rfl ?_
  refine w_iconst (Ev.cm _) rfl ?_
  refine w_bipush (Ev.cm _) rfl ?_
  refine w_cstat (as := [.int p0, .int 1, .int 60]) (st := []) (Ev.cm _) rfl rfl rfl (Nat.le_of_ble_eq_true rfl) (Nat.le_of_ble_eq_true rfl) (x_within ?_)
  show Wp _ _ _ _ _ _ _ 7 [(0, .ref 0), (1, .int p0), (2, .int p1), (3, .int p2)] [.int (bI ((1 : Int32) ≤ p0 ∧ p0 ≤ (60 : Int32)))] (HS I L X)
  refine w_if_eq (Ev.cm _) rfl (fun c1 => ?_) (fun c1 => ?_)
  · have c1 : ¬ ((1 : Int32) ≤ p0 ∧ p0 ≤ (60 : Int32)) := bI_0.mp c1
    rw [if_neg c1] at q
    refine w_iconst (Ev.cm _) rfl ?_
    refine w_ireturn (Ev.cm _) rfl trivial rf0 ?_
    cases q
    exact g
  · have c1 : (1 : Int32) ≤ p0 ∧ p0 ≤ (60 : Int32) := bI_1.mp c1
    rw [if_pos c1] at q
    refine w_aload_n (Ev.cm _) rfl rfl ?_
    refine w_iload_n (Ev.cm _) rfl rfl ?_
    refine w_cvirt (o := 0) (as := [.int p1]) (st := []) (Ev.cm _) rfl rfl rfl (Nat.le_of_ble_eq_true rfl) (Nat.le_of_ble_eq_true rfl) rfl (Nat.le_of_ble_eq_true rfl) (e_X_isLodger ?_)
    show Wp _ _ _ _ _ _ _ 15 [(0, .ref 0), (1, .int p0), (2, .int p1), (3, .int p2)] [.int (F_X_isLodger I p1)] (HS I L X)
    refine w_if_eq (Ev.cm _) rfl (fun c2 => ?_) (fun c2 => ?_)
    · have c2 : F_X_isLodger I p1 = 0 := c2
      rw [if_pos c2] at q
      refine w_iconst (Ev.cm _) rfl ?_
      refine w_ireturn (Ev.cm _) rfl trivial rf0 ?_
      cases q
      exact g
    · have c2 : ¬ (F_X_isLodger I p1 = 0) := c2
      rw [if_neg c2] at q
      refine w_iload_n (Ev.cm _) rfl rfl ?_
      refine w_iconst (Ev.cm _) rfl ?_
      refine w_iconst (Ev.cm _) rfl ?_
      refine w_cstat (as := [.int p2, .int 0, .int 1]) (st := []) (Ev.cm _) rfl rfl rfl (Nat.le_of_ble_eq_true rfl) (Nat.le_of_ble_eq_true rfl) (x_within ?_)
      show Wp _ _ _ _ _ _ _ 24 [(0, .ref 0), (1, .int p0), (2, .int p1), (3, .int p2)] [.int (bI ((0 : Int32) ≤ p2 ∧ p2 ≤ (1 : Int32)))] (HS I L X)
      refine w_if_ne (Ev.cm _) rfl (fun c3 => ?_) (fun c3 => ?_)
      · have c3 : (0 : Int32) ≤ p2 ∧ p2 ≤ (1 : Int32) := bI_1.mp c3
        rw [if_pos c3] at q
        refine w_aload_n (Ev.cm _) rfl rfl ?_
        refine w_getR (q := 1) (Ev.cm _) rfl (Nat.le_of_ble_eq_true rfl) rfl rfl ?_
        refine w_getR (q := 2) (Ev.cm _) rfl (Nat.le_of_ble_eq_true rfl) rfl rfl ?_
        refine w_getR (q := 3) (Ev.cm _) rfl (Nat.le_of_ble_eq_true rfl) rfl rfl ?_
        refine w_iload_n (Ev.cm _) rfl rfl ?_
        obtain ⟨b1, q⟩ := ois q
        refine w_iald (Ev.cm _) rfl (Nat.le_of_ble_eq_true rfl) rfl (show vp_in p1 6 from vpI 6 (by decide) b1.1 b1.2) ?_
        refine w_istore (ls2 := [(0, .ref 0), (1, .int p0), (2, .int p1), (3, .int p2), (4, .int (I 3 p1.toNatClampNeg))]) (Ev.cm _) rfl rfl ?_
        refine w_aload_n (Ev.cm _) rfl rfl ?_
        refine w_getR (q := 1) (Ev.cm _) rfl (Nat.le_of_ble_eq_true rfl) rfl rfl ?_
        refine w_getR (q := 2) (Ev.cm _) rfl (Nat.le_of_ble_eq_true rfl) rfl rfl ?_
        refine w_getR (q := 4) (Ev.cm _) rfl (Nat.le_of_ble_eq_true rfl) rfl rfl ?_
        refine w_iload_n (Ev.cm _) rfl rfl ?_
        obtain ⟨b2, q⟩ := ois q
        refine w_iald (Ev.cm _) rfl (Nat.le_of_ble_eq_true rfl) rfl (show vp_in p1 6 from vpI 6 (by decide) b2.1 b2.2) ?_
        refine w_istore (ls2 := [(0, .ref 0), (1, .int p0), (2, .int p1), (3, .int p2), (4, .int (I 3 p1.toNatClampNeg)), (5, .int (I 4 p1.toNatClampNeg))]) (Ev.cm _) rfl rfl ?_
        refine w_aload_n (Ev.cm _) rfl rfl ?_
        refine w_getR (q := 1) (Ev.cm _) rfl (Nat.le_of_ble_eq_true rfl) rfl rfl ?_
        refine w_getR (q := 2) (Ev.cm _) rfl (Nat.le_of_ble_eq_true rfl) rfl rfl ?_
        refine w_getI (Ev.cm _) rfl (Nat.le_of_ble_eq_true rfl) rfl ?_
        refine w_istore (ls2 := [(0, .ref 0), (1, .int p0), (2, .int p1), (3, .int p2), (4, .int (I 3 p1.toNatClampNeg)), (5, .int (I 4 p1.toNatClampNeg)), (6, .int (I 2 1))]) (Ev.cm _) rfl rfl ?_
        refine w_iload_n (Ev.cm _) rfl rfl ?_
        refine w_sipush (Ev.cm _) rfl ?_
        refine w_aload_n (Ev.cm _) rfl rfl ?_
        refine w_getR (q := 1) (Ev.cm _) rfl (Nat.le_of_ble_eq_true rfl) rfl rfl ?_
        refine w_getR (q := 2) (Ev.cm _) rfl (Nat.le_of_ble_eq_true rfl) rfl rfl ?_
        refine w_getI (Ev.cm _) rfl (Nat.le_of_ble_eq_true rfl) rfl ?_
        refine w_isub (Ev.cm _) rfl ?_
        refine w_cstat (as := [.int p0, .int ((9999 : Int32) - (I 2 0))]) (st := []) (Ev.cm _) rfl rfl rfl (Nat.le_of_ble_eq_true rfl) (Nat.le_of_ble_eq_true rfl) (e_J_min ?_)
        show Wp _ _ _ _ _ _ _ 87 [(0, .ref 0), (1, .int p0), (2, .int p1), (3, .int p2), (4, .int (I 3 p1.toNatClampNeg)), (5, .int (I 4 p1.toNatClampNeg)), (6, .int (I 2 1))] [.int (F_J_min I p0 ((9999 : Int32) - (I 2 0)))] (HS I L X)
        refine w_istore (ls2 := [(0, .ref 0), (1, .int p0), (2, .int p1), (3, .int p2), (4, .int (I 3 p1.toNatClampNeg)), (5, .int (I 4 p1.toNatClampNeg)), (6, .int (I 2 1)), (7, .int (F_J_min I p0 ((9999 : Int32) - (I 2 0))))]) (Ev.cm _) rfl rfl ?_
        refine w_iconst (Ev.cm _) rfl ?_
        refine w_istore (ls2 := [(0, .ref 0), (1, .int p0), (2, .int p1), (3, .int p2), (4, .int (I 3 p1.toNatClampNeg)), (5, .int (I 4 p1.toNatClampNeg)), (6, .int (I 2 1)), (7, .int (F_J_min I p0 ((9999 : Int32) - (I 2 0)))), (8, .int 0)]) (Ev.cm _) rfl rfl ?_
        show Wp _ _ _ _ _ _ _ 92 [(0, .ref 0), (1, .int p0), (2, .int p1), (3, .int p2), (4, .int (I 3 p1.toNatClampNeg)), (5, .int (I 4 p1.toNatClampNeg)), (6, .int (I 2 1)), (7, .int (F_J_min I p0 ((9999 : Int32) - (I 2 0)))), (8, .int 0)] [] (HS I L X)
        refine Wp.sub [0, 1, 2, 3, 4, 5, 6, 7, 8] (ls2 := [(0, .ref 0), (1, .int p0), (2, .int p1), (3, .int p2), (4, .int (I 3 p1.toNatClampNeg)), (5, .int (I 4 p1.toNatClampNeg)), (6, .int (I 2 1)), (7, .int (F_J_min I p0 ((9999 : Int32) - (I 2 0)))), (8, .int 0)]) rfl ?_
        exact lo_X_foretold_92 g fu _ _ _ _ _ _ _ _ _ _ q
      · have c3 : ¬ ((0 : Int32) ≤ p2 ∧ p2 ≤ (1 : Int32)) := bI_0.mp c3
        rw [if_neg c3] at q
        refine w_iconst (Ev.cm _) rfl ?_
        refine w_ireturn (Ev.cm _) rfl trivial rf0 ?_
        cases q
        exact g
def FO_X_change (fu : Nat) (p0 : Int32) (p1 : Int32) (p2 : Int32) (I : Nat → Nat → Int32) (L : Nat → Nat → Int64) : Option (Int32 × (Nat → Nat → Int32) × (Nat → Nat → Int64)) := if 0 ≤ p0 ∧ p0 ≤ 2 then (if 0 ≤ p1 ∧ p1 ≤ 2 then (if (0 : Int32) ≤ p2 ∧ p2 ≤ (9 : Int32) then (if 0 ≤ (p0 * 3) + p1 ∧ (p0 * 3) + p1 < 9 then (some (1, sI I 131 (((p0 * 3) + p1).toNatClampNeg) p2, L)) else none) else (some (0, I, L))) else (some (0, I, L))) else (some (0, I, L))
set_option maxHeartbeats 20000000 in
set_option maxRecDepth 20000 in
theorem eo_X_change {d fu : Nat} {p0 : Int32} {p1 : Int32} {p2 : Int32} {I : Nat → Nat → Int32} {L : Nat → Nat → Int64} {X : Nat × (Nat → Int32)} {Q : PQ} {res : Int32 × (Nat → Nat → Int32) × (Nat → Nat → Int64)}  (g : Q (some (.int res.1)) (HS res.2.1 res.2.2 X)) (q : FO_X_change fu p0 p1 p2 I L = some res) : Ev (d + 3) m_X_change [.ref 0, .int p0, .int p1, .int p2] (HS I L X) Q := by
  unfold FO_X_change at q
  refine ev_start (d := d + 2) rfl rfl rfl (Nat.le_of_ble_eq_true rfl) ?_
  show Wp (Ev (d + 2)) cd_X_change (0, 0) (some .boolean) _ _ Q 0 [(0, .ref 0), (1, .int p0), (2, .int p1), (3, .int p2)] [] (HS I L X)
  refine w_iload_n (Ev.cm _) rfl rfl ?_
  refine w_cstat (as := [.int p0]) (st := []) (Ev.cm _) rfl rfl rfl (Nat.le_of_ble_eq_true rfl) (Nat.le_of_ble_eq_true rfl) (x_isMood ?_)
  show Wp _ _ _ _ _ _ _ 4 [(0, .ref 0), (1, .int p0), (2, .int p1), (3, .int p2)] [.int (bI (0 ≤ p0 ∧ p0 ≤ 2))] (HS I L X)
  refine w_if_eq (Ev.cm _) rfl (fun c1 => ?_) (fun c1 => ?_)
  · have c1 : ¬ (0 ≤ p0 ∧ p0 ≤ 2) := bI_0.mp c1
    rw [if_neg c1] at q
    refine w_iconst (Ev.cm _) rfl ?_
    refine w_ireturn (Ev.cm _) rfl (by first | exact rok_0 | exact rok_1 | exact rok_b) rf0 ?_
    cases q
    exact g
  · have c1 : 0 ≤ p0 ∧ p0 ≤ 2 := bI_1.mp c1
    rw [if_pos c1] at q
    refine w_iload_n (Ev.cm _) rfl rfl ?_
    refine w_cstat (as := [.int p1]) (st := []) (Ev.cm _) rfl rfl rfl (Nat.le_of_ble_eq_true rfl) (Nat.le_of_ble_eq_true rfl) (x_isMood ?_)
    show Wp _ _ _ _ _ _ _ 11 [(0, .ref 0), (1, .int p0), (2, .int p1), (3, .int p2)] [.int (bI (0 ≤ p1 ∧ p1 ≤ 2))] (HS I L X)
    refine w_if_eq (Ev.cm _) rfl (fun c2 => ?_) (fun c2 => ?_)
    · have c2 : ¬ (0 ≤ p1 ∧ p1 ≤ 2) := bI_0.mp c2
      rw [if_neg c2] at q
      refine w_iconst (Ev.cm _) rfl ?_
      refine w_ireturn (Ev.cm _) rfl (by first | exact rok_0 | exact rok_1 | exact rok_b) rf0 ?_
      cases q
      exact g
    · have c2 : 0 ≤ p1 ∧ p1 ≤ 2 := bI_1.mp c2
      rw [if_pos c2] at q
      refine w_iload_n (Ev.cm _) rfl rfl ?_
      refine w_iconst (Ev.cm _) rfl ?_
      refine w_bipush (Ev.cm _) rfl ?_
      refine w_cstat (as := [.int p2, .int 0, .int 9]) (st := []) (Ev.cm _) rfl rfl rfl (Nat.le_of_ble_eq_true rfl) (Nat.le_of_ble_eq_true rfl) (x_within ?_)
      show Wp _ _ _ _ _ _ _ 21 [(0, .ref 0), (1, .int p0), (2, .int p1), (3, .int p2)] [.int (bI ((0 : Int32) ≤ p2 ∧ p2 ≤ (9 : Int32)))] (HS I L X)
      refine w_if_ne (Ev.cm _) rfl (fun c3 => ?_) (fun c3 => ?_)
      · have c3 : (0 : Int32) ≤ p2 ∧ p2 ≤ (9 : Int32) := bI_1.mp c3
        rw [if_pos c3] at q
        refine w_aload_n (Ev.cm _) rfl rfl ?_
        refine w_getR (q := 1) (Ev.cm _) rfl (Nat.le_of_ble_eq_true rfl) rfl rfl ?_
        refine w_getR (q := 131) (Ev.cm _) rfl (Nat.le_of_ble_eq_true rfl) rfl rfl ?_
        refine w_iload_n (Ev.cm _) rfl rfl ?_
        refine w_iconst (Ev.cm _) rfl ?_
        refine w_imul (Ev.cm _) rfl ?_
        refine w_iload_n (Ev.cm _) rfl rfl ?_
        refine w_iadd (Ev.cm _) rfl ?_
        refine w_iload_n (Ev.cm _) rfl rfl ?_
        obtain ⟨b1, q⟩ := ois q
        refine w_iast (Ev.cm _) rfl (Nat.le_of_ble_eq_true rfl) rfl (show vp_in ((p0 * 3) + p1) 9 from vpI 9 (by decide) b1.1 b1.2) ?_
        refine w_iconst (Ev.cm _) rfl ?_
        refine w_ireturn (Ev.cm _) rfl (by first | exact rok_0 | exact rok_1 | exact rok_b) rf0 ?_
        cases q
        exact g
      · have c3 : ¬ ((0 : Int32) ≤ p2 ∧ p2 ≤ (9 : Int32)) := bI_0.mp c3
        rw [if_neg c3] at q
        refine w_iconst (Ev.cm _) rfl ?_
        refine w_ireturn (Ev.cm _) rfl (by first | exact rok_0 | exact rok_1 | exact rok_b) rf0 ?_
        cases q
        exact g
def FO_X_sound (fu : Nat) (p0 : Int32) (p1 : Int32) (p2 : Int32) (I : Nat → Nat → Int32) (L : Nat → Nat → Int64) : Option (Int32 × (Nat → Nat → Int32) × (Nat → Nat → Int64)) := if 0 ≤ p0 ∧ p0 ≤ 2 then (if 0 ≤ p1 ∧ p1 ≤ 2 then (if (0 : Int32) ≤ p2 ∧ p2 ≤ (9 : Int32) then (if 0 ≤ (p0 * 3) + p1 ∧ (p0 * 3) + p1 < 9 then (some (1, sI I 132 (((p0 * 3) + p1).toNatClampNeg) p2, L)) else none) else (some (0, I, L))) else (some (0, I, L))) else (some (0, I, L))
set_option maxHeartbeats 20000000 in
set_option maxRecDepth 20000 in
theorem eo_X_sound {d fu : Nat} {p0 : Int32} {p1 : Int32} {p2 : Int32} {I : Nat → Nat → Int32} {L : Nat → Nat → Int64} {X : Nat × (Nat → Int32)} {Q : PQ} {res : Int32 × (Nat → Nat → Int32) × (Nat → Nat → Int64)}  (g : Q (some (.int res.1)) (HS res.2.1 res.2.2 X)) (q : FO_X_sound fu p0 p1 p2 I L = some res) : Ev (d + 3) m_X_sound [.ref 0, .int p0, .int p1, .int p2] (HS I L X) Q := by
  unfold FO_X_sound at q
  refine ev_start (d := d + 2) rfl rfl rfl (Nat.le_of_ble_eq_true rfl) ?_
  show Wp (Ev (d + 2)) cd_X_sound (0, 0) (some .boolean) _ _ Q 0 [(0, .ref 0), (1, .int p0), (2, .int p1), (3, .int p2)] [] (HS I L X)
  refine w_iload_n (Ev.cm _) rfl rfl ?_
  refine w_cstat (as := [.int p0]) (st := []) (Ev.cm _) rfl rfl rfl (Nat.le_of_ble_eq_true rfl) (Nat.le_of_ble_eq_true rfl) (x_isMood ?_)
  show Wp _ _ _ _ _ _ _ 4 [(0, .ref 0), (1, .int p0), (2, .int p1), (3, .int p2)] [.int (bI (0 ≤ p0 ∧ p0 ≤ 2))] (HS I L X)
  refine w_if_eq (Ev.cm _) rfl (fun c1 => ?_) (fun c1 => ?_)
  · have c1 : ¬ (0 ≤ p0 ∧ p0 ≤ 2) := bI_0.mp c1
    rw [if_neg c1] at q
    refine w_iconst (Ev.cm _) rfl ?_
    refine w_ireturn (Ev.cm _) rfl (by first | exact rok_0 | exact rok_1 | exact rok_b) rf0 ?_
    cases q
    exact g
  · have c1 : 0 ≤ p0 ∧ p0 ≤ 2 := bI_1.mp c1
    rw [if_pos c1] at q
    refine w_iload_n (Ev.cm _) rfl rfl ?_
    refine w_cstat (as := [.int p1]) (st := []) (Ev.cm _) rfl rfl rfl (Nat.le_of_ble_eq_true rfl) (Nat.le_of_ble_eq_true rfl) (x_isMood ?_)
    show Wp _ _ _ _ _ _ _ 11 [(0, .ref 0), (1, .int p0), (2, .int p1), (3, .int p2)] [.int (bI (0 ≤ p1 ∧ p1 ≤ 2))] (HS I L X)
    refine w_if_eq (Ev.cm _) rfl (fun c2 => ?_) (fun c2 => ?_)
    · have c2 : ¬ (0 ≤ p1 ∧ p1 ≤ 2) := bI_0.mp c2
      rw [if_neg c2] at q
      refine w_iconst (Ev.cm _) rfl ?_
      refine w_ireturn (Ev.cm _) rfl (by first | exact rok_0 | exact rok_1 | exact rok_b) rf0 ?_
      cases q
      exact g
    · have c2 : 0 ≤ p1 ∧ p1 ≤ 2 := bI_1.mp c2
      rw [if_pos c2] at q
      refine w_iload_n (Ev.cm _) rfl rfl ?_
      refine w_iconst (Ev.cm _) rfl ?_
      refine w_bipush (Ev.cm _) rfl ?_
      refine w_cstat (as := [.int p2, .int 0, .int 9]) (st := []) (Ev.cm _) rfl rfl rfl (Nat.le_of_ble_eq_true rfl) (Nat.le_of_ble_eq_true rfl) (x_within ?_)
      show Wp _ _ _ _ _ _ _ 21 [(0, .ref 0), (1, .int p0), (2, .int p1), (3, .int p2)] [.int (bI ((0 : Int32) ≤ p2 ∧ p2 ≤ (9 : Int32)))] (HS I L X)
      refine w_if_ne (Ev.cm _) rfl (fun c3 => ?_) (fun c3 => ?_)
      · have c3 : (0 : Int32) ≤ p2 ∧ p2 ≤ (9 : Int32) := bI_1.mp c3
        rw [if_pos c3] at q
        refine w_aload_n (Ev.cm _) rfl rfl ?_
        refine w_getR (q := 1) (Ev.cm _) rfl (Nat.le_of_ble_eq_true rfl) rfl rfl ?_
        refine w_getR (q := 132) (Ev.cm _) rfl (Nat.le_of_ble_eq_true rfl) rfl rfl ?_
        refine w_iload_n (Ev.cm _) rfl rfl ?_
        refine w_iconst (Ev.cm _) rfl ?_
        refine w_imul (Ev.cm _) rfl ?_
        refine w_iload_n (Ev.cm _) rfl rfl ?_
        refine w_iadd (Ev.cm _) rfl ?_
        refine w_iload_n (Ev.cm _) rfl rfl ?_
        obtain ⟨b1, q⟩ := ois q
        refine w_iast (Ev.cm _) rfl (Nat.le_of_ble_eq_true rfl) rfl (show vp_in ((p0 * 3) + p1) 9 from vpI 9 (by decide) b1.1 b1.2) ?_
        refine w_iconst (Ev.cm _) rfl ?_
        refine w_ireturn (Ev.cm _) rfl (by first | exact rok_0 | exact rok_1 | exact rok_b) rf0 ?_
        cases q
        exact g
      · have c3 : ¬ ((0 : Int32) ≤ p2 ∧ p2 ≤ (9 : Int32)) := bI_0.mp c3
        rw [if_neg c3] at q
        refine w_iconst (Ev.cm _) rfl ?_
        refine w_ireturn (Ev.cm _) rfl (by first | exact rok_0 | exact rok_1 | exact rok_b) rf0 ?_
        cases q
        exact g
def FO_X_listen (fu : Nat) (p0 : Int32) (I : Nat → Nat → Int32) (L : Nat → Nat → Int64) : Option (Int32 × (Nat → Nat → Int32) × (Nat → Nat → Int64)) := if p0 = (-1) then (some (0, sI I 1 11 0, L)) else (if 0 ≤ p0 ∧ p0 ≤ 2 then (if (0 : Int32) ≤ (I 1 11) ∧ (I 1 11) ≤ (5 : Int32) then (if 0 ≤ I 1 11 ∧ I 1 11 < 6 then (some ((I 1 11) + 1, sI (sI I 133 ((I 1 11).toNatClampNeg) p0) 1 11 ((I 1 11) + 1), L)) else none) else (some ((-2), I, L))) else (some ((-2), I, L)))
set_option maxHeartbeats 20000000 in
set_option maxRecDepth 20000 in
theorem eo_X_listen {d fu : Nat} {p0 : Int32} {I : Nat → Nat → Int32} {L : Nat → Nat → Int64} {X : Nat × (Nat → Int32)} {Q : PQ} {res : Int32 × (Nat → Nat → Int32) × (Nat → Nat → Int64)}  (g : Q (some (.int res.1)) (HS res.2.1 res.2.2 X)) (q : FO_X_listen fu p0 I L = some res) : Ev (d + 3) m_X_listen [.ref 0, .int p0] (HS I L X) Q := by
  unfold FO_X_listen at q
  refine ev_start (d := d + 2) rfl rfl rfl (Nat.le_of_ble_eq_true rfl) ?_
  show Wp (Ev (d + 2)) cd_X_listen (0, 0) (some .int) _ _ Q 0 [(0, .ref 0), (1, .int p0)] [] (HS I L X)
  refine w_iload_n (Ev.cm _) rfl rfl ?_
  refine w_iconst (Ev.cm _) rfl ?_
  refine w_icmp_ne (Ev.cm _) rfl (fun c1 => ?_) (fun c1 => ?_)
  · have c1 : ¬ (p0 = (-1)) := c1
    rw [if_neg c1] at q
    refine w_iload_n (Ev.cm _) rfl rfl ?_
    refine w_cstat (as := [.int p0]) (st := []) (Ev.cm _) rfl rfl rfl (Nat.le_of_ble_eq_true rfl) (Nat.le_of_ble_eq_true rfl) (x_isMood ?_)
    show Wp _ _ _ _ _ _ _ 19 [(0, .ref 0), (1, .int p0)] [.int (bI (0 ≤ p0 ∧ p0 ≤ 2))] (HS I L X)
    refine w_if_eq (Ev.cm _) rfl (fun c2 => ?_) (fun c2 => ?_)
    · have c2 : ¬ (0 ≤ p0 ∧ p0 ≤ 2) := bI_0.mp c2
      rw [if_neg c2] at q
      refine w_bipush (Ev.cm _) rfl ?_
      refine w_ireturn (Ev.cm _) rfl trivial rf0 ?_
      cases q
      exact g
    · have c2 : 0 ≤ p0 ∧ p0 ≤ 2 := bI_1.mp c2
      rw [if_pos c2] at q
      refine w_aload_n (Ev.cm _) rfl rfl ?_
      refine w_getR (q := 1) (Ev.cm _) rfl (Nat.le_of_ble_eq_true rfl) rfl rfl ?_
      refine w_getI (Ev.cm _) rfl (Nat.le_of_ble_eq_true rfl) rfl ?_
      refine w_iconst (Ev.cm _) rfl ?_
      refine w_iconst (Ev.cm _) rfl ?_
      refine w_cstat (as := [.int (I 1 11), .int 0, .int 5]) (st := []) (Ev.cm _) rfl rfl rfl (Nat.le_of_ble_eq_true rfl) (Nat.le_of_ble_eq_true rfl) (x_within ?_)
      show Wp _ _ _ _ _ _ _ 34 [(0, .ref 0), (1, .int p0)] [.int (bI ((0 : Int32) ≤ (I 1 11) ∧ (I 1 11) ≤ (5 : Int32)))] (HS I L X)
      refine w_if_ne (Ev.cm _) rfl (fun c3 => ?_) (fun c3 => ?_)
      · have c3 : (0 : Int32) ≤ (I 1 11) ∧ (I 1 11) ≤ (5 : Int32) := bI_1.mp c3
        rw [if_pos c3] at q
        refine w_aload_n (Ev.cm _) rfl rfl ?_
        refine w_getR (q := 1) (Ev.cm _) rfl (Nat.le_of_ble_eq_true rfl) rfl rfl ?_
        refine w_getR (q := 133) (Ev.cm _) rfl (Nat.le_of_ble_eq_true rfl) rfl rfl ?_
        refine w_aload_n (Ev.cm _) rfl rfl ?_
        refine w_getR (q := 1) (Ev.cm _) rfl (Nat.le_of_ble_eq_true rfl) rfl rfl ?_
        refine w_getI (Ev.cm _) rfl (Nat.le_of_ble_eq_true rfl) rfl ?_
        refine w_iload_n (Ev.cm _) rfl rfl ?_
        obtain ⟨b1, q⟩ := ois q
        refine w_iast (Ev.cm _) rfl (Nat.le_of_ble_eq_true rfl) rfl (show vp_in (I 1 11) 6 from vpI 6 (by decide) b1.1 b1.2) ?_
        refine w_aload_n (Ev.cm _) rfl rfl ?_
        refine w_getR (q := 1) (Ev.cm _) rfl (Nat.le_of_ble_eq_true rfl) rfl rfl ?_
        refine w_dup (Ev.cm _) rfl rfl ?_
        refine w_getI (Ev.cm _) rfl (Nat.le_of_ble_eq_true rfl) rfl ?_
        refine w_iconst (Ev.cm _) rfl ?_
        refine w_iadd (Ev.cm _) rfl ?_
        refine w_putI (Ev.cm _) rfl (Nat.le_of_ble_eq_true rfl) rfl ?_
        refine w_aload_n (Ev.cm _) rfl rfl ?_
        refine w_getR (q := 1) (Ev.cm _) rfl (Nat.le_of_ble_eq_true rfl) rfl rfl ?_
        refine w_getI (Ev.cm _) rfl (Nat.le_of_ble_eq_true rfl) rfl ?_
        refine w_ireturn (Ev.cm _) rfl trivial rf0 ?_
        cases q
        exact g
      · have c3 : ¬ ((0 : Int32) ≤ (I 1 11) ∧ (I 1 11) ≤ (5 : Int32)) := bI_0.mp c3
        rw [if_neg c3] at q
        refine w_bipush (Ev.cm _) rfl ?_
        refine w_ireturn (Ev.cm _) rfl trivial rf0 ?_
        cases q
        exact g
  · have c1 : p0 = (-1) := c1
    rw [if_pos c1] at q
    refine w_aload_n (Ev.cm _) rfl rfl ?_
    refine w_getR (q := 1) (Ev.cm _) rfl (Nat.le_of_ble_eq_true rfl) rfl rfl ?_
    refine w_iconst (Ev.cm _) rfl ?_
    refine w_putI (Ev.cm _) rfl (Nat.le_of_ble_eq_true rfl) rfl ?_
    refine w_iconst (Ev.cm _) rfl ?_
    refine w_ireturn (Ev.cm _) rfl trivial rf0 ?_
    cases q
    exact g
def FO_X_code (fu : Nat) (p0 : Int32) (I : Nat → Nat → Int32) (L : Nat → Nat → Int64) : Option (Int32 × (Nat → Nat → Int32) × (Nat → Nat → Int64)) := if p0 = (-1) then (some (0, sI I 1 13 0, L)) else (if (1 : Int32) ≤ p0 ∧ p0 ≤ (22222 : Int32) then (if (0 : Int32) ≤ (I 1 13) ∧ (I 1 13) ≤ (4 : Int32) then ((FO_C_keyOf fu p0 I L).bind (fun u1 => let r1 := u1.1; let I1 := u1.2.1; let L1 := u1.2.2; if r1 = 0 then (some ((-2), I1, L1)) else ((FO_C_isWord fu r1 I1 L1).bind (fun u2 => let r2 := u2.1; let I2 := u2.2.1; let L2 := u2.2.2; if r2 = 0 then (if 0 ≤ I2 1 13 ∧ I2 1 13 < 5 then (some ((I2 1 13) + 1, sI (sI I2 134 ((I2 1 13).toNatClampNeg) r1) 1 13 ((I2 1 13) + 1), L2)) else none) else (some ((-2), I2, L2)))))) else (some ((-2), I, L))) else (some ((-2), I, L)))
set_option maxHeartbeats 20000000 in
set_option maxRecDepth 20000 in
theorem eo_X_code {d fu : Nat} {p0 : Int32} {I : Nat → Nat → Int32} {L : Nat → Nat → Int64} {X : Nat × (Nat → Int32)} {Q : PQ} {res : Int32 × (Nat → Nat → Int32) × (Nat → Nat → Int64)}  (g : Q (some (.int res.1)) (HS res.2.1 res.2.2 X)) (q : FO_X_code fu p0 I L = some res) : Ev (d + 3) m_X_code [.ref 0, .int p0] (HS I L X) Q := by
  unfold FO_X_code at q
  refine ev_start (d := d + 2) rfl rfl rfl (Nat.le_of_ble_eq_true rfl) ?_
  show Wp (Ev (d + 2)) cd_X_code (0, 0) (some .int) _ _ Q 0 [(0, .ref 0), (1, .int p0)] [] (HS I L X)
  refine w_iload_n (Ev.cm _) rfl rfl ?_
  refine w_iconst (Ev.cm _) rfl ?_
  refine w_icmp_ne (Ev.cm _) rfl (fun c1 => ?_) (fun c1 => ?_)
  · have c1 : ¬ (p0 = (-1)) := c1
    rw [if_neg c1] at q
    refine w_iload_n (Ev.cm _) rfl rfl ?_
    refine w_iconst (Ev.cm _) rfl ?_
    refine w_sipush (Ev.cm _) rfl ?_
    refine w_cstat (as := [.int p0, .int 1, .int 22222]) (st := []) (Ev.cm _) rfl rfl rfl (Nat.le_of_ble_eq_true rfl) (Nat.le_of_ble_eq_true rfl) (x_within ?_)
    show Wp _ _ _ _ _ _ _ 23 [(0, .ref 0), (1, .int p0)] [.int (bI ((1 : Int32) ≤ p0 ∧ p0 ≤ (22222 : Int32)))] (HS I L X)
    refine w_if_eq (Ev.cm _) rfl (fun c2 => ?_) (fun c2 => ?_)
    · have c2 : ¬ ((1 : Int32) ≤ p0 ∧ p0 ≤ (22222 : Int32)) := bI_0.mp c2
      rw [if_neg c2] at q
      refine w_bipush (Ev.cm _) rfl ?_
      refine w_ireturn (Ev.cm _) rfl trivial rf0 ?_
      cases q
      exact g
    · have c2 : (1 : Int32) ≤ p0 ∧ p0 ≤ (22222 : Int32) := bI_1.mp c2
      rw [if_pos c2] at q
      refine w_aload_n (Ev.cm _) rfl rfl ?_
      refine w_getR (q := 1) (Ev.cm _) rfl (Nat.le_of_ble_eq_true rfl) rfl rfl ?_
      refine w_getI (Ev.cm _) rfl (Nat.le_of_ble_eq_true rfl) rfl ?_
      refine w_iconst (Ev.cm _) rfl ?_
      refine w_iconst (Ev.cm _) rfl ?_
      refine w_cstat (as := [.int (I 1 13), .int 0, .int 4]) (st := []) (Ev.cm _) rfl rfl rfl (Nat.le_of_ble_eq_true rfl) (Nat.le_of_ble_eq_true rfl) (x_within ?_)
      show Wp _ _ _ _ _ _ _ 38 [(0, .ref 0), (1, .int p0)] [.int (bI ((0 : Int32) ≤ (I 1 13) ∧ (I 1 13) ≤ (4 : Int32)))] (HS I L X)
      refine w_if_ne (Ev.cm _) rfl (fun c3 => ?_) (fun c3 => ?_)
      · have c3 : (0 : Int32) ≤ (I 1 13) ∧ (I 1 13) ≤ (4 : Int32) := bI_1.mp c3
        rw [if_pos c3] at q
        refine w_iload_n (Ev.cm _) rfl rfl ?_
        obtain ⟨⟨r1, I1, L1⟩, e1, q⟩ := obs q
        dsimp only at q
        refine w_cstat (as := [.int p0]) (st := []) (Ev.cm _) rfl rfl rfl (Nat.le_of_ble_eq_true rfl) (Nat.le_of_ble_eq_true rfl) (eo_C_keyOf (g := ?_) e1)
        show Wp _ _ _ _ _ _ _ 48 [(0, .ref 0), (1, .int p0)] [.int r1] (HS I1 L1 X)
        refine w_istore_n (ls2 := [(0, .ref 0), (1, .int p0), (2, .int r1)]) (Ev.cm _) rfl rfl ?_
        refine w_iload_n (Ev.cm _) rfl rfl ?_
        refine w_if_eq (Ev.cm _) rfl (fun c4 => ?_) (fun c4 => ?_)
        · have c4 : r1 = 0 := c4
          rw [if_pos c4] at q
          refine w_bipush (Ev.cm _) rfl ?_
          refine w_ireturn (Ev.cm _) rfl trivial rf0 ?_
          cases q
          exact g
        · have c4 : ¬ (r1 = 0) := c4
          rw [if_neg c4] at q
          refine w_aload_n (Ev.cm _) rfl rfl ?_
          refine w_getR (q := 1) (Ev.cm _) rfl (Nat.le_of_ble_eq_true rfl) rfl rfl ?_
          refine w_iload_n (Ev.cm _) rfl rfl ?_
          obtain ⟨⟨r2, I2, L2⟩, e2, q⟩ := obs q
          dsimp only at q
          refine w_cstat (as := [.ref 1, .int r1]) (st := []) (Ev.cm _) rfl rfl rfl (Nat.le_of_ble_eq_true rfl) (Nat.le_of_ble_eq_true rfl) (eo_C_isWord (g := ?_) e2)
          show Wp _ _ _ _ _ _ _ 61 [(0, .ref 0), (1, .int p0), (2, .int r1)] [.int r2] (HS I2 L2 X)
          refine w_if_eq (Ev.cm _) rfl (fun c5 => ?_) (fun c5 => ?_)
          · have c5 : r2 = 0 := c5
            rw [if_pos c5] at q
            refine w_aload_n (Ev.cm _) rfl rfl ?_
            refine w_getR (q := 1) (Ev.cm _) rfl (Nat.le_of_ble_eq_true rfl) rfl rfl ?_
            refine w_getR (q := 134) (Ev.cm _) rfl (Nat.le_of_ble_eq_true rfl) rfl rfl ?_
            refine w_aload_n (Ev.cm _) rfl rfl ?_
            refine w_getR (q := 1) (Ev.cm _) rfl (Nat.le_of_ble_eq_true rfl) rfl rfl ?_
            refine w_getI (Ev.cm _) rfl (Nat.le_of_ble_eq_true rfl) rfl ?_
            refine w_iload_n (Ev.cm _) rfl rfl ?_
            obtain ⟨b3, q⟩ := ois q
            refine w_iast (Ev.cm _) rfl (Nat.le_of_ble_eq_true rfl) rfl (show vp_in (I2 1 13) 5 from vpI 5 (by decide) b3.1 b3.2) ?_
            refine w_aload_n (Ev.cm _) rfl rfl ?_
            refine w_getR (q := 1) (Ev.cm _) rfl (Nat.le_of_ble_eq_true rfl) rfl rfl ?_
            refine w_dup (Ev.cm _) rfl rfl ?_
            refine w_getI (Ev.cm _) rfl (Nat.le_of_ble_eq_true rfl) rfl ?_
            refine w_iconst (Ev.cm _) rfl ?_
            refine w_iadd (Ev.cm _) rfl ?_
            refine w_putI (Ev.cm _) rfl (Nat.le_of_ble_eq_true rfl) rfl ?_
            refine w_aload_n (Ev.cm _) rfl rfl ?_
            refine w_getR (q := 1) (Ev.cm _) rfl (Nat.le_of_ble_eq_true rfl) rfl rfl ?_
            refine w_getI (Ev.cm _) rfl (Nat.le_of_ble_eq_true rfl) rfl ?_
            refine w_ireturn (Ev.cm _) rfl trivial rf0 ?_
            cases q
            exact g
          · have c5 : ¬ (r2 = 0) := c5
            rw [if_neg c5] at q
            refine w_bipush (Ev.cm _) rfl ?_
            refine w_ireturn (Ev.cm _) rfl trivial rf0 ?_
            cases q
            exact g
      · have c3 : ¬ ((0 : Int32) ≤ (I 1 13) ∧ (I 1 13) ≤ (4 : Int32)) := bI_0.mp c3
        rw [if_neg c3] at q
        refine w_bipush (Ev.cm _) rfl ?_
        refine w_ireturn (Ev.cm _) rfl trivial rf0 ?_
        cases q
        exact g
  · have c1 : p0 = (-1) := c1
    rw [if_pos c1] at q
    refine w_aload_n (Ev.cm _) rfl rfl ?_
    refine w_getR (q := 1) (Ev.cm _) rfl (Nat.le_of_ble_eq_true rfl) rfl rfl ?_
    refine w_iconst (Ev.cm _) rfl ?_
    refine w_putI (Ev.cm _) rfl (Nat.le_of_ble_eq_true rfl) rfl ?_
    refine w_iconst (Ev.cm _) rfl ?_
    refine w_ireturn (Ev.cm _) rfl trivial rf0 ?_
    cases q
    exact g
def FO_X_free (fu : Nat) (I : Nat → Nat → Int32) (L : Nat → Nat → Int64) : Option (Int32 × (Nat → Nat → Int32) × (Nat → Nat → Int64)) := (FO_C_isFree fu  I L).bind (fun u1 => let r1 := u1.1; let I1 := u1.2.1; let L1 := u1.2.2; if r1 = 0 then (some (0, I1, L1)) else (some (1, I1, L1)))
set_option maxHeartbeats 20000000 in
set_option maxRecDepth 20000 in
theorem eo_X_free {d fu : Nat} {I : Nat → Nat → Int32} {L : Nat → Nat → Int64} {X : Nat × (Nat → Int32)} {Q : PQ} {res : Int32 × (Nat → Nat → Int32) × (Nat → Nat → Int64)}  (g : Q (some (.int res.1)) (HS res.2.1 res.2.2 X)) (q : FO_X_free fu  I L = some res) : Ev (d + 4) m_X_free [.ref 0] (HS I L X) Q := by
  unfold FO_X_free at q
  refine ev_start (d := d + 3) rfl rfl rfl (Nat.le_of_ble_eq_true rfl) ?_
  show Wp (Ev (d + 3)) cd_X_free (0, 0) (some .int) _ _ Q 0 [(0, .ref 0)] [] (HS I L X)
  refine w_aload_n (Ev.cm _) rfl rfl ?_
  refine w_getR (q := 1) (Ev.cm _) rfl (Nat.le_of_ble_eq_true rfl) rfl rfl ?_
  obtain ⟨⟨r1, I1, L1⟩, e1, q⟩ := obs q
  dsimp only at q
  refine w_cstat (as := [.ref 1]) (st := []) (Ev.cm _) rfl rfl rfl (Nat.le_of_ble_eq_true rfl) (Nat.le_of_ble_eq_true rfl) (eo_C_isFree (g := ?_) e1)
  show Wp _ _ _ _ _ _ _ 7 [(0, .ref 0)] [.int r1] (HS I1 L1 X)
  refine w_if_eq (Ev.cm _) rfl (fun c1 => ?_) (fun c1 => ?_)
  · have c1 : r1 = 0 := c1
    rw [if_pos c1] at q
    refine w_iconst (Ev.cm _) rfl ?_
    refine w_ireturn (Ev.cm _) rfl trivial rf0 ?_
    cases q
    exact g
  · have c1 : ¬ (r1 = 0) := c1
    rw [if_neg c1] at q
    refine w_iconst (Ev.cm _) rfl ?_
    refine w_goto (Ev.cm _) rfl ?_
    refine w_ireturn (Ev.cm _) rfl trivial rf0 ?_
    cases q
    exact g
def FO_X_reads (fu : Nat) (p0 : Int32) (I : Nat → Nat → Int32) (L : Nat → Nat → Int64) : Option (Int32 × (Nat → Nat → Int32) × (Nat → Nat → Int64)) := if (1 : Int32) ≤ p0 ∧ p0 ≤ (99999999 : Int32) then ((FO_C_keyOf fu p0 I L).bind (fun u1 => let r1 := u1.1; let I1 := u1.2.1; let L1 := u1.2.2; if r1 = 0 then (some (0, I1, L1)) else ((FO_C_waysToRead fu r1 I1 L1).bind (fun u2 => let r2 := u2.1; let I2 := u2.2.1; let L2 := u2.2.2; some (r2, I2, L2))))) else (some ((-1), I, L))
set_option maxHeartbeats 20000000 in
set_option maxRecDepth 20000 in
theorem eo_X_reads {d fu : Nat} {p0 : Int32} {I : Nat → Nat → Int32} {L : Nat → Nat → Int64} {X : Nat × (Nat → Int32)} {Q : PQ} {res : Int32 × (Nat → Nat → Int32) × (Nat → Nat → Int64)}  (g : Q (some (.int res.1)) (HS res.2.1 res.2.2 X)) (q : FO_X_reads fu p0 I L = some res) : Ev (d + 3) m_X_reads [.ref 0, .int p0] (HS I L X) Q := by
  unfold FO_X_reads at q
  refine ev_start (d := d + 2) rfl rfl rfl (Nat.le_of_ble_eq_true rfl) ?_
  show Wp (Ev (d + 2)) cd_X_reads (0, 0) (some .int) _ _ Q 0 [(0, .ref 0), (1, .int p0)] [] (HS I L X)
  refine w_iload_n (Ev.cm _) rfl rfl ?_
  refine w_iconst (Ev.cm _) rfl ?_
  refine w_ldc_w (Ev.cm _) rfl ?_
  refine w_cstat (as := [.int p0, .int 1, .int 99999999]) (st := []) (Ev.cm _) rfl rfl rfl (Nat.le_of_ble_eq_true rfl) (Nat.le_of_ble_eq_true rfl) (x_within ?_)
  show Wp _ _ _ _ _ _ _ 8 [(0, .ref 0), (1, .int p0)] [.int (bI ((1 : Int32) ≤ p0 ∧ p0 ≤ (99999999 : Int32)))] (HS I L X)
  refine w_if_ne (Ev.cm _) rfl (fun c1 => ?_) (fun c1 => ?_)
  · have c1 : (1 : Int32) ≤ p0 ∧ p0 ≤ (99999999 : Int32) := bI_1.mp c1
    rw [if_pos c1] at q
    refine w_iload_n (Ev.cm _) rfl rfl ?_
    obtain ⟨⟨r1, I1, L1⟩, e1, q⟩ := obs q
    dsimp only at q
    refine w_cstat (as := [.int p0]) (st := []) (Ev.cm _) rfl rfl rfl (Nat.le_of_ble_eq_true rfl) (Nat.le_of_ble_eq_true rfl) (eo_C_keyOf (g := ?_) e1)
    show Wp _ _ _ _ _ _ _ 17 [(0, .ref 0), (1, .int p0)] [.int r1] (HS I1 L1 X)
    refine w_istore_n (ls2 := [(0, .ref 0), (1, .int p0), (2, .int r1)]) (Ev.cm _) rfl rfl ?_
    refine w_iload_n (Ev.cm _) rfl rfl ?_
    refine w_if_ne (Ev.cm _) rfl (fun c2 => ?_) (fun c2 => ?_)
    · have c2 : ¬ (r1 = 0) := c2
      rw [if_neg c2] at q
      refine w_aload_n (Ev.cm _) rfl rfl ?_
      refine w_getR (q := 325) (Ev.cm _) rfl (Nat.le_of_ble_eq_true rfl) rfl rfl ?_
      refine w_aload_n (Ev.cm _) rfl rfl ?_
      refine w_getR (q := 1) (Ev.cm _) rfl (Nat.le_of_ble_eq_true rfl) rfl rfl ?_
      refine w_iload_n (Ev.cm _) rfl rfl ?_
      obtain ⟨⟨r2, I2, L2⟩, e2, q⟩ := obs q
      dsimp only at q
      refine w_cvirt (o := 325) (as := [.ref 1, .int r1]) (st := []) (Ev.cm _) rfl rfl rfl (Nat.le_of_ble_eq_true rfl) (Nat.le_of_ble_eq_true rfl) rfl (Nat.le_of_ble_eq_true rfl) (eo_C_waysToRead (g := ?_) e2)
      show Wp _ _ _ _ _ _ _ 38 [(0, .ref 0), (1, .int p0), (2, .int r1)] [.int r2] (HS I2 L2 X)
      refine w_ireturn (Ev.cm _) rfl trivial rf0 ?_
      cases q
      exact g
    · have c2 : r1 = 0 := c2
      rw [if_pos c2] at q
      refine w_iconst (Ev.cm _) rfl ?_
      refine w_goto (Ev.cm _) rfl ?_
      refine w_ireturn (Ev.cm _) rfl trivial rf0 ?_
      cases q
      exact g
  · have c1 : ¬ ((1 : Int32) ≤ p0 ∧ p0 ≤ (99999999 : Int32)) := bI_0.mp c1
    rw [if_neg c1] at q
    refine w_iconst (Ev.cm _) rfl ?_
    refine w_ireturn (Ev.cm _) rfl trivial rf0 ?_
    cases q
    exact g
def FO_X_print (fu : Nat) (p0 : Int32) (p1 : Int32) (I : Nat → Nat → Int32) (L : Nat → Nat → Int64) : Option (Int32 × (Nat → Nat → Int32) × (Nat → Nat → Int64)) := if F_X_isLodger I p0 = 0 then (some (0, I, L)) else (if p1 &&& (-8191) = 0 then (if 0 ≤ p0 ∧ p0 < 6 then (some (1, sI I 130 p0.toNatClampNeg p1, L)) else none) else (some (0, I, L)))
set_option maxHeartbeats 20000000 in
set_option maxRecDepth 20000 in
theorem eo_X_print {d fu : Nat} {p0 : Int32} {p1 : Int32} {I : Nat → Nat → Int32} {L : Nat → Nat → Int64} {X : Nat × (Nat → Int32)} {Q : PQ} {res : Int32 × (Nat → Nat → Int32) × (Nat → Nat → Int64)}  (g : Q (some (.int res.1)) (HS res.2.1 res.2.2 X)) (q : FO_X_print fu p0 p1 I L = some res) : Ev (d + 4) m_X_print [.ref 0, .int p0, .int p1] (HS I L X) Q := by
  unfold FO_X_print at q
  refine ev_start (d := d + 3) rfl rfl rfl (Nat.le_of_ble_eq_true rfl) ?_
  show Wp (Ev (d + 3)) cd_X_print (0, 0) (some .boolean) _ _ Q 0 [(0, .ref 0), (1, .int p0), (2, .int p1)] [] (HS I L X)
  refine w_aload_n (Ev.cm _) rfl rfl ?_
  refine w_iload_n (Ev.cm _) rfl rfl ?_
  refine w_cvirt (o := 0) (as := [.int p0]) (st := []) (Ev.cm _) rfl rfl rfl (Nat.le_of_ble_eq_true rfl) (Nat.le_of_ble_eq_true rfl) rfl (Nat.le_of_ble_eq_true rfl) (e_X_isLodger ?_)
  show Wp _ _ _ _ _ _ _ 5 [(0, .ref 0), (1, .int p0), (2, .int p1)] [.int (F_X_isLodger I p0)] (HS I L X)
  refine w_if_eq (Ev.cm _) rfl (fun c1 => ?_) (fun c1 => ?_)
  · have c1 : F_X_isLodger I p0 = 0 := c1
    rw [if_pos c1] at q
    refine w_iconst (Ev.cm _) rfl ?_
    refine w_ireturn (Ev.cm _) rfl (by first | exact rok_0 | exact rok_1 | exact rok_b) rf0 ?_
    cases q
    exact g
  · have c1 : ¬ (F_X_isLodger I p0 = 0) := c1
    rw [if_neg c1] at q
    refine w_iload_n (Ev.cm _) rfl rfl ?_
    refine w_cstat (as := [.int p1]) (st := []) (Ev.cm _) rfl rfl rfl (Nat.le_of_ble_eq_true rfl) (Nat.le_of_ble_eq_true rfl) (x_isStairSet ?_)
    show Wp _ _ _ _ _ _ _ 12 [(0, .ref 0), (1, .int p0), (2, .int p1)] [.int (bI (p1 &&& (-8191) = 0))] (HS I L X)
    refine w_if_ne (Ev.cm _) rfl (fun c2 => ?_) (fun c2 => ?_)
    · have c2 : p1 &&& (-8191) = 0 := bI_1.mp c2
      rw [if_pos c2] at q
      refine w_aload_n (Ev.cm _) rfl rfl ?_
      refine w_getR (q := 1) (Ev.cm _) rfl (Nat.le_of_ble_eq_true rfl) rfl rfl ?_
      refine w_getR (q := 130) (Ev.cm _) rfl (Nat.le_of_ble_eq_true rfl) rfl rfl ?_
      refine w_iload_n (Ev.cm _) rfl rfl ?_
      refine w_iload_n (Ev.cm _) rfl rfl ?_
      obtain ⟨b1, q⟩ := ois q
      refine w_iast (Ev.cm _) rfl (Nat.le_of_ble_eq_true rfl) rfl (show vp_in p0 6 from vpI 6 (by decide) b1.1 b1.2) ?_
      refine w_iconst (Ev.cm _) rfl ?_
      refine w_ireturn (Ev.cm _) rfl (by first | exact rok_0 | exact rok_1 | exact rok_b) rf0 ?_
      cases q
      exact g
    · have c2 : ¬ (p1 &&& (-8191) = 0) := bI_0.mp c2
      rw [if_neg c2] at q
      refine w_iconst (Ev.cm _) rfl ?_
      refine w_ireturn (Ev.cm _) rfl (by first | exact rok_0 | exact rok_1 | exact rok_b) rf0 ?_
      cases q
      exact g
def LO_X_fits_24 (fu : Nat) : Nat → Int32 → Int32 → Int32 → Int32 → (Nat → Nat → Int32) → (Nat → Nat → Int64) → Option (Int32 × (Nat → Nat → Int32) × (Nat → Nat → Int64))
  | 0, _, _, _, _, _, _ => none
  | n + 1, x1, x2, x3, x4, I, L => if F_X_tenants I  ≤ x4 then (some (x3, I, L)) else (if 0 ≤ x4 ∧ x4 < 6 then ((FO_J_bitCount fu ((I 130 x4.toNatClampNeg) ^^^ x1) I L).bind (fun u2 => let r2 := u2.1; let I2 := u2.2.1; let L2 := u2.2.2; if x2 < r2 then (LO_X_fits_24 fu n x1 x2 x3 (x4 + 1) I2 L2) else (LO_X_fits_24 fu n x1 x2 (x3 ||| ((1 : Int32) <<< (x4 &&& 31))) (x4 + 1) I2 L2))) else none)
set_option maxHeartbeats 20000000 in
set_option maxRecDepth 20000 in
theorem lo_X_fits_24 {d fu n0 s0 : Nat} {X : Nat × (Nat → Int32)} {Q : PQ} {res : Int32 × (Nat → Nat → Int32) × (Nat → Nat → Int64)}  (g : Q (some (.int res.1)) (HS res.2.1 res.2.2 X)) : ∀ (n : Nat) (x1 : Int32) (x2 : Int32) (x3 : Int32) (x4 : Int32) (I : Nat → Nat → Int32) (L : Nat → Nat → Int64), LO_X_fits_24 fu n x1 x2 x3 x4 I L = some res → Wp (Ev (d + 2)) cd_X_fits (0, 0) (some .int) n0 s0 Q 24 [(0, .ref 0), (1, .int x1), (2, .int x2), (3, .int x3), (4, .int x4)] [] (HS I L X) := by
  intro n
  induction n with
  | zero => intro _ _ _ _ _ _ q; cases q
  | succ n ih =>
    intro x1 x2 x3 x4 I L q
    unfold LO_X_fits_24 at q
    refine w_iload (Ev.cm _) rfl rfl ?_
    refine w_aload_n (Ev.cm _) rfl rfl ?_
    refine w_cvirt (o := 0) (as := []) (st := [.int x4]) (Ev.cm _) rfl rfl rfl (Nat.le_of_ble_eq_true rfl) (Nat.le_of_ble_eq_true rfl) rfl (Nat.le_of_ble_eq_true rfl) (e_X_tenants ?_)
    show Wp _ _ _ _ _ _ _ 30 [(0, .ref 0), (1, .int x1), (2, .int x2), (3, .int x3), (4, .int x4)] [.int (F_X_tenants I ), .int x4] (HS I L X)
    refine w_icmp_ge (Ev.cm _) rfl (fun c1 => ?_) (fun c1 => ?_)
    · have c1 : F_X_tenants I  ≤ x4 := c1
      rw [if_pos c1] at q
      refine w_iload_n (Ev.cm _) rfl rfl ?_
      refine w_ireturn (Ev.cm _) rfl trivial rf0 ?_
      cases q
      exact g
    · have c1 : ¬ (F_X_tenants I  ≤ x4) := c1
      rw [if_neg c1] at q
      refine w_aload_n (Ev.cm _) rfl rfl ?_
      refine w_getR (q := 1) (Ev.cm _) rfl (Nat.le_of_ble_eq_true rfl) rfl rfl ?_
      refine w_getR (q := 130) (Ev.cm _) rfl (Nat.le_of_ble_eq_true rfl) rfl rfl ?_
      refine w_iload (Ev.cm _) rfl rfl ?_
      obtain ⟨b1, q⟩ := ois q
      refine w_iald (Ev.cm _) rfl (Nat.le_of_ble_eq_true rfl) rfl (show vp_in x4 6 from vpI 6 (by decide) b1.1 b1.2) ?_
      refine w_iload_n (Ev.cm _) rfl rfl ?_
      refine w_ixor (Ev.cm _) rfl ?_
      obtain ⟨⟨r2, I2, L2⟩, e2, q⟩ := obs q
      dsimp only at q
      refine w_cstat (as := [.int ((I 130 x4.toNatClampNeg) ^^^ x1)]) (st := []) (Ev.cm _) rfl rfl rfl (Nat.le_of_ble_eq_true rfl) (Nat.le_of_ble_eq_true rfl) (eo_J_bitCount (g := ?_) e2)
      show Wp _ _ _ _ _ _ _ 48 [(0, .ref 0), (1, .int x1), (2, .int x2), (3, .int x3), (4, .int x4)] [.int r2] (HS I2 L2 X)
      refine w_iload_n (Ev.cm _) rfl rfl ?_
      refine w_icmp_gt (Ev.cm _) rfl (fun c2 => ?_) (fun c2 => ?_)
      · have c2 : x2 < r2 := c2
        rw [if_pos c2] at q
        refine w_iinc (ls2 := [(0, .ref 0), (1, .int x1), (2, .int x2), (3, .int x3), (4, .int (x4 + 1))]) (Ev.cm _) rfl rfl rfl ?_
        refine w_goto (Ev.cm _) rfl ?_
        show Wp _ _ _ _ _ _ _ 24 [(0, .ref 0), (1, .int x1), (2, .int x2), (3, .int x3), (4, .int (x4 + 1))] [] (HS I2 L2 X)
        refine Wp.sub [0, 1, 2, 3, 4] (ls2 := [(0, .ref 0), (1, .int x1), (2, .int x2), (3, .int x3), (4, .int (x4 + 1))]) rfl ?_
        exact ih _ _ _ _ _ _ q
      · have c2 : ¬ (x2 < r2) := c2
        rw [if_neg c2] at q
        refine w_iload_n (Ev.cm _) rfl rfl ?_
        refine w_iconst (Ev.cm _) rfl ?_
        refine w_iload (Ev.cm _) rfl rfl ?_
        refine w_ishl (Ev.cm _) rfl ?_
        refine w_ior (Ev.cm _) rfl ?_
        refine w_istore_n (ls2 := [(0, .ref 0), (1, .int x1), (2, .int x2), (3, .int (x3 ||| ((1 : Int32) <<< (x4 &&& 31)))), (4, .int x4)]) (Ev.cm _) rfl rfl ?_
        refine w_iinc (ls2 := [(0, .ref 0), (1, .int x1), (2, .int x2), (3, .int (x3 ||| ((1 : Int32) <<< (x4 &&& 31)))), (4, .int (x4 + 1))]) (Ev.cm _) rfl rfl rfl ?_
        refine w_goto (Ev.cm _) rfl ?_
        show Wp _ _ _ _ _ _ _ 24 [(0, .ref 0), (1, .int x1), (2, .int x2), (3, .int (x3 ||| ((1 : Int32) <<< (x4 &&& 31)))), (4, .int (x4 + 1))] [] (HS I2 L2 X)
        refine Wp.sub [0, 1, 2, 3, 4] (ls2 := [(0, .ref 0), (1, .int x1), (2, .int x2), (3, .int (x3 ||| ((1 : Int32) <<< (x4 &&& 31)))), (4, .int (x4 + 1))]) rfl ?_
        exact ih _ _ _ _ _ _ q
def FO_X_fits (fu : Nat) (p0 : Int32) (p1 : Int32) (I : Nat → Nat → Int32) (L : Nat → Nat → Int64) : Option (Int32 × (Nat → Nat → Int32) × (Nat → Nat → Int64)) := if p0 &&& (-8191) = 0 then (if (0 : Int32) ≤ p1 ∧ p1 ≤ (12 : Int32) then (LO_X_fits_24 fu fu p0 p1 0 0 I L) else (some ((-1), I, L))) else (some ((-1), I, L))
set_option maxHeartbeats 20000000 in
set_option maxRecDepth 20000 in
theorem eo_X_fits {d fu : Nat} {p0 : Int32} {p1 : Int32} {I : Nat → Nat → Int32} {L : Nat → Nat → Int64} {X : Nat × (Nat → Int32)} {Q : PQ} {res : Int32 × (Nat → Nat → Int32) × (Nat → Nat → Int64)}  (g : Q (some (.int res.1)) (HS res.2.1 res.2.2 X)) (q : FO_X_fits fu p0 p1 I L = some res) : Ev (d + 3) m_X_fits [.ref 0, .int p0, .int p1] (HS I L X) Q := by
  unfold FO_X_fits at q
  refine ev_start (d := d + 2) rfl rfl rfl (Nat.le_of_ble_eq_true rfl) ?_
  show Wp (Ev (d + 2)) cd_X_fits (0, 0) (some .int) _ _ Q 0 [(0, .ref 0), (1, .int p0), (2, .int p1)] [] (HS I L X)
  refine w_iload_n (Ev.cm _) rfl rfl ?_
  refine w_cstat (as := [.int p0]) (st := []) (Ev.cm _) rfl rfl rfl (Nat.le_of_ble_eq_true rfl) (Nat.le_of_ble_eq_true rfl) (x_isStairSet ?_)
  show Wp _ _ _ _ _ _ _ 4 [(0, .ref 0), (1, .int p0), (2, .int p1)] [.int (bI (p0 &&& (-8191) = 0))] (HS I L X)
  refine w_if_eq (Ev.cm _) rfl (fun c1 => ?_) (fun c1 => ?_)
  · have c1 : ¬ (p0 &&& (-8191) = 0) := bI_0.mp c1
    rw [if_neg c1] at q
    refine w_iconst (Ev.cm _) rfl ?_
    refine w_ireturn (Ev.cm _) rfl trivial rf0 ?_
    cases q
    exact g
  · have c1 : p0 &&& (-8191) = 0 := bI_1.mp c1
    rw [if_pos c1] at q
    refine w_iload_n (Ev.cm _) rfl rfl ?_
    refine w_iconst (Ev.cm _) rfl ?_
    refine w_bipush (Ev.cm _) rfl ?_
    refine w_cstat (as := [.int p1, .int 0, .int 12]) (st := []) (Ev.cm _) rfl rfl rfl (Nat.le_of_ble_eq_true rfl) (Nat.le_of_ble_eq_true rfl) (x_within ?_)
    show Wp _ _ _ _ _ _ _ 14 [(0, .ref 0), (1, .int p0), (2, .int p1)] [.int (bI ((0 : Int32) ≤ p1 ∧ p1 ≤ (12 : Int32)))] (HS I L X)
    refine w_if_ne (Ev.cm _) rfl (fun c2 => ?_) (fun c2 => ?_)
    · have c2 : (0 : Int32) ≤ p1 ∧ p1 ≤ (12 : Int32) := bI_1.mp c2
      rw [if_pos c2] at q
      refine w_iconst (Ev.cm _) rfl ?_
      refine w_istore_n (ls2 := [(0, .ref 0), (1, .int p0), (2, .int p1), (3, .int 0)]) (Ev.cm _) rfl rfl ?_
      refine w_iconst (Ev.cm _) rfl ?_
      refine w_istore (ls2 := [(0, .ref 0), (1, .int p0), (2, .int p1), (3, .int 0), (4, .int 0)]) (Ev.cm _) rfl rfl ?_
      show Wp _ _ _ _ _ _ _ 24 [(0, .ref 0), (1, .int p0), (2, .int p1), (3, .int 0), (4, .int 0)] [] (HS I L X)
      refine Wp.sub [0, 1, 2, 3, 4] (ls2 := [(0, .ref 0), (1, .int p0), (2, .int p1), (3, .int 0), (4, .int 0)]) rfl ?_
      exact lo_X_fits_24 g fu _ _ _ _ _ _ q
    · have c2 : ¬ ((0 : Int32) ≤ p1 ∧ p1 ≤ (12 : Int32)) := bI_0.mp c2
      rw [if_neg c2] at q
      refine w_iconst (Ev.cm _) rfl ?_
      refine w_ireturn (Ev.cm _) rfl trivial rf0 ?_
      cases q
      exact g
def LO_X_alone_14 (fu : Nat) : Nat → Int32 → Int32 → Int32 → (Nat → Nat → Int32) → (Nat → Nat → Int64) → Option (Int32 × (Nat → Nat → Int32) × (Nat → Nat → Int64))
  | 0, _, _, _, _, _ => none
  | n + 1, x1, x2, x3, I, L => if F_X_tenants I  ≤ x3 then (if 0 ≤ x1 ∧ x1 < 6 then (some ((I 130 x1.toNatClampNeg) &&& (x2 ^^^ (-1)), I, L)) else none) else (if x3 = x1 then (LO_X_alone_14 fu n x1 x2 (x3 + 1) I L) else (if 0 ≤ x3 ∧ x3 < 6 then (LO_X_alone_14 fu n x1 (x2 ||| (I 130 x3.toNatClampNeg)) (x3 + 1) I L) else none))
set_option maxHeartbeats 20000000 in
set_option maxRecDepth 20000 in
theorem lo_X_alone_14 {d fu n0 s0 : Nat} {X : Nat × (Nat → Int32)} {Q : PQ} {res : Int32 × (Nat → Nat → Int32) × (Nat → Nat → Int64)}  (g : Q (some (.int res.1)) (HS res.2.1 res.2.2 X)) : ∀ (n : Nat) (x1 : Int32) (x2 : Int32) (x3 : Int32) (I : Nat → Nat → Int32) (L : Nat → Nat → Int64), LO_X_alone_14 fu n x1 x2 x3 I L = some res → Wp (Ev (d + 3)) cd_X_alone (0, 0) (some .int) n0 s0 Q 14 [(0, .ref 0), (1, .int x1), (2, .int x2), (3, .int x3)] [] (HS I L X) := by
  intro n
  induction n with
  | zero => intro _ _ _ _ _ q; cases q
  | succ n ih =>
    intro x1 x2 x3 I L q
    unfold LO_X_alone_14 at q
    refine w_iload_n (Ev.cm _) rfl rfl ?_
    refine w_aload_n (Ev.cm _) rfl rfl ?_
    refine w_cvirt (o := 0) (as := []) (st := [.int x3]) (Ev.cm _) rfl rfl rfl (Nat.le_of_ble_eq_true rfl) (Nat.le_of_ble_eq_true rfl) rfl (Nat.le_of_ble_eq_true rfl) (e_X_tenants ?_)
    show Wp _ _ _ _ _ _ _ 19 [(0, .ref 0), (1, .int x1), (2, .int x2), (3, .int x3)] [.int (F_X_tenants I ), .int x3] (HS I L X)
    refine w_icmp_ge (Ev.cm _) rfl (fun c1 => ?_) (fun c1 => ?_)
    · have c1 : F_X_tenants I  ≤ x3 := c1
      rw [if_pos c1] at q
      refine w_aload_n (Ev.cm _) rfl rfl ?_
      refine w_getR (q := 1) (Ev.cm _) rfl (Nat.le_of_ble_eq_true rfl) rfl rfl ?_
      refine w_getR (q := 130) (Ev.cm _) rfl (Nat.le_of_ble_eq_true rfl) rfl rfl ?_
      refine w_iload_n (Ev.cm _) rfl rfl ?_
      obtain ⟨b1, q⟩ := ois q
      refine w_iald (Ev.cm _) rfl (Nat.le_of_ble_eq_true rfl) rfl (show vp_in x1 6 from vpI 6 (by decide) b1.1 b1.2) ?_
      refine w_iload_n (Ev.cm _) rfl rfl ?_
      refine w_iconst (Ev.cm _) rfl ?_
      refine w_ixor (Ev.cm _) rfl ?_
      refine w_iand (Ev.cm _) rfl ?_
      refine w_ireturn (Ev.cm _) rfl trivial rf0 ?_
      cases q
      exact g
    · have c1 : ¬ (F_X_tenants I  ≤ x3) := c1
      rw [if_neg c1] at q
      refine w_iload_n (Ev.cm _) rfl rfl ?_
      refine w_iload_n (Ev.cm _) rfl rfl ?_
      refine w_icmp_eq (Ev.cm _) rfl (fun c2 => ?_) (fun c2 => ?_)
      · have c2 : x3 = x1 := c2
        rw [if_pos c2] at q
        refine w_iinc (ls2 := [(0, .ref 0), (1, .int x1), (2, .int x2), (3, .int (x3 + 1))]) (Ev.cm _) rfl rfl rfl ?_
        refine w_goto (Ev.cm _) rfl ?_
        show Wp _ _ _ _ _ _ _ 14 [(0, .ref 0), (1, .int x1), (2, .int x2), (3, .int (x3 + 1))] [] (HS I L X)
        refine Wp.sub [0, 1, 2, 3] (ls2 := [(0, .ref 0), (1, .int x1), (2, .int x2), (3, .int (x3 + 1))]) rfl ?_
        exact ih _ _ _ _ _ q
      · have c2 : ¬ (x3 = x1) := c2
        rw [if_neg c2] at q
        refine w_iload_n (Ev.cm _) rfl rfl ?_
        refine w_aload_n (Ev.cm _) rfl rfl ?_
        refine w_getR (q := 1) (Ev.cm _) rfl (Nat.le_of_ble_eq_true rfl) rfl rfl ?_
        refine w_getR (q := 130) (Ev.cm _) rfl (Nat.le_of_ble_eq_true rfl) rfl rfl ?_
        refine w_iload_n (Ev.cm _) rfl rfl ?_
        obtain ⟨b2, q⟩ := ois q
        refine w_iald (Ev.cm _) rfl (Nat.le_of_ble_eq_true rfl) rfl (show vp_in x3 6 from vpI 6 (by decide) b2.1 b2.2) ?_
        refine w_ior (Ev.cm _) rfl ?_
        refine w_istore_n (ls2 := [(0, .ref 0), (1, .int x1), (2, .int (x2 ||| (I 130 x3.toNatClampNeg))), (3, .int x3)]) (Ev.cm _) rfl rfl ?_
        refine w_iinc (ls2 := [(0, .ref 0), (1, .int x1), (2, .int (x2 ||| (I 130 x3.toNatClampNeg))), (3, .int (x3 + 1))]) (Ev.cm _) rfl rfl rfl ?_
        refine w_goto (Ev.cm _) rfl ?_
        show Wp _ _ _ _ _ _ _ 14 [(0, .ref 0), (1, .int x1), (2, .int (x2 ||| (I 130 x3.toNatClampNeg))), (3, .int (x3 + 1))] [] (HS I L X)
        refine Wp.sub [0, 1, 2, 3] (ls2 := [(0, .ref 0), (1, .int x1), (2, .int (x2 ||| (I 130 x3.toNatClampNeg))), (3, .int (x3 + 1))]) rfl ?_
        exact ih _ _ _ _ _ q
def FO_X_alone (fu : Nat) (p0 : Int32) (I : Nat → Nat → Int32) (L : Nat → Nat → Int64) : Option (Int32 × (Nat → Nat → Int32) × (Nat → Nat → Int64)) := if F_X_isLodger I p0 = 0 then (some ((-1), I, L)) else (LO_X_alone_14 fu fu p0 0 0 I L)
set_option maxHeartbeats 20000000 in
set_option maxRecDepth 20000 in
theorem eo_X_alone {d fu : Nat} {p0 : Int32} {I : Nat → Nat → Int32} {L : Nat → Nat → Int64} {X : Nat × (Nat → Int32)} {Q : PQ} {res : Int32 × (Nat → Nat → Int32) × (Nat → Nat → Int64)}  (g : Q (some (.int res.1)) (HS res.2.1 res.2.2 X)) (q : FO_X_alone fu p0 I L = some res) : Ev (d + 4) m_X_alone [.ref 0, .int p0] (HS I L X) Q := by
  unfold FO_X_alone at q
  refine ev_start (d := d + 3) rfl rfl rfl (Nat.le_of_ble_eq_true rfl) ?_
  show Wp (Ev (d + 3)) cd_X_alone (0, 0) (some .int) _ _ Q 0 [(0, .ref 0), (1, .int p0)] [] (HS I L X)
  refine w_aload_n (Ev.cm _) rfl rfl ?_
  refine w_iload_n (Ev.cm _) rfl rfl ?_
  refine w_cvirt (o := 0) (as := [.int p0]) (st := []) (Ev.cm _) rfl rfl rfl (Nat.le_of_ble_eq_true rfl) (Nat.le_of_ble_eq_true rfl) rfl (Nat.le_of_ble_eq_true rfl) (e_X_isLodger ?_)
  show Wp _ _ _ _ _ _ _ 5 [(0, .ref 0), (1, .int p0)] [.int (F_X_isLodger I p0)] (HS I L X)
  refine w_if_ne (Ev.cm _) rfl (fun c1 => ?_) (fun c1 => ?_)
  · have c1 : ¬ (F_X_isLodger I p0 = 0) := c1
    rw [if_neg c1] at q
    refine w_iconst (Ev.cm _) rfl ?_
    refine w_istore_n (ls2 := [(0, .ref 0), (1, .int p0), (2, .int 0)]) (Ev.cm _) rfl rfl ?_
    refine w_iconst (Ev.cm _) rfl ?_
    refine w_istore_n (ls2 := [(0, .ref 0), (1, .int p0), (2, .int 0), (3, .int 0)]) (Ev.cm _) rfl rfl ?_
    show Wp _ _ _ _ _ _ _ 14 [(0, .ref 0), (1, .int p0), (2, .int 0), (3, .int 0)] [] (HS I L X)
    refine Wp.sub [0, 1, 2, 3] (ls2 := [(0, .ref 0), (1, .int p0), (2, .int 0), (3, .int 0)]) rfl ?_
    exact lo_X_alone_14 g fu _ _ _ _ _ q
  · have c1 : F_X_isLodger I p0 = 0 := c1
    rw [if_pos c1] at q
    refine w_iconst (Ev.cm _) rfl ?_
    refine w_ireturn (Ev.cm _) rfl trivial rf0 ?_
    cases q
    exact g
def LO_X_shared_20 (fu : Nat) : Nat → Int32 → Int32 → (Nat → Nat → Int32) → (Nat → Nat → Int64) → Option (Int32 × (Nat → Nat → Int32) × (Nat → Nat → Int64))
  | 0, _, _, _, _ => none
  | n + 1, x1, x2, I, L => if F_X_tenants I  ≤ x2 then (some (x1, I, L)) else (if 0 ≤ x2 ∧ x2 < 6 then (LO_X_shared_20 fu n (x1 &&& (I 130 x2.toNatClampNeg)) (x2 + 1) I L) else none)
set_option maxHeartbeats 20000000 in
set_option maxRecDepth 20000 in
theorem lo_X_shared_20 {d fu n0 s0 : Nat} {X : Nat × (Nat → Int32)} {Q : PQ} {res : Int32 × (Nat → Nat → Int32) × (Nat → Nat → Int64)}  (g : Q (some (.int res.1)) (HS res.2.1 res.2.2 X)) : ∀ (n : Nat) (x1 : Int32) (x2 : Int32) (I : Nat → Nat → Int32) (L : Nat → Nat → Int64), LO_X_shared_20 fu n x1 x2 I L = some res → Wp (Ev (d + 2)) cd_X_shared (0, 0) (some .int) n0 s0 Q 20 [(0, .ref 0), (1, .int x1), (2, .int x2)] [] (HS I L X) := by
  intro n
  induction n with
  | zero => intro _ _ _ _ q; cases q
  | succ n ih =>
    intro x1 x2 I L q
    unfold LO_X_shared_20 at q
    refine w_iload_n (Ev.cm _) rfl rfl ?_
    refine w_aload_n (Ev.cm _) rfl rfl ?_
    refine w_cvirt (o := 0) (as := []) (st := [.int x2]) (Ev.cm _) rfl rfl rfl (Nat.le_of_ble_eq_true rfl) (Nat.le_of_ble_eq_true rfl) rfl (Nat.le_of_ble_eq_true rfl) (e_X_tenants ?_)
    show Wp _ _ _ _ _ _ _ 25 [(0, .ref 0), (1, .int x1), (2, .int x2)] [.int (F_X_tenants I ), .int x2] (HS I L X)
    refine w_icmp_ge (Ev.cm _) rfl (fun c1 => ?_) (fun c1 => ?_)
    · have c1 : F_X_tenants I  ≤ x2 := c1
      rw [if_pos c1] at q
      refine w_iload_n (Ev.cm _) rfl rfl ?_
      refine w_ireturn (Ev.cm _) rfl trivial rf0 ?_
      cases q
      exact g
    · have c1 : ¬ (F_X_tenants I  ≤ x2) := c1
      rw [if_neg c1] at q
      refine w_iload_n (Ev.cm _) rfl rfl ?_
      refine w_aload_n (Ev.cm _) rfl rfl ?_
      refine w_getR (q := 1) (Ev.cm _) rfl (Nat.le_of_ble_eq_true rfl) rfl rfl ?_
      refine w_getR (q := 130) (Ev.cm _) rfl (Nat.le_of_ble_eq_true rfl) rfl rfl ?_
      refine w_iload_n (Ev.cm _) rfl rfl ?_
      obtain ⟨b1, q⟩ := ois q
      refine w_iald (Ev.cm _) rfl (Nat.le_of_ble_eq_true rfl) rfl (show vp_in x2 6 from vpI 6 (by decide) b1.1 b1.2) ?_
      refine w_iand (Ev.cm _) rfl ?_
      refine w_istore_n (ls2 := [(0, .ref 0), (1, .int (x1 &&& (I 130 x2.toNatClampNeg))), (2, .int x2)]) (Ev.cm _) rfl rfl ?_
      refine w_iinc (ls2 := [(0, .ref 0), (1, .int (x1 &&& (I 130 x2.toNatClampNeg))), (2, .int (x2 + 1))]) (Ev.cm _) rfl rfl rfl ?_
      refine w_goto (Ev.cm _) rfl ?_
      show Wp _ _ _ _ _ _ _ 20 [(0, .ref 0), (1, .int (x1 &&& (I 130 x2.toNatClampNeg))), (2, .int (x2 + 1))] [] (HS I L X)
      refine Wp.sub [0, 1, 2] (ls2 := [(0, .ref 0), (1, .int (x1 &&& (I 130 x2.toNatClampNeg))), (2, .int (x2 + 1))]) rfl ?_
      exact ih _ _ _ _ q
def FO_X_shared (fu : Nat) (I : Nat → Nat → Int32) (L : Nat → Nat → Int64) : Option (Int32 × (Nat → Nat → Int32) × (Nat → Nat → Int64)) := if I 1 2 ≤ 0 then (LO_X_shared_20 fu fu 0 0 I L) else (LO_X_shared_20 fu fu 8190 0 I L)
set_option maxHeartbeats 20000000 in
set_option maxRecDepth 20000 in
theorem eo_X_shared {d fu : Nat} {I : Nat → Nat → Int32} {L : Nat → Nat → Int64} {X : Nat × (Nat → Int32)} {Q : PQ} {res : Int32 × (Nat → Nat → Int32) × (Nat → Nat → Int64)}  (g : Q (some (.int res.1)) (HS res.2.1 res.2.2 X)) (q : FO_X_shared fu  I L = some res) : Ev (d + 3) m_X_shared [.ref 0] (HS I L X) Q := by
  unfold FO_X_shared at q
  refine ev_start (d := d + 2) rfl rfl rfl (Nat.le_of_ble_eq_true rfl) ?_
  show Wp (Ev (d + 2)) cd_X_shared (0, 0) (some .int) _ _ Q 0 [(0, .ref 0)] [] (HS I L X)
  refine w_aload_n (Ev.cm _) rfl rfl ?_
  refine w_getR (q := 1) (Ev.cm _) rfl (Nat.le_of_ble_eq_true rfl) rfl rfl ?_
  refine w_getI (Ev.cm _) rfl (Nat.le_of_ble_eq_true rfl) rfl ?_
  refine w_if_le (Ev.cm _) rfl (fun c1 => ?_) (fun c1 => ?_)
  · have c1 : I 1 2 ≤ 0 := c1
    rw [if_pos c1] at q
    refine w_iconst (Ev.cm _) rfl ?_
    refine w_istore_n (ls2 := [(0, .ref 0), (1, .int 0)]) (Ev.cm _) rfl rfl ?_
    refine w_iconst (Ev.cm _) rfl ?_
    refine w_istore_n (ls2 := [(0, .ref 0), (1, .int 0), (2, .int 0)]) (Ev.cm _) rfl rfl ?_
    show Wp _ _ _ _ _ _ _ 20 [(0, .ref 0), (1, .int 0), (2, .int 0)] [] (HS I L X)
    refine Wp.sub [0, 1, 2] (ls2 := [(0, .ref 0), (1, .int 0), (2, .int 0)]) rfl ?_
    exact lo_X_shared_20 g fu _ _ _ _ q
  · have c1 : ¬ (I 1 2 ≤ 0) := c1
    rw [if_neg c1] at q
    refine w_sipush (Ev.cm _) rfl ?_
    refine w_goto (Ev.cm _) rfl ?_
    refine w_istore_n (ls2 := [(0, .ref 0), (1, .int 8190)]) (Ev.cm _) rfl rfl ?_
    refine w_iconst (Ev.cm _) rfl ?_
    refine w_istore_n (ls2 := [(0, .ref 0), (1, .int 8190), (2, .int 0)]) (Ev.cm _) rfl rfl ?_
    show Wp _ _ _ _ _ _ _ 20 [(0, .ref 0), (1, .int 8190), (2, .int 0)] [] (HS I L X)
    refine Wp.sub [0, 1, 2] (ls2 := [(0, .ref 0), (1, .int 8190), (2, .int 0)]) rfl ?_
    exact lo_X_shared_20 g fu _ _ _ _ q
def LO_X_which_30 (fu : Nat) (k_7 : Int32 → Int32 → Int32 → (Nat → Nat → Int32) → (Nat → Nat → Int64) → Option (Int32 × (Nat → Nat → Int32) × (Nat → Nat → Int64))) : Nat → Int32 → Int32 → Int32 → Int32 → Int32 → (Nat → Nat → Int32) → (Nat → Nat → Int64) → Option (Int32 × (Nat → Nat → Int32) × (Nat → Nat → Int64))
  | 0, _, _, _, _, _, _, _ => none
  | n + 1, x1, x2, x3, x4, x5, I, L => if F_X_tenants I  ≤ x5 then (if x1 ≤ F_J_max I x4 ((I 1 2) - x4) then (k_7 x1 x2 (x3 + 1) I L) else (k_7 (F_J_max I x4 ((I 1 2) - x4)) x3 (x3 + 1) I L)) else (if 0 ≤ x5 ∧ x5 < 6 then (LO_X_which_30 fu k_7 n x1 x2 x3 (x4 + (((I 130 x5.toNatClampNeg) >>> (x3 &&& 31)) &&& 1)) (x5 + 1) I L) else none)
set_option maxHeartbeats 20000000 in
set_option maxRecDepth 20000 in
theorem lo_X_which_30 {d fu n0 s0 : Nat} {X : Nat × (Nat → Int32)} {Q : PQ} {k_7 : Int32 → Int32 → Int32 → (Nat → Nat → Int32) → (Nat → Nat → Int64) → Option (Int32 × (Nat → Nat → Int32) × (Nat → Nat → Int64))} {res : Int32 × (Nat → Nat → Int32) × (Nat → Nat → Int64)}  (g : Q (some (.int res.1)) (HS res.2.1 res.2.2 X)) (hk_7 : ∀ (x1 : Int32) (x2 : Int32) (x3 : Int32) (I : Nat → Nat → Int32) (L : Nat → Nat → Int64), k_7 x1 x2 x3 I L = some res → Wp (Ev (d + 2)) cd_X_which (0, 0) (some .int) n0 s0 Q 7 [(0, .ref 0), (1, .int x1), (2, .int x2), (3, .int x3)] [] (HS I L X)) : ∀ (n : Nat) (x1 : Int32) (x2 : Int32) (x3 : Int32) (x4 : Int32) (x5 : Int32) (I : Nat → Nat → Int32) (L : Nat → Nat → Int64), LO_X_which_30 fu k_7 n x1 x2 x3 x4 x5 I L = some res → Wp (Ev (d + 2)) cd_X_which (0, 0) (some .int) n0 s0 Q 30 [(0, .ref 0), (1, .int x1), (2, .int x2), (3, .int x3), (4, .int x4), (5, .int x5)] [] (HS I L X) := by
  intro n
  induction n with
  | zero => intro _ _ _ _ _ _ _ q; cases q
  | succ n ih =>
    intro x1 x2 x3 x4 x5 I L q
    unfold LO_X_which_30 at q
    refine w_iload (Ev.cm _) rfl rfl ?_
    refine w_aload_n (Ev.cm _) rfl rfl ?_
    refine w_cvirt (o := 0) (as := []) (st := [.int x5]) (Ev.cm _) rfl rfl rfl (Nat.le_of_ble_eq_true rfl) (Nat.le_of_ble_eq_true rfl) rfl (Nat.le_of_ble_eq_true rfl) (e_X_tenants ?_)
    show Wp _ _ _ _ _ _ _ 36 [(0, .ref 0), (1, .int x1), (2, .int x2), (3, .int x3), (4, .int x4), (5, .int x5)] [.int (F_X_tenants I ), .int x5] (HS I L X)
    refine w_icmp_ge (Ev.cm _) rfl (fun c1 => ?_) (fun c1 => ?_)
    · have c1 : F_X_tenants I  ≤ x5 := c1
      rw [if_pos c1] at q
      refine w_iload (Ev.cm _) rfl rfl ?_
      refine w_aload_n (Ev.cm _) rfl rfl ?_
      refine w_getR (q := 1) (Ev.cm _) rfl (Nat.le_of_ble_eq_true rfl) rfl rfl ?_
      refine w_getI (Ev.cm _) rfl (Nat.le_of_ble_eq_true rfl) rfl ?_
      refine w_iload (Ev.cm _) rfl rfl ?_
      refine w_isub (Ev.cm _) rfl ?_
      refine w_cstat (as := [.int x4, .int ((I 1 2) - x4)]) (st := []) (Ev.cm _) rfl rfl rfl (Nat.le_of_ble_eq_true rfl) (Nat.le_of_ble_eq_true rfl) (e_J_max ?_)
      show Wp _ _ _ _ _ _ _ 79 [(0, .ref 0), (1, .int x1), (2, .int x2), (3, .int x3), (4, .int x4), (5, .int x5)] [.int (F_J_max I x4 ((I 1 2) - x4))] (HS I L X)
      refine w_istore (ls2 := [(0, .ref 0), (1, .int x1), (2, .int x2), (3, .int x3), (4, .int x4), (5, .int (F_J_max I x4 ((I 1 2) - x4)))]) (Ev.cm _) rfl rfl ?_
      refine w_iload (Ev.cm _) rfl rfl ?_
      refine w_iload_n (Ev.cm _) rfl rfl ?_
      refine w_icmp_ge (Ev.cm _) rfl (fun c2 => ?_) (fun c2 => ?_)
      · have c2 : x1 ≤ F_J_max I x4 ((I 1 2) - x4) := c2
        rw [if_pos c2] at q
        refine w_iinc (ls2 := [(0, .ref 0), (1, .int x1), (2, .int x2), (3, .int (x3 + 1)), (4, .int x4), (5, .int (F_J_max I x4 ((I 1 2) - x4)))]) (Ev.cm _) rfl rfl rfl ?_
        refine w_goto (Ev.cm _) rfl ?_
        show Wp _ _ _ _ _ _ _ 7 [(0, .ref 0), (1, .int x1), (2, .int x2), (3, .int (x3 + 1)), (4, .int x4), (5, .int (F_J_max I x4 ((I 1 2) - x4)))] [] (HS I L X)
        refine Wp.sub [0, 1, 2, 3] (ls2 := [(0, .ref 0), (1, .int x1), (2, .int x2), (3, .int (x3 + 1))]) rfl ?_
        exact hk_7 _ _ _ _ _ q
      · have c2 : ¬ (x1 ≤ F_J_max I x4 ((I 1 2) - x4)) := c2
        rw [if_neg c2] at q
        refine w_iload (Ev.cm _) rfl rfl ?_
        refine w_istore_n (ls2 := [(0, .ref 0), (1, .int (F_J_max I x4 ((I 1 2) - x4))), (2, .int x2), (3, .int x3), (4, .int x4), (5, .int (F_J_max I x4 ((I 1 2) - x4)))]) (Ev.cm _) rfl rfl ?_
        refine w_iload_n (Ev.cm _) rfl rfl ?_
        refine w_istore_n (ls2 := [(0, .ref 0), (1, .int (F_J_max I x4 ((I 1 2) - x4))), (2, .int x3), (3, .int x3), (4, .int x4), (5, .int (F_J_max I x4 ((I 1 2) - x4)))]) (Ev.cm _) rfl rfl ?_
        refine w_iinc (ls2 := [(0, .ref 0), (1, .int (F_J_max I x4 ((I 1 2) - x4))), (2, .int x3), (3, .int (x3 + 1)), (4, .int x4), (5, .int (F_J_max I x4 ((I 1 2) - x4)))]) (Ev.cm _) rfl rfl rfl ?_
        refine w_goto (Ev.cm _) rfl ?_
        show Wp _ _ _ _ _ _ _ 7 [(0, .ref 0), (1, .int (F_J_max I x4 ((I 1 2) - x4))), (2, .int x3), (3, .int (x3 + 1)), (4, .int x4), (5, .int (F_J_max I x4 ((I 1 2) - x4)))] [] (HS I L X)
        refine Wp.sub [0, 1, 2, 3] (ls2 := [(0, .ref 0), (1, .int (F_J_max I x4 ((I 1 2) - x4))), (2, .int x3), (3, .int (x3 + 1))]) rfl ?_
        exact hk_7 _ _ _ _ _ q
    · have c1 : ¬ (F_X_tenants I  ≤ x5) := c1
      rw [if_neg c1] at q
      refine w_iload (Ev.cm _) rfl rfl ?_
      refine w_aload_n (Ev.cm _) rfl rfl ?_
      refine w_getR (q := 1) (Ev.cm _) rfl (Nat.le_of_ble_eq_true rfl) rfl rfl ?_
      refine w_getR (q := 130) (Ev.cm _) rfl (Nat.le_of_ble_eq_true rfl) rfl rfl ?_
      refine w_iload (Ev.cm _) rfl rfl ?_
      obtain ⟨b1, q⟩ := ois q
      refine w_iald (Ev.cm _) rfl (Nat.le_of_ble_eq_true rfl) rfl (show vp_in x5 6 from vpI 6 (by decide) b1.1 b1.2) ?_
      refine w_iload_n (Ev.cm _) rfl rfl ?_
      refine w_ishr (Ev.cm _) rfl ?_
      refine w_iconst (Ev.cm _) rfl ?_
      refine w_iand (Ev.cm _) rfl ?_
      refine w_iadd (Ev.cm _) rfl ?_
      refine w_istore (ls2 := [(0, .ref 0), (1, .int x1), (2, .int x2), (3, .int x3), (4, .int (x4 + (((I 130 x5.toNatClampNeg) >>> (x3 &&& 31)) &&& 1))), (5, .int x5)]) (Ev.cm _) rfl rfl ?_
      refine w_iinc (ls2 := [(0, .ref 0), (1, .int x1), (2, .int x2), (3, .int x3), (4, .int (x4 + (((I 130 x5.toNatClampNeg) >>> (x3 &&& 31)) &&& 1))), (5, .int (x5 + 1))]) (Ev.cm _) rfl rfl rfl ?_
      refine w_goto (Ev.cm _) rfl ?_
      show Wp _ _ _ _ _ _ _ 30 [(0, .ref 0), (1, .int x1), (2, .int x2), (3, .int x3), (4, .int (x4 + (((I 130 x5.toNatClampNeg) >>> (x3 &&& 31)) &&& 1))), (5, .int (x5 + 1))] [] (HS I L X)
      refine Wp.sub [0, 1, 2, 3, 4, 5] (ls2 := [(0, .ref 0), (1, .int x1), (2, .int x2), (3, .int x3), (4, .int (x4 + (((I 130 x5.toNatClampNeg) >>> (x3 &&& 31)) &&& 1))), (5, .int (x5 + 1))]) rfl ?_
      exact ih _ _ _ _ _ _ _ q
def LO_X_which_7 (fu : Nat) : Nat → Int32 → Int32 → Int32 → (Nat → Nat → Int32) → (Nat → Nat → Int64) → Option (Int32 × (Nat → Nat → Int32) × (Nat → Nat → Int64))
  | 0, _, _, _, _, _ => none
  | n + 1, x1, x2, x3, I, L => if 12 < x3 then (some (x2, I, L)) else (if I 1 2 ≤ 1 then (some (x2, I, L)) else (LO_X_which_30 fu (fun x1 x2 x3 I L => LO_X_which_7 fu n x1 x2 x3 I L) fu x1 x2 x3 0 0 I L))
set_option maxHeartbeats 20000000 in
set_option maxRecDepth 20000 in
theorem lo_X_which_7 {d fu n0 s0 : Nat} {X : Nat × (Nat → Int32)} {Q : PQ} {res : Int32 × (Nat → Nat → Int32) × (Nat → Nat → Int64)}  (g : Q (some (.int res.1)) (HS res.2.1 res.2.2 X)) : ∀ (n : Nat) (x1 : Int32) (x2 : Int32) (x3 : Int32) (I : Nat → Nat → Int32) (L : Nat → Nat → Int64), LO_X_which_7 fu n x1 x2 x3 I L = some res → Wp (Ev (d + 2)) cd_X_which (0, 0) (some .int) n0 s0 Q 7 [(0, .ref 0), (1, .int x1), (2, .int x2), (3, .int x3)] [] (HS I L X) := by
  intro n
  induction n with
  | zero => intro _ _ _ _ _ q; cases q
  | succ n ih =>
    intro x1 x2 x3 I L q
    unfold LO_X_which_7 at q
    refine w_iload_n (Ev.cm _) rfl rfl ?_
    refine w_bipush (Ev.cm _) rfl ?_
    refine w_icmp_gt (Ev.cm _) rfl (fun c1 => ?_) (fun c1 => ?_)
    · have c1 : 12 < x3 := c1
      rw [if_pos c1] at q
      refine w_iload_n (Ev.cm _) rfl rfl ?_
      refine w_ireturn (Ev.cm _) rfl trivial rf0 ?_
      cases q
      exact g
    · have c1 : ¬ (12 < x3) := c1
      rw [if_neg c1] at q
      refine w_aload_n (Ev.cm _) rfl rfl ?_
      refine w_getR (q := 1) (Ev.cm _) rfl (Nat.le_of_ble_eq_true rfl) rfl rfl ?_
      refine w_getI (Ev.cm _) rfl (Nat.le_of_ble_eq_true rfl) rfl ?_
      refine w_iconst (Ev.cm _) rfl ?_
      refine w_icmp_le (Ev.cm _) rfl (fun c2 => ?_) (fun c2 => ?_)
      · have c2 : I 1 2 ≤ 1 := c2
        rw [if_pos c2] at q
        refine w_iload_n (Ev.cm _) rfl rfl ?_
        refine w_ireturn (Ev.cm _) rfl trivial rf0 ?_
        cases q
        exact g
      · have c2 : ¬ (I 1 2 ≤ 1) := c2
        rw [if_neg c2] at q
        refine w_iconst (Ev.cm _) rfl ?_
        refine w_istore (ls2 := [(0, .ref 0), (1, .int x1), (2, .int x2), (3, .int x3), (4, .int 0)]) (Ev.cm _) rfl rfl ?_
        refine w_iconst (Ev.cm _) rfl ?_
        refine w_istore (ls2 := [(0, .ref 0), (1, .int x1), (2, .int x2), (3, .int x3), (4, .int 0), (5, .int 0)]) (Ev.cm _) rfl rfl ?_
        show Wp _ _ _ _ _ _ _ 30 [(0, .ref 0), (1, .int x1), (2, .int x2), (3, .int x3), (4, .int 0), (5, .int 0)] [] (HS I L X)
        refine Wp.sub [0, 1, 2, 3, 4, 5] (ls2 := [(0, .ref 0), (1, .int x1), (2, .int x2), (3, .int x3), (4, .int 0), (5, .int 0)]) rfl ?_
        exact lo_X_which_30 g (fun x1 x2 x3 I L q => ih x1 x2 x3 I L q) fu _ _ _ _ _ _ _ q
def FO_X_which (fu : Nat) (I : Nat → Nat → Int32) (L : Nat → Nat → Int64) : Option (Int32 × (Nat → Nat → Int32) × (Nat → Nat → Int64)) := LO_X_which_7 fu fu 7 (-1) 1 I L
set_option maxHeartbeats 20000000 in
set_option maxRecDepth 20000 in
theorem eo_X_which {d fu : Nat} {I : Nat → Nat → Int32} {L : Nat → Nat → Int64} {X : Nat × (Nat → Int32)} {Q : PQ} {res : Int32 × (Nat → Nat → Int32) × (Nat → Nat → Int64)}  (g : Q (some (.int res.1)) (HS res.2.1 res.2.2 X)) (q : FO_X_which fu  I L = some res) : Ev (d + 3) m_X_which [.ref 0] (HS I L X) Q := by
  unfold FO_X_which at q
  refine ev_start (d := d + 2) rfl rfl rfl (Nat.le_of_ble_eq_true rfl) ?_
  show Wp (Ev (d + 2)) cd_X_which (0, 0) (some .int) _ _ Q 0 [(0, .ref 0)] [] (HS I L X)
  refine w_bipush (Ev.cm _) rfl ?_
  refine w_istore_n (ls2 := [(0, .ref 0), (1, .int 7)]) (Ev.cm _) rfl rfl ?_
  refine w_iconst (Ev.cm _) rfl ?_
  refine w_istore_n (ls2 := [(0, .ref 0), (1, .int 7), (2, .int (-1))]) (Ev.cm _) rfl rfl ?_
  refine w_iconst (Ev.cm _) rfl ?_
  refine w_istore_n (ls2 := [(0, .ref 0), (1, .int 7), (2, .int (-1)), (3, .int 1)]) (Ev.cm _) rfl rfl ?_
  show Wp _ _ _ _ _ _ _ 7 [(0, .ref 0), (1, .int 7), (2, .int (-1)), (3, .int 1)] [] (HS I L X)
  refine Wp.sub [0, 1, 2, 3] (ls2 := [(0, .ref 0), (1, .int 7), (2, .int (-1)), (3, .int 1)]) rfl ?_
  exact lo_X_which_7 g fu _ _ _ _ _ q
def FO_X_heavy (fu : Nat) (p0 : Int32) (p1 : Int32) (I : Nat → Nat → Int32) (L : Nat → Nat → Int64) : Option (Int32 × (Nat → Nat → Int32) × (Nat → Nat → Int64)) := if (0 : Int32) ≤ p0 ∧ p0 ≤ (5 : Int32) then (if (1 : Int32) ≤ p1 ∧ p1 ≤ (99 : Int32) then (if 0 ≤ p0 ∧ p0 < 6 then (some (1, sI I 135 p0.toNatClampNeg p1, L)) else none) else (some (0, I, L))) else (some (0, I, L))
set_option maxHeartbeats 20000000 in
set_option maxRecDepth 20000 in
theorem eo_X_heavy {d fu : Nat} {p0 : Int32} {p1 : Int32} {I : Nat → Nat → Int32} {L : Nat → Nat → Int64} {X : Nat × (Nat → Int32)} {Q : PQ} {res : Int32 × (Nat → Nat → Int32) × (Nat → Nat → Int64)}  (g : Q (some (.int res.1)) (HS res.2.1 res.2.2 X)) (q : FO_X_heavy fu p0 p1 I L = some res) : Ev (d + 2) m_X_heavy [.ref 0, .int p0, .int p1] (HS I L X) Q := by
  unfold FO_X_heavy at q
  refine ev_start (d := d + 1) rfl rfl rfl (Nat.le_of_ble_eq_true rfl) ?_
  show Wp (Ev (d + 1)) cd_X_heavy (0, 0) (some .boolean) _ _ Q 0 [(0, .ref 0), (1, .int p0), (2, .int p1)] [] (HS I L X)
  refine w_iload_n (Ev.cm _) rfl rfl ?_
  refine w_iconst (Ev.cm _) rfl ?_
  refine w_iconst (Ev.cm _) rfl ?_
  refine w_cstat (as := [.int p0, .int 0, .int 5]) (st := []) (Ev.cm _) rfl rfl rfl (Nat.le_of_ble_eq_true rfl) (Nat.le_of_ble_eq_true rfl) (x_within ?_)
  show Wp _ _ _ _ _ _ _ 6 [(0, .ref 0), (1, .int p0), (2, .int p1)] [.int (bI ((0 : Int32) ≤ p0 ∧ p0 ≤ (5 : Int32)))] (HS I L X)
  refine w_if_eq (Ev.cm _) rfl (fun c1 => ?_) (fun c1 => ?_)
  · have c1 : ¬ ((0 : Int32) ≤ p0 ∧ p0 ≤ (5 : Int32)) := bI_0.mp c1
    rw [if_neg c1] at q
    refine w_iconst (Ev.cm _) rfl ?_
    refine w_ireturn (Ev.cm _) rfl (by first | exact rok_0 | exact rok_1 | exact rok_b) rf0 ?_
    cases q
    exact g
  · have c1 : (0 : Int32) ≤ p0 ∧ p0 ≤ (5 : Int32) := bI_1.mp c1
    rw [if_pos c1] at q
    refine w_iload_n (Ev.cm _) rfl rfl ?_
    refine w_iconst (Ev.cm _) rfl ?_
    refine w_bipush (Ev.cm _) rfl ?_
    refine w_cstat (as := [.int p1, .int 1, .int 99]) (st := []) (Ev.cm _) rfl rfl rfl (Nat.le_of_ble_eq_true rfl) (Nat.le_of_ble_eq_true rfl) (x_within ?_)
    show Wp _ _ _ _ _ _ _ 16 [(0, .ref 0), (1, .int p0), (2, .int p1)] [.int (bI ((1 : Int32) ≤ p1 ∧ p1 ≤ (99 : Int32)))] (HS I L X)
    refine w_if_ne (Ev.cm _) rfl (fun c2 => ?_) (fun c2 => ?_)
    · have c2 : (1 : Int32) ≤ p1 ∧ p1 ≤ (99 : Int32) := bI_1.mp c2
      rw [if_pos c2] at q
      refine w_aload_n (Ev.cm _) rfl rfl ?_
      refine w_getR (q := 1) (Ev.cm _) rfl (Nat.le_of_ble_eq_true rfl) rfl rfl ?_
      refine w_getR (q := 135) (Ev.cm _) rfl (Nat.le_of_ble_eq_true rfl) rfl rfl ?_
      refine w_iload_n (Ev.cm _) rfl rfl ?_
      refine w_iload_n (Ev.cm _) rfl rfl ?_
      obtain ⟨b1, q⟩ := ois q
      refine w_iast (Ev.cm _) rfl (Nat.le_of_ble_eq_true rfl) rfl (show vp_in p0 6 from vpI 6 (by decide) b1.1 b1.2) ?_
      refine w_iconst (Ev.cm _) rfl ?_
      refine w_ireturn (Ev.cm _) rfl (by first | exact rok_0 | exact rok_1 | exact rok_b) rf0 ?_
      cases q
      exact g
    · have c2 : ¬ ((1 : Int32) ≤ p1 ∧ p1 ≤ (99 : Int32)) := bI_0.mp c2
      rw [if_neg c2] at q
      refine w_iconst (Ev.cm _) rfl ?_
      refine w_ireturn (Ev.cm _) rfl (by first | exact rok_0 | exact rok_1 | exact rok_b) rf0 ?_
      cases q
      exact g
def FO_X_said (fu : Nat) (p0 : Int32) (p1 : Int32) (p2 : Int32) (I : Nat → Nat → Int32) (L : Nat → Nat → Int64) : Option (Int32 × (Nat → Nat → Int32) × (Nat → Nat → Int64)) := if p0 = (-1) then (some (0, sI I 1 16 0, L)) else (if F_X_isLodger I p0 = 0 then (some ((-2), I, L)) else (if 1 ≤ p1 ∧ p1 ≤ 12 then (if (0 : Int32) ≤ p2 ∧ p2 ≤ (99 : Int32) then (if (0 : Int32) ≤ (I 1 16) ∧ (I 1 16) ≤ (7 : Int32) then (if 0 ≤ (I 1 16) * 3 ∧ (I 1 16) * 3 < 24 then (if 0 ≤ ((I 1 16) * 3) + 1 ∧ ((I 1 16) * 3) + 1 < 24 then (if 0 ≤ ((I 1 16) * 3) + 2 ∧ ((I 1 16) * 3) + 2 < 24 then (some ((I 1 16) + 1, sI (sI (sI (sI I 136 (((I 1 16) * 3).toNatClampNeg) p0) 136 ((((I 1 16) * 3) + 1).toNatClampNeg) p1) 136 ((((I 1 16) * 3) + 2).toNatClampNeg) p2) 1 16 ((I 1 16) + 1), L)) else none) else none) else none) else (some ((-2), I, L))) else (some ((-2), I, L))) else (some ((-2), I, L))))
set_option maxHeartbeats 20000000 in
set_option maxRecDepth 20000 in
theorem eo_X_said {d fu : Nat} {p0 : Int32} {p1 : Int32} {p2 : Int32} {I : Nat → Nat → Int32} {L : Nat → Nat → Int64} {X : Nat × (Nat → Int32)} {Q : PQ} {res : Int32 × (Nat → Nat → Int32) × (Nat → Nat → Int64)}  (g : Q (some (.int res.1)) (HS res.2.1 res.2.2 X)) (q : FO_X_said fu p0 p1 p2 I L = some res) : Ev (d + 4) m_X_said [.ref 0, .int p0, .int p1, .int p2] (HS I L X) Q := by
  unfold FO_X_said at q
  refine ev_start (d := d + 3) rfl rfl rfl (Nat.le_of_ble_eq_true rfl) ?_
  show Wp (Ev (d + 3)) cd_X_said (0, 0) (some .int) _ _ Q 0 [(0, .ref 0), (1, .int p0), (2, .int p1), (3, .int p2)] [] (HS I L X)
  refine w_iload_n (Ev.cm _) rfl rfl ?_
  refine w_iconst (Ev.cm _) rfl ?_
  refine w_icmp_ne (Ev.cm _) rfl (fun c1 => ?_) (fun c1 => ?_)
  · have c1 : ¬ (p0 = (-1)) := c1
    rw [if_neg c1] at q
    refine w_aload_n (Ev.cm _) rfl rfl ?_
    refine w_iload_n (Ev.cm _) rfl rfl ?_
    refine w_cvirt (o := 0) (as := [.int p0]) (st := []) (Ev.cm _) rfl rfl rfl (Nat.le_of_ble_eq_true rfl) (Nat.le_of_ble_eq_true rfl) rfl (Nat.le_of_ble_eq_true rfl) (e_X_isLodger ?_)
    show Wp _ _ _ _ _ _ _ 20 [(0, .ref 0), (1, .int p0), (2, .int p1), (3, .int p2)] [.int (F_X_isLodger I p0)] (HS I L X)
    refine w_if_eq (Ev.cm _) rfl (fun c2 => ?_) (fun c2 => ?_)
    · have c2 : F_X_isLodger I p0 = 0 := c2
      rw [if_pos c2] at q
      refine w_bipush (Ev.cm _) rfl ?_
      refine w_ireturn (Ev.cm _) rfl trivial rf0 ?_
      cases q
      exact g
    · have c2 : ¬ (F_X_isLodger I p0 = 0) := c2
      rw [if_neg c2] at q
      refine w_iload_n (Ev.cm _) rfl rfl ?_
      refine w_cstat (as := [.int p1]) (st := []) (Ev.cm _) rfl rfl rfl (Nat.le_of_ble_eq_true rfl) (Nat.le_of_ble_eq_true rfl) (x_isStair ?_)
      show Wp _ _ _ _ _ _ _ 27 [(0, .ref 0), (1, .int p0), (2, .int p1), (3, .int p2)] [.int (bI (1 ≤ p1 ∧ p1 ≤ 12))] (HS I L X)
      refine w_if_eq (Ev.cm _) rfl (fun c3 => ?_) (fun c3 => ?_)
      · have c3 : ¬ (1 ≤ p1 ∧ p1 ≤ 12) := bI_0.mp c3
        rw [if_neg c3] at q
        refine w_bipush (Ev.cm _) rfl ?_
        refine w_ireturn (Ev.cm _) rfl trivial rf0 ?_
        cases q
        exact g
      · have c3 : 1 ≤ p1 ∧ p1 ≤ 12 := bI_1.mp c3
        rw [if_pos c3] at q
        refine w_iload_n (Ev.cm _) rfl rfl ?_
        refine w_iconst (Ev.cm _) rfl ?_
        refine w_bipush (Ev.cm _) rfl ?_
        refine w_cstat (as := [.int p2, .int 0, .int 99]) (st := []) (Ev.cm _) rfl rfl rfl (Nat.le_of_ble_eq_true rfl) (Nat.le_of_ble_eq_true rfl) (x_within ?_)
        show Wp _ _ _ _ _ _ _ 37 [(0, .ref 0), (1, .int p0), (2, .int p1), (3, .int p2)] [.int (bI ((0 : Int32) ≤ p2 ∧ p2 ≤ (99 : Int32)))] (HS I L X)
        refine w_if_eq (Ev.cm _) rfl (fun c4 => ?_) (fun c4 => ?_)
        · have c4 : ¬ ((0 : Int32) ≤ p2 ∧ p2 ≤ (99 : Int32)) := bI_0.mp c4
          rw [if_neg c4] at q
          refine w_bipush (Ev.cm _) rfl ?_
          refine w_ireturn (Ev.cm _) rfl trivial rf0 ?_
          cases q
          exact g
        · have c4 : (0 : Int32) ≤ p2 ∧ p2 ≤ (99 : Int32) := bI_1.mp c4
          rw [if_pos c4] at q
          refine w_aload_n (Ev.cm _) rfl rfl ?_
          refine w_getR (q := 1) (Ev.cm _) rfl (Nat.le_of_ble_eq_true rfl) rfl rfl ?_
          refine w_getI (Ev.cm _) rfl (Nat.le_of_ble_eq_true rfl) rfl ?_
          refine w_iconst (Ev.cm _) rfl ?_
          refine w_bipush (Ev.cm _) rfl ?_
          refine w_cstat (as := [.int (I 1 16), .int 0, .int 7]) (st := []) (Ev.cm _) rfl rfl rfl (Nat.le_of_ble_eq_true rfl) (Nat.le_of_ble_eq_true rfl) (x_within ?_)
          show Wp _ _ _ _ _ _ _ 53 [(0, .ref 0), (1, .int p0), (2, .int p1), (3, .int p2)] [.int (bI ((0 : Int32) ≤ (I 1 16) ∧ (I 1 16) ≤ (7 : Int32)))] (HS I L X)
          refine w_if_ne (Ev.cm _) rfl (fun c5 => ?_) (fun c5 => ?_)
          · have c5 : (0 : Int32) ≤ (I 1 16) ∧ (I 1 16) ≤ (7 : Int32) := bI_1.mp c5
            rw [if_pos c5] at q
            refine w_aload_n (Ev.cm _) rfl rfl ?_
            refine w_getR (q := 1) (Ev.cm _) rfl (Nat.le_of_ble_eq_true rfl) rfl rfl ?_
            refine w_getI (Ev.cm _) rfl (Nat.le_of_ble_eq_true rfl) rfl ?_
            refine w_iconst (Ev.cm _) rfl ?_
            refine w_imul (Ev.cm _) rfl ?_
            refine w_istore (ls2 := [(0, .ref 0), (1, .int p0), (2, .int p1), (3, .int p2), (4, .int ((I 1 16) * 3))]) (Ev.cm _) rfl rfl ?_
            refine w_aload_n (Ev.cm _) rfl rfl ?_
            refine w_getR (q := 1) (Ev.cm _) rfl (Nat.le_of_ble_eq_true rfl) rfl rfl ?_
            refine w_getR (q := 136) (Ev.cm _) rfl (Nat.le_of_ble_eq_true rfl) rfl rfl ?_
            refine w_iload (Ev.cm _) rfl rfl ?_
            refine w_iload_n (Ev.cm _) rfl rfl ?_
            obtain ⟨b1, q⟩ := ois q
            refine w_iast (Ev.cm _) rfl (Nat.le_of_ble_eq_true rfl) rfl (show vp_in ((I 1 16) * 3) 24 from vpI 24 (by decide) b1.1 b1.2) ?_
            refine w_aload_n (Ev.cm _) rfl rfl ?_
            refine w_getR (q := 1) (Ev.cm _) rfl (Nat.le_of_ble_eq_true rfl) rfl rfl ?_
            refine w_getR (q := 136) (Ev.cm _) rfl (Nat.le_of_ble_eq_true rfl) rfl rfl ?_
            refine w_iload (Ev.cm _) rfl rfl ?_
            refine w_iconst (Ev.cm _) rfl ?_
            refine w_iadd (Ev.cm _) rfl ?_
            refine w_iload_n (Ev.cm _) rfl rfl ?_
            obtain ⟨b2, q⟩ := ois q
            refine w_iast (Ev.cm _) rfl (Nat.le_of_ble_eq_true rfl) rfl (show vp_in (((I 1 16) * 3) + 1) 24 from vpI 24 (by decide) b2.1 b2.2) ?_
            refine w_aload_n (Ev.cm _) rfl rfl ?_
            refine w_getR (q := 1) (Ev.cm _) rfl (Nat.le_of_ble_eq_true rfl) rfl rfl ?_
            refine w_getR (q := 136) (Ev.cm _) rfl (Nat.le_of_ble_eq_true rfl) rfl rfl ?_
            refine w_iload (Ev.cm _) rfl rfl ?_
            refine w_iconst (Ev.cm _) rfl ?_
            refine w_iadd (Ev.cm _) rfl ?_
            refine w_iload_n (Ev.cm _) rfl rfl ?_
            obtain ⟨b3, q⟩ := ois q
            refine w_iast (Ev.cm _) rfl (Nat.le_of_ble_eq_true rfl) rfl (show vp_in (((I 1 16) * 3) + 2) 24 from vpI 24 (by decide) b3.1 b3.2) ?_
            refine w_aload_n (Ev.cm _) rfl rfl ?_
            refine w_getR (q := 1) (Ev.cm _) rfl (Nat.le_of_ble_eq_true rfl) rfl rfl ?_
            refine w_dup (Ev.cm _) rfl rfl ?_
            refine w_getI (Ev.cm _) rfl (Nat.le_of_ble_eq_true rfl) rfl ?_
            refine w_iconst (Ev.cm _) rfl ?_
            refine w_iadd (Ev.cm _) rfl ?_
            refine w_putI (Ev.cm _) rfl (Nat.le_of_ble_eq_true rfl) rfl ?_
            refine w_aload_n (Ev.cm _) rfl rfl ?_
            refine w_getR (q := 1) (Ev.cm _) rfl (Nat.le_of_ble_eq_true rfl) rfl rfl ?_
            refine w_getI (Ev.cm _) rfl (Nat.le_of_ble_eq_true rfl) rfl ?_
            refine w_ireturn (Ev.cm _) rfl trivial rf0 ?_
            cases q
            exact g
          · have c5 : ¬ ((0 : Int32) ≤ (I 1 16) ∧ (I 1 16) ≤ (7 : Int32)) := bI_0.mp c5
            rw [if_neg c5] at q
            refine w_bipush (Ev.cm _) rfl ?_
            refine w_ireturn (Ev.cm _) rfl trivial rf0 ?_
            cases q
            exact g
  · have c1 : p0 = (-1) := c1
    rw [if_pos c1] at q
    refine w_aload_n (Ev.cm _) rfl rfl ?_
    refine w_getR (q := 1) (Ev.cm _) rfl (Nat.le_of_ble_eq_true rfl) rfl rfl ?_
    refine w_iconst (Ev.cm _) rfl ?_
    refine w_putI (Ev.cm _) rfl (Nat.le_of_ble_eq_true rfl) rfl ?_
    refine w_iconst (Ev.cm _) rfl ?_
    refine w_ireturn (Ev.cm _) rfl trivial rf0 ?_
    cases q
    exact g
def LO_X_home_4 (fu : Nat) : Nat → Int32 → Int32 → (Nat → Nat → Int32) → (Nat → Nat → Int64) → Option (Int32 × (Nat → Nat → Int32) × (Nat → Nat → Int64))
  | 0, _, _, _, _ => none
  | n + 1, x1, x2, I, L => if F_X_tenants I  ≤ x2 then (some (x1, I, L)) else (if 0 ≤ x2 ∧ x2 < 6 then (if 0 ≤ x2 ∧ x2 < 6 then (if I 3 x2.toNatClampNeg = I 129 x2.toNatClampNeg then (LO_X_home_4 fu n (x1 ||| ((1 : Int32) <<< (x2 &&& 31))) (x2 + 1) I L) else (LO_X_home_4 fu n x1 (x2 + 1) I L)) else none) else none)
set_option maxHeartbeats 20000000 in
set_option maxRecDepth 20000 in
theorem lo_X_home_4 {d fu n0 s0 : Nat} {X : Nat × (Nat → Int32)} {Q : PQ} {res : Int32 × (Nat → Nat → Int32) × (Nat → Nat → Int64)}  (g : Q (some (.int res.1)) (HS res.2.1 res.2.2 X)) : ∀ (n : Nat) (x1 : Int32) (x2 : Int32) (I : Nat → Nat → Int32) (L : Nat → Nat → Int64), LO_X_home_4 fu n x1 x2 I L = some res → Wp (Ev (d + 2)) cd_X_home (0, 0) (some .int) n0 s0 Q 4 [(0, .ref 0), (1, .int x1), (2, .int x2)] [] (HS I L X) := by
  intro n
  induction n with
  | zero => intro _ _ _ _ q; cases q
  | succ n ih =>
    intro x1 x2 I L q
    unfold LO_X_home_4 at q
    refine w_iload_n (Ev.cm _) rfl rfl ?_
    refine w_aload_n (Ev.cm _) rfl rfl ?_
    refine w_cvirt (o := 0) (as := []) (st := [.int x2]) (Ev.cm _) rfl rfl rfl (Nat.le_of_ble_eq_true rfl) (Nat.le_of_ble_eq_true rfl) rfl (Nat.le_of_ble_eq_true rfl) (e_X_tenants ?_)
    show Wp _ _ _ _ _ _ _ 9 [(0, .ref 0), (1, .int x1), (2, .int x2)] [.int (F_X_tenants I ), .int x2] (HS I L X)
    refine w_icmp_ge (Ev.cm _) rfl (fun c1 => ?_) (fun c1 => ?_)
    · have c1 : F_X_tenants I  ≤ x2 := c1
      rw [if_pos c1] at q
      refine w_iload_n (Ev.cm _) rfl rfl ?_
      refine w_ireturn (Ev.cm _) rfl trivial rf0 ?_
      cases q
      exact g
    · have c1 : ¬ (F_X_tenants I  ≤ x2) := c1
      rw [if_neg c1] at q
      refine w_aload_n (Ev.cm _) rfl rfl ?_
      refine w_getR (q := 1) (Ev.cm _) rfl (Nat.le_of_ble_eq_true rfl) rfl rfl ?_
      refine w_getR (q := 2) (Ev.cm _) rfl (Nat.le_of_ble_eq_true rfl) rfl rfl ?_
      refine w_getR (q := 3) (Ev.cm _) rfl (Nat.le_of_ble_eq_true rfl) rfl rfl ?_
      refine w_iload_n (Ev.cm _) rfl rfl ?_
      obtain ⟨b1, q⟩ := ois q
      refine w_iald (Ev.cm _) rfl (Nat.le_of_ble_eq_true rfl) rfl (show vp_in x2 6 from vpI 6 (by decide) b1.1 b1.2) ?_
      refine w_aload_n (Ev.cm _) rfl rfl ?_
      refine w_getR (q := 1) (Ev.cm _) rfl (Nat.le_of_ble_eq_true rfl) rfl rfl ?_
      refine w_getR (q := 129) (Ev.cm _) rfl (Nat.le_of_ble_eq_true rfl) rfl rfl ?_
      refine w_iload_n (Ev.cm _) rfl rfl ?_
      obtain ⟨b2, q⟩ := ois q
      refine w_iald (Ev.cm _) rfl (Nat.le_of_ble_eq_true rfl) rfl (show vp_in x2 6 from vpI 6 (by decide) b2.1 b2.2) ?_
      refine w_icmp_ne (Ev.cm _) rfl (fun c2 => ?_) (fun c2 => ?_)
      · have c2 : ¬ (I 3 x2.toNatClampNeg = I 129 x2.toNatClampNeg) := c2
        rw [if_neg c2] at q
        refine w_iinc (ls2 := [(0, .ref 0), (1, .int x1), (2, .int (x2 + 1))]) (Ev.cm _) rfl rfl rfl ?_
        refine w_goto (Ev.cm _) rfl ?_
        show Wp _ _ _ _ _ _ _ 4 [(0, .ref 0), (1, .int x1), (2, .int (x2 + 1))] [] (HS I L X)
        refine Wp.sub [0, 1, 2] (ls2 := [(0, .ref 0), (1, .int x1), (2, .int (x2 + 1))]) rfl ?_
        exact ih _ _ _ _ q
      · have c2 : I 3 x2.toNatClampNeg = I 129 x2.toNatClampNeg := c2
        rw [if_pos c2] at q
        refine w_iload_n (Ev.cm _) rfl rfl ?_
        refine w_iconst (Ev.cm _) rfl ?_
        refine w_iload_n (Ev.cm _) rfl rfl ?_
        refine w_ishl (Ev.cm _) rfl ?_
        refine w_ior (Ev.cm _) rfl ?_
        refine w_istore_n (ls2 := [(0, .ref 0), (1, .int (x1 ||| ((1 : Int32) <<< (x2 &&& 31)))), (2, .int x2)]) (Ev.cm _) rfl rfl ?_
        refine w_iinc (ls2 := [(0, .ref 0), (1, .int (x1 ||| ((1 : Int32) <<< (x2 &&& 31)))), (2, .int (x2 + 1))]) (Ev.cm _) rfl rfl rfl ?_
        refine w_goto (Ev.cm _) rfl ?_
        show Wp _ _ _ _ _ _ _ 4 [(0, .ref 0), (1, .int (x1 ||| ((1 : Int32) <<< (x2 &&& 31)))), (2, .int (x2 + 1))] [] (HS I L X)
        refine Wp.sub [0, 1, 2] (ls2 := [(0, .ref 0), (1, .int (x1 ||| ((1 : Int32) <<< (x2 &&& 31)))), (2, .int (x2 + 1))]) rfl ?_
        exact ih _ _ _ _ q
def FO_X_home (fu : Nat) (I : Nat → Nat → Int32) (L : Nat → Nat → Int64) : Option (Int32 × (Nat → Nat → Int32) × (Nat → Nat → Int64)) := LO_X_home_4 fu fu 0 0 I L
set_option maxHeartbeats 20000000 in
set_option maxRecDepth 20000 in
theorem eo_X_home {d fu : Nat} {I : Nat → Nat → Int32} {L : Nat → Nat → Int64} {X : Nat × (Nat → Int32)} {Q : PQ} {res : Int32 × (Nat → Nat → Int32) × (Nat → Nat → Int64)}  (g : Q (some (.int res.1)) (HS res.2.1 res.2.2 X)) (q : FO_X_home fu  I L = some res) : Ev (d + 3) m_X_home [.ref 0] (HS I L X) Q := by
  unfold FO_X_home at q
  refine ev_start (d := d + 2) rfl rfl rfl (Nat.le_of_ble_eq_true rfl) ?_
  show Wp (Ev (d + 2)) cd_X_home (0, 0) (some .int) _ _ Q 0 [(0, .ref 0)] [] (HS I L X)
  refine w_iconst (Ev.cm _) rfl ?_
  refine w_istore_n (ls2 := [(0, .ref 0), (1, .int 0)]) (Ev.cm _) rfl rfl ?_
  refine w_iconst (Ev.cm _) rfl ?_
  refine w_istore_n (ls2 := [(0, .ref 0), (1, .int 0), (2, .int 0)]) (Ev.cm _) rfl rfl ?_
  show Wp _ _ _ _ _ _ _ 4 [(0, .ref 0), (1, .int 0), (2, .int 0)] [] (HS I L X)
  refine Wp.sub [0, 1, 2] (ls2 := [(0, .ref 0), (1, .int 0), (2, .int 0)]) rfl ?_
  exact lo_X_home_4 g fu _ _ _ _ q
def LO_X_doubles_14 (fu : Nat) (k_4 : Int32 → Int32 → (Nat → Nat → Int32) → (Nat → Nat → Int64) → Option (Int32 × (Nat → Nat → Int32) × (Nat → Nat → Int64))) : Nat → Int32 → Int32 → Int32 → (Nat → Nat → Int32) → (Nat → Nat → Int64) → Option (Int32 × (Nat → Nat → Int32) × (Nat → Nat → Int64))
  | 0, _, _, _, _, _ => none
  | n + 1, x1, x2, x3, I, L => if x2 ≤ x3 then (k_4 x1 (x2 + 1) I L) else (if 0 ≤ x2 ∧ x2 < 6 then (if 0 ≤ x3 ∧ x3 < 6 then (if I 3 x2.toNatClampNeg = I 3 x3.toNatClampNeg then (LO_X_doubles_14 fu k_4 n (x1 + 1) x2 (x3 + 1) I L) else (LO_X_doubles_14 fu k_4 n x1 x2 (x3 + 1) I L)) else none) else none)
set_option maxHeartbeats 20000000 in
set_option maxRecDepth 20000 in
theorem lo_X_doubles_14 {d fu n0 s0 : Nat} {X : Nat × (Nat → Int32)} {Q : PQ} {k_4 : Int32 → Int32 → (Nat → Nat → Int32) → (Nat → Nat → Int64) → Option (Int32 × (Nat → Nat → Int32) × (Nat → Nat → Int64))} {res : Int32 × (Nat → Nat → Int32) × (Nat → Nat → Int64)}  (g : Q (some (.int res.1)) (HS res.2.1 res.2.2 X)) (hk_4 : ∀ (x1 : Int32) (x2 : Int32) (I : Nat → Nat → Int32) (L : Nat → Nat → Int64), k_4 x1 x2 I L = some res → Wp (Ev (d + 2)) cd_X_doubles (0, 0) (some .int) n0 s0 Q 4 [(0, .ref 0), (1, .int x1), (2, .int x2)] [] (HS I L X)) : ∀ (n : Nat) (x1 : Int32) (x2 : Int32) (x3 : Int32) (I : Nat → Nat → Int32) (L : Nat → Nat → Int64), LO_X_doubles_14 fu k_4 n x1 x2 x3 I L = some res → Wp (Ev (d + 2)) cd_X_doubles (0, 0) (some .int) n0 s0 Q 14 [(0, .ref 0), (1, .int x1), (2, .int x2), (3, .int x3)] [] (HS I L X) := by
  intro n
  induction n with
  | zero => intro _ _ _ _ _ q; cases q
  | succ n ih =>
    intro x1 x2 x3 I L q
    unfold LO_X_doubles_14 at q
    refine w_iload_n (Ev.cm _) rfl rfl ?_
    refine w_iload_n (Ev.cm _) rfl rfl ?_
    refine w_icmp_ge (Ev.cm _) rfl (fun c1 => ?_) (fun c1 => ?_)
    · have c1 : x2 ≤ x3 := c1
      rw [if_pos c1] at q
      refine w_iinc (ls2 := [(0, .ref 0), (1, .int x1), (2, .int (x2 + 1)), (3, .int x3)]) (Ev.cm _) rfl rfl rfl ?_
      refine w_goto (Ev.cm _) rfl ?_
      show Wp _ _ _ _ _ _ _ 4 [(0, .ref 0), (1, .int x1), (2, .int (x2 + 1)), (3, .int x3)] [] (HS I L X)
      refine Wp.sub [0, 1, 2] (ls2 := [(0, .ref 0), (1, .int x1), (2, .int (x2 + 1))]) rfl ?_
      exact hk_4 _ _ _ _ q
    · have c1 : ¬ (x2 ≤ x3) := c1
      rw [if_neg c1] at q
      refine w_aload_n (Ev.cm _) rfl rfl ?_
      refine w_getR (q := 1) (Ev.cm _) rfl (Nat.le_of_ble_eq_true rfl) rfl rfl ?_
      refine w_getR (q := 2) (Ev.cm _) rfl (Nat.le_of_ble_eq_true rfl) rfl rfl ?_
      refine w_getR (q := 3) (Ev.cm _) rfl (Nat.le_of_ble_eq_true rfl) rfl rfl ?_
      refine w_iload_n (Ev.cm _) rfl rfl ?_
      obtain ⟨b1, q⟩ := ois q
      refine w_iald (Ev.cm _) rfl (Nat.le_of_ble_eq_true rfl) rfl (show vp_in x2 6 from vpI 6 (by decide) b1.1 b1.2) ?_
      refine w_aload_n (Ev.cm _) rfl rfl ?_
      refine w_getR (q := 1) (Ev.cm _) rfl (Nat.le_of_ble_eq_true rfl) rfl rfl ?_
      refine w_getR (q := 2) (Ev.cm _) rfl (Nat.le_of_ble_eq_true rfl) rfl rfl ?_
      refine w_getR (q := 3) (Ev.cm _) rfl (Nat.le_of_ble_eq_true rfl) rfl rfl ?_
      refine w_iload_n (Ev.cm _) rfl rfl ?_
      obtain ⟨b2, q⟩ := ois q
      refine w_iald (Ev.cm _) rfl (Nat.le_of_ble_eq_true rfl) rfl (show vp_in x3 6 from vpI 6 (by decide) b2.1 b2.2) ?_
      refine w_icmp_ne (Ev.cm _) rfl (fun c2 => ?_) (fun c2 => ?_)
      · have c2 : ¬ (I 3 x2.toNatClampNeg = I 3 x3.toNatClampNeg) := c2
        rw [if_neg c2] at q
        refine w_iinc (ls2 := [(0, .ref 0), (1, .int x1), (2, .int x2), (3, .int (x3 + 1))]) (Ev.cm _) rfl rfl rfl ?_
        refine w_goto (Ev.cm _) rfl ?_
        show Wp _ _ _ _ _ _ _ 14 [(0, .ref 0), (1, .int x1), (2, .int x2), (3, .int (x3 + 1))] [] (HS I L X)
        refine Wp.sub [0, 1, 2, 3] (ls2 := [(0, .ref 0), (1, .int x1), (2, .int x2), (3, .int (x3 + 1))]) rfl ?_
        exact ih _ _ _ _ _ q
      · have c2 : I 3 x2.toNatClampNeg = I 3 x3.toNatClampNeg := c2
        rw [if_pos c2] at q
        refine w_iinc (ls2 := [(0, .ref 0), (1, .int (x1 + 1)), (2, .int x2), (3, .int x3)]) (Ev.cm _) rfl rfl rfl ?_
        refine w_iinc (ls2 := [(0, .ref 0), (1, .int (x1 + 1)), (2, .int x2), (3, .int (x3 + 1))]) (Ev.cm _) rfl rfl rfl ?_
        refine w_goto (Ev.cm _) rfl ?_
        show Wp _ _ _ _ _ _ _ 14 [(0, .ref 0), (1, .int (x1 + 1)), (2, .int x2), (3, .int (x3 + 1))] [] (HS I L X)
        refine Wp.sub [0, 1, 2, 3] (ls2 := [(0, .ref 0), (1, .int (x1 + 1)), (2, .int x2), (3, .int (x3 + 1))]) rfl ?_
        exact ih _ _ _ _ _ q
def LO_X_doubles_4 (fu : Nat) : Nat → Int32 → Int32 → (Nat → Nat → Int32) → (Nat → Nat → Int64) → Option (Int32 × (Nat → Nat → Int32) × (Nat → Nat → Int64))
  | 0, _, _, _, _ => none
  | n + 1, x1, x2, I, L => if F_X_tenants I  ≤ x2 then (some (x1, I, L)) else (LO_X_doubles_14 fu (fun x1 x2 I L => LO_X_doubles_4 fu n x1 x2 I L) fu x1 x2 0 I L)
set_option maxHeartbeats 20000000 in
set_option maxRecDepth 20000 in
theorem lo_X_doubles_4 {d fu n0 s0 : Nat} {X : Nat × (Nat → Int32)} {Q : PQ} {res : Int32 × (Nat → Nat → Int32) × (Nat → Nat → Int64)}  (g : Q (some (.int res.1)) (HS res.2.1 res.2.2 X)) : ∀ (n : Nat) (x1 : Int32) (x2 : Int32) (I : Nat → Nat → Int32) (L : Nat → Nat → Int64), LO_X_doubles_4 fu n x1 x2 I L = some res → Wp (Ev (d + 2)) cd_X_doubles (0, 0) (some .int) n0 s0 Q 4 [(0, .ref 0), (1, .int x1), (2, .int x2)] [] (HS I L X) := by
  intro n
  induction n with
  | zero => intro _ _ _ _ q; cases q
  | succ n ih =>
    intro x1 x2 I L q
    unfold LO_X_doubles_4 at q
    refine w_iload_n (Ev.cm _) rfl rfl ?_
    refine w_aload_n (Ev.cm _) rfl rfl ?_
    refine w_cvirt (o := 0) (as := []) (st := [.int x2]) (Ev.cm _) rfl rfl rfl (Nat.le_of_ble_eq_true rfl) (Nat.le_of_ble_eq_true rfl) rfl (Nat.le_of_ble_eq_true rfl) (e_X_tenants ?_)
    show Wp _ _ _ _ _ _ _ 9 [(0, .ref 0), (1, .int x1), (2, .int x2)] [.int (F_X_tenants I ), .int x2] (HS I L X)
    refine w_icmp_ge (Ev.cm _) rfl (fun c1 => ?_) (fun c1 => ?_)
    · have c1 : F_X_tenants I  ≤ x2 := c1
      rw [if_pos c1] at q
      refine w_iload_n (Ev.cm _) rfl rfl ?_
      refine w_ireturn (Ev.cm _) rfl trivial rf0 ?_
      cases q
      exact g
    · have c1 : ¬ (F_X_tenants I  ≤ x2) := c1
      rw [if_neg c1] at q
      refine w_iconst (Ev.cm _) rfl ?_
      refine w_istore_n (ls2 := [(0, .ref 0), (1, .int x1), (2, .int x2), (3, .int 0)]) (Ev.cm _) rfl rfl ?_
      show Wp _ _ _ _ _ _ _ 14 [(0, .ref 0), (1, .int x1), (2, .int x2), (3, .int 0)] [] (HS I L X)
      refine Wp.sub [0, 1, 2, 3] (ls2 := [(0, .ref 0), (1, .int x1), (2, .int x2), (3, .int 0)]) rfl ?_
      exact lo_X_doubles_14 g (fun x1 x2 I L q => ih x1 x2 I L q) fu _ _ _ _ _ q
def FO_X_doubles (fu : Nat) (I : Nat → Nat → Int32) (L : Nat → Nat → Int64) : Option (Int32 × (Nat → Nat → Int32) × (Nat → Nat → Int64)) := LO_X_doubles_4 fu fu 0 0 I L
set_option maxHeartbeats 20000000 in
set_option maxRecDepth 20000 in
theorem eo_X_doubles {d fu : Nat} {I : Nat → Nat → Int32} {L : Nat → Nat → Int64} {X : Nat × (Nat → Int32)} {Q : PQ} {res : Int32 × (Nat → Nat → Int32) × (Nat → Nat → Int64)}  (g : Q (some (.int res.1)) (HS res.2.1 res.2.2 X)) (q : FO_X_doubles fu  I L = some res) : Ev (d + 3) m_X_doubles [.ref 0] (HS I L X) Q := by
  unfold FO_X_doubles at q
  refine ev_start (d := d + 2) rfl rfl rfl (Nat.le_of_ble_eq_true rfl) ?_
  show Wp (Ev (d + 2)) cd_X_doubles (0, 0) (some .int) _ _ Q 0 [(0, .ref 0)] [] (HS I L X)
  refine w_iconst (Ev.cm _) rfl ?_
  refine w_istore_n (ls2 := [(0, .ref 0), (1, .int 0)]) (Ev.cm _) rfl rfl ?_
  refine w_iconst (Ev.cm _) rfl ?_
  refine w_istore_n (ls2 := [(0, .ref 0), (1, .int 0), (2, .int 0)]) (Ev.cm _) rfl rfl ?_
  show Wp _ _ _ _ _ _ _ 4 [(0, .ref 0), (1, .int 0), (2, .int 0)] [] (HS I L X)
  refine Wp.sub [0, 1, 2] (ls2 := [(0, .ref 0), (1, .int 0), (2, .int 0)]) rfl ?_
  exact lo_X_doubles_4 g fu _ _ _ _ q
def LO_X_pause_12 (fu : Nat) : Nat → Int32 → Int32 → (Nat → Nat → Int32) → (Nat → Nat → Int64) → Option (Int32 × (Nat → Nat → Int32) × (Nat → Nat → Int64))
  | 0, _, _, _, _ => none
  | n + 1, x2, x3, I, L => if I 2 4 ≤ x3 then (some (x2, I, L)) else (if 30 ≤ x3 then (some (x2, I, L)) else (if 0 ≤ x3 * 3 ∧ x3 * 3 < 90 then (if 0 ≤ (x3 - 1) * 3 ∧ (x3 - 1) * 3 < 90 then (LO_X_pause_12 fu n (F_J_max I x2 ((I 5 ((x3 * 3).toNatClampNeg)) - (I 5 (((x3 - 1) * 3).toNatClampNeg)))) (x3 + 1) I L) else none) else none))
set_option maxHeartbeats 20000000 in
set_option maxRecDepth 20000 in
theorem lo_X_pause_12 {d fu n0 s0 : Nat} {X : Nat × (Nat → Int32)} {Q : PQ} {res : Int32 × (Nat → Nat → Int32) × (Nat → Nat → Int64)}  (g : Q (some (.int res.1)) (HS res.2.1 res.2.2 X)) : ∀ (n : Nat) (x2 : Int32) (x3 : Int32) (I : Nat → Nat → Int32) (L : Nat → Nat → Int64), LO_X_pause_12 fu n x2 x3 I L = some res → Wp (Ev (d + 1)) cd_X_pause (0, 0) (some .int) n0 s0 Q 12 [(0, .ref 0), (1, .ref 2), (2, .int x2), (3, .int x3)] [] (HS I L X) := by
  intro n
  induction n with
  | zero => intro _ _ _ _ q; cases q
  | succ n ih =>
    intro x2 x3 I L q
    unfold LO_X_pause_12 at q
    refine w_iload_n (Ev.cm _) rfl rfl ?_
    refine w_aload_n (Ev.cm _) rfl rfl ?_
    refine w_getI (Ev.cm _) rfl (Nat.le_of_ble_eq_true rfl) rfl ?_
    refine w_icmp_ge (Ev.cm _) rfl (fun c1 => ?_) (fun c1 => ?_)
    · have c1 : I 2 4 ≤ x3 := c1
      rw [if_pos c1] at q
      refine w_iload_n (Ev.cm _) rfl rfl ?_
      refine w_ireturn (Ev.cm _) rfl trivial rf0 ?_
      cases q
      exact g
    · have c1 : ¬ (I 2 4 ≤ x3) := c1
      rw [if_neg c1] at q
      refine w_iload_n (Ev.cm _) rfl rfl ?_
      refine w_bipush (Ev.cm _) rfl ?_
      refine w_icmp_ge (Ev.cm _) rfl (fun c2 => ?_) (fun c2 => ?_)
      · have c2 : 30 ≤ x3 := c2
        rw [if_pos c2] at q
        refine w_iload_n (Ev.cm _) rfl rfl ?_
        refine w_ireturn (Ev.cm _) rfl trivial rf0 ?_
        cases q
        exact g
      · have c2 : ¬ (30 ≤ x3) := c2
        rw [if_neg c2] at q
        refine w_iload_n (Ev.cm _) rfl rfl ?_
        refine w_aload_n (Ev.cm _) rfl rfl ?_
        refine w_getR (q := 5) (Ev.cm _) rfl (Nat.le_of_ble_eq_true rfl) rfl rfl ?_
        refine w_iload_n (Ev.cm _) rfl rfl ?_
        refine w_iconst (Ev.cm _) rfl ?_
        refine w_imul (Ev.cm _) rfl ?_
        obtain ⟨b1, q⟩ := ois q
        refine w_iald (Ev.cm _) rfl (Nat.le_of_ble_eq_true rfl) rfl (show vp_in (x3 * 3) 90 from vpI 90 (by decide) b1.1 b1.2) ?_
        refine w_aload_n (Ev.cm _) rfl rfl ?_
        refine w_getR (q := 5) (Ev.cm _) rfl (Nat.le_of_ble_eq_true rfl) rfl rfl ?_
        refine w_iload_n (Ev.cm _) rfl rfl ?_
        refine w_iconst (Ev.cm _) rfl ?_
        refine w_isub (Ev.cm _) rfl ?_
        refine w_iconst (Ev.cm _) rfl ?_
        refine w_imul (Ev.cm _) rfl ?_
        obtain ⟨b2, q⟩ := ois q
        refine w_iald (Ev.cm _) rfl (Nat.le_of_ble_eq_true rfl) rfl (show vp_in ((x3 - 1) * 3) 90 from vpI 90 (by decide) b2.1 b2.2) ?_
        refine w_isub (Ev.cm _) rfl ?_
        refine w_cstat (as := [.int x2, .int ((I 5 ((x3 * 3).toNatClampNeg)) - (I 5 (((x3 - 1) * 3).toNatClampNeg)))]) (st := []) (Ev.cm _) rfl rfl rfl (Nat.le_of_ble_eq_true rfl) (Nat.le_of_ble_eq_true rfl) (e_J_max ?_)
        show Wp _ _ _ _ _ _ _ 49 [(0, .ref 0), (1, .ref 2), (2, .int x2), (3, .int x3)] [.int (F_J_max I x2 ((I 5 ((x3 * 3).toNatClampNeg)) - (I 5 (((x3 - 1) * 3).toNatClampNeg))))] (HS I L X)
        refine w_istore_n (ls2 := [(0, .ref 0), (1, .ref 2), (2, .int (F_J_max I x2 ((I 5 ((x3 * 3).toNatClampNeg)) - (I 5 (((x3 - 1) * 3).toNatClampNeg))))), (3, .int x3)]) (Ev.cm _) rfl rfl ?_
        refine w_iinc (ls2 := [(0, .ref 0), (1, .ref 2), (2, .int (F_J_max I x2 ((I 5 ((x3 * 3).toNatClampNeg)) - (I 5 (((x3 - 1) * 3).toNatClampNeg))))), (3, .int (x3 + 1))]) (Ev.cm _) rfl rfl rfl ?_
        refine w_goto (Ev.cm _) rfl ?_
        show Wp _ _ _ _ _ _ _ 12 [(0, .ref 0), (1, .ref 2), (2, .int (F_J_max I x2 ((I 5 ((x3 * 3).toNatClampNeg)) - (I 5 (((x3 - 1) * 3).toNatClampNeg))))), (3, .int (x3 + 1))] [] (HS I L X)
        refine Wp.sub [0, 1, 2, 3] (ls2 := [(0, .ref 0), (1, .ref 2), (2, .int (F_J_max I x2 ((I 5 ((x3 * 3).toNatClampNeg)) - (I 5 (((x3 - 1) * 3).toNatClampNeg))))), (3, .int (x3 + 1))]) rfl ?_
        exact ih _ _ _ _ q
def FO_X_pause (fu : Nat) (I : Nat → Nat → Int32) (L : Nat → Nat → Int64) : Option (Int32 × (Nat → Nat → Int32) × (Nat → Nat → Int64)) := LO_X_pause_12 fu fu (-1) 1 I L
set_option maxHeartbeats 20000000 in
set_option maxRecDepth 20000 in
theorem eo_X_pause {d fu : Nat} {I : Nat → Nat → Int32} {L : Nat → Nat → Int64} {X : Nat × (Nat → Int32)} {Q : PQ} {res : Int32 × (Nat → Nat → Int32) × (Nat → Nat → Int64)}  (g : Q (some (.int res.1)) (HS res.2.1 res.2.2 X)) (q : FO_X_pause fu  I L = some res) : Ev (d + 2) m_X_pause [.ref 0] (HS I L X) Q := by
  unfold FO_X_pause at q
  refine ev_start (d := d + 1) rfl rfl rfl (Nat.le_of_ble_eq_true rfl) ?_
  show Wp (Ev (d + 1)) cd_X_pause (0, 0) (some .int) _ _ Q 0 [(0, .ref 0)] [] (HS I L X)
  refine w_aload_n (Ev.cm _) rfl rfl ?_
  refine w_getR (q := 1) (Ev.cm _) rfl (Nat.le_of_ble_eq_true rfl) rfl rfl ?_
  refine w_getR (q := 2) (Ev.cm _) rfl (Nat.le_of_ble_eq_true rfl) rfl rfl ?_
  refine w_astore_n (ls2 := [(0, .ref 0), (1, .ref 2)]) (Ev.cm _) rfl trivial rfl ?_
  refine w_iconst (Ev.cm _) rfl ?_
  refine w_istore_n (ls2 := [(0, .ref 0), (1, .ref 2), (2, .int (-1))]) (Ev.cm _) rfl rfl ?_
  refine w_iconst (Ev.cm _) rfl ?_
  refine w_istore_n (ls2 := [(0, .ref 0), (1, .ref 2), (2, .int (-1)), (3, .int 1)]) (Ev.cm _) rfl rfl ?_
  show Wp _ _ _ _ _ _ _ 12 [(0, .ref 0), (1, .ref 2), (2, .int (-1)), (3, .int 1)] [] (HS I L X)
  refine Wp.sub [0, 1, 2, 3] (ls2 := [(0, .ref 0), (1, .ref 2), (2, .int (-1)), (3, .int 1)]) rfl ?_
  exact lo_X_pause_12 g fu _ _ _ _ q
def LO_X_ledger_28 (fu : Nat) : Nat → Int32 → Int32 → Int32 → (Nat → Nat → Int32) → (Nat → Nat → Int64) → Option (Int32 × (Nat → Nat → Int32) × (Nat → Nat → Int64))
  | 0, _, _, _, _, _ => none
  | n + 1, x1, x3, x4, I, L => if I 2 4 ≤ x4 then (some (x3, I, L)) else (if 30 ≤ x4 then (some (x3, I, L)) else (if x1 = (-1) then (if 0 ≤ (x4 * 3) + 2 ∧ (x4 * 3) + 2 < 90 then (LO_X_ledger_28 fu n x1 (x3 + (I 5 (((x4 * 3) + 2).toNatClampNeg))) (x4 + 1) I L) else none) else (if 0 ≤ (x4 * 3) + 1 ∧ (x4 * 3) + 1 < 90 then (if I 5 (((x4 * 3) + 1).toNatClampNeg) = x1 then (if 0 ≤ (x4 * 3) + 2 ∧ (x4 * 3) + 2 < 90 then (LO_X_ledger_28 fu n x1 (x3 + (I 5 (((x4 * 3) + 2).toNatClampNeg))) (x4 + 1) I L) else none) else (LO_X_ledger_28 fu n x1 x3 (x4 + 1) I L)) else none)))
set_option maxHeartbeats 20000000 in
set_option maxRecDepth 20000 in
theorem lo_X_ledger_28 {d fu n0 s0 : Nat} {X : Nat × (Nat → Int32)} {Q : PQ} {res : Int32 × (Nat → Nat → Int32) × (Nat → Nat → Int64)}  (g : Q (some (.int res.1)) (HS res.2.1 res.2.2 X)) : ∀ (n : Nat) (x1 : Int32) (x3 : Int32) (x4 : Int32) (I : Nat → Nat → Int32) (L : Nat → Nat → Int64), LO_X_ledger_28 fu n x1 x3 x4 I L = some res → Wp (Ev (d + 2)) cd_X_ledger (0, 0) (some .int) n0 s0 Q 28 [(0, .ref 0), (1, .int x1), (2, .ref 2), (3, .int x3), (4, .int x4)] [] (HS I L X) := by
  intro n
  induction n with
  | zero => intro _ _ _ _ _ q; cases q
  | succ n ih =>
    intro x1 x3 x4 I L q
    unfold LO_X_ledger_28 at q
    refine w_iload (Ev.cm _) rfl rfl ?_
    refine w_aload_n (Ev.cm _) rfl rfl ?_
    refine w_getI (Ev.cm _) rfl (Nat.le_of_ble_eq_true rfl) rfl ?_
    refine w_icmp_ge (Ev.cm _) rfl (fun c1 => ?_) (fun c1 => ?_)
    · have c1 : I 2 4 ≤ x4 := c1
      rw [if_pos c1] at q
      refine w_iload_n (Ev.cm _) rfl rfl ?_
      refine w_ireturn (Ev.cm _) rfl trivial rf0 ?_
      cases q
      exact g
    · have c1 : ¬ (I 2 4 ≤ x4) := c1
      rw [if_neg c1] at q
      refine w_iload (Ev.cm _) rfl rfl ?_
      refine w_bipush (Ev.cm _) rfl ?_
      refine w_icmp_ge (Ev.cm _) rfl (fun c2 => ?_) (fun c2 => ?_)
      · have c2 : 30 ≤ x4 := c2
        rw [if_pos c2] at q
        refine w_iload_n (Ev.cm _) rfl rfl ?_
        refine w_ireturn (Ev.cm _) rfl trivial rf0 ?_
        cases q
        exact g
      · have c2 : ¬ (30 ≤ x4) := c2
        rw [if_neg c2] at q
        refine w_iload_n (Ev.cm _) rfl rfl ?_
        refine w_iconst (Ev.cm _) rfl ?_
        refine w_icmp_eq (Ev.cm _) rfl (fun c3 => ?_) (fun c3 => ?_)
        · have c3 : x1 = (-1) := c3
          rw [if_pos c3] at q
          refine w_iload_n (Ev.cm _) rfl rfl ?_
          refine w_aload_n (Ev.cm _) rfl rfl ?_
          refine w_getR (q := 5) (Ev.cm _) rfl (Nat.le_of_ble_eq_true rfl) rfl rfl ?_
          refine w_iload (Ev.cm _) rfl rfl ?_
          refine w_iconst (Ev.cm _) rfl ?_
          refine w_imul (Ev.cm _) rfl ?_
          refine w_iconst (Ev.cm _) rfl ?_
          refine w_iadd (Ev.cm _) rfl ?_
          obtain ⟨b1, q⟩ := ois q
          refine w_iald (Ev.cm _) rfl (Nat.le_of_ble_eq_true rfl) rfl (show vp_in ((x4 * 3) + 2) 90 from vpI 90 (by decide) b1.1 b1.2) ?_
          refine w_iadd (Ev.cm _) rfl ?_
          refine w_istore_n (ls2 := [(0, .ref 0), (1, .int x1), (2, .ref 2), (3, .int (x3 + (I 5 (((x4 * 3) + 2).toNatClampNeg)))), (4, .int x4)]) (Ev.cm _) rfl rfl ?_
          refine w_iinc (ls2 := [(0, .ref 0), (1, .int x1), (2, .ref 2), (3, .int (x3 + (I 5 (((x4 * 3) + 2).toNatClampNeg)))), (4, .int (x4 + 1))]) (Ev.cm _) rfl rfl rfl ?_
          refine w_goto (Ev.cm _) rfl ?_
          show Wp _ _ _ _ _ _ _ 28 [(0, .ref 0), (1, .int x1), (2, .ref 2), (3, .int (x3 + (I 5 (((x4 * 3) + 2).toNatClampNeg)))), (4, .int (x4 + 1))] [] (HS I L X)
          refine Wp.sub [0, 1, 2, 3, 4] (ls2 := [(0, .ref 0), (1, .int x1), (2, .ref 2), (3, .int (x3 + (I 5 (((x4 * 3) + 2).toNatClampNeg)))), (4, .int (x4 + 1))]) rfl ?_
          exact ih _ _ _ _ _ q
        · have c3 : ¬ (x1 = (-1)) := c3
          rw [if_neg c3] at q
          refine w_aload_n (Ev.cm _) rfl rfl ?_
          refine w_getR (q := 5) (Ev.cm _) rfl (Nat.le_of_ble_eq_true rfl) rfl rfl ?_
          refine w_iload (Ev.cm _) rfl rfl ?_
          refine w_iconst (Ev.cm _) rfl ?_
          refine w_imul (Ev.cm _) rfl ?_
          refine w_iconst (Ev.cm _) rfl ?_
          refine w_iadd (Ev.cm _) rfl ?_
          obtain ⟨b2, q⟩ := ois q
          refine w_iald (Ev.cm _) rfl (Nat.le_of_ble_eq_true rfl) rfl (show vp_in ((x4 * 3) + 1) 90 from vpI 90 (by decide) b2.1 b2.2) ?_
          refine w_iload_n (Ev.cm _) rfl rfl ?_
          refine w_icmp_ne (Ev.cm _) rfl (fun c4 => ?_) (fun c4 => ?_)
          · have c4 : ¬ (I 5 (((x4 * 3) + 1).toNatClampNeg) = x1) := c4
            rw [if_neg c4] at q
            refine w_iinc (ls2 := [(0, .ref 0), (1, .int x1), (2, .ref 2), (3, .int x3), (4, .int (x4 + 1))]) (Ev.cm _) rfl rfl rfl ?_
            refine w_goto (Ev.cm _) rfl ?_
            show Wp _ _ _ _ _ _ _ 28 [(0, .ref 0), (1, .int x1), (2, .ref 2), (3, .int x3), (4, .int (x4 + 1))] [] (HS I L X)
            refine Wp.sub [0, 1, 2, 3, 4] (ls2 := [(0, .ref 0), (1, .int x1), (2, .ref 2), (3, .int x3), (4, .int (x4 + 1))]) rfl ?_
            exact ih _ _ _ _ _ q
          · have c4 : I 5 (((x4 * 3) + 1).toNatClampNeg) = x1 := c4
            rw [if_pos c4] at q
            refine w_iload_n (Ev.cm _) rfl rfl ?_
            refine w_aload_n (Ev.cm _) rfl rfl ?_
            refine w_getR (q := 5) (Ev.cm _) rfl (Nat.le_of_ble_eq_true rfl) rfl rfl ?_
            refine w_iload (Ev.cm _) rfl rfl ?_
            refine w_iconst (Ev.cm _) rfl ?_
            refine w_imul (Ev.cm _) rfl ?_
            refine w_iconst (Ev.cm _) rfl ?_
            refine w_iadd (Ev.cm _) rfl ?_
            obtain ⟨b3, q⟩ := ois q
            refine w_iald (Ev.cm _) rfl (Nat.le_of_ble_eq_true rfl) rfl (show vp_in ((x4 * 3) + 2) 90 from vpI 90 (by decide) b3.1 b3.2) ?_
            refine w_iadd (Ev.cm _) rfl ?_
            refine w_istore_n (ls2 := [(0, .ref 0), (1, .int x1), (2, .ref 2), (3, .int (x3 + (I 5 (((x4 * 3) + 2).toNatClampNeg)))), (4, .int x4)]) (Ev.cm _) rfl rfl ?_
            refine w_iinc (ls2 := [(0, .ref 0), (1, .int x1), (2, .ref 2), (3, .int (x3 + (I 5 (((x4 * 3) + 2).toNatClampNeg)))), (4, .int (x4 + 1))]) (Ev.cm _) rfl rfl rfl ?_
            refine w_goto (Ev.cm _) rfl ?_
            show Wp _ _ _ _ _ _ _ 28 [(0, .ref 0), (1, .int x1), (2, .ref 2), (3, .int (x3 + (I 5 (((x4 * 3) + 2).toNatClampNeg)))), (4, .int (x4 + 1))] [] (HS I L X)
            refine Wp.sub [0, 1, 2, 3, 4] (ls2 := [(0, .ref 0), (1, .int x1), (2, .ref 2), (3, .int (x3 + (I 5 (((x4 * 3) + 2).toNatClampNeg)))), (4, .int (x4 + 1))]) rfl ?_
            exact ih _ _ _ _ _ q
def FO_X_ledger (fu : Nat) (p0 : Int32) (I : Nat → Nat → Int32) (L : Nat → Nat → Int64) : Option (Int32 × (Nat → Nat → Int32) × (Nat → Nat → Int64)) := if p0 = (-1) then (LO_X_ledger_28 fu fu p0 0 0 I L) else (if 1 ≤ p0 ∧ p0 ≤ 12 then (LO_X_ledger_28 fu fu p0 0 0 I L) else (some ((-2), I, L)))
set_option maxHeartbeats 20000000 in
set_option maxRecDepth 20000 in
theorem eo_X_ledger {d fu : Nat} {p0 : Int32} {I : Nat → Nat → Int32} {L : Nat → Nat → Int64} {X : Nat × (Nat → Int32)} {Q : PQ} {res : Int32 × (Nat → Nat → Int32) × (Nat → Nat → Int64)}  (g : Q (some (.int res.1)) (HS res.2.1 res.2.2 X)) (q : FO_X_ledger fu p0 I L = some res) : Ev (d + 3) m_X_ledger [.ref 0, .int p0] (HS I L X) Q := by
  unfold FO_X_ledger at q
  refine ev_start (d := d + 2) rfl rfl rfl (Nat.le_of_ble_eq_true rfl) ?_
  show Wp (Ev (d + 2)) cd_X_ledger (0, 0) (some .int) _ _ Q 0 [(0, .ref 0), (1, .int p0)] [] (HS I L X)
  refine w_iload_n (Ev.cm _) rfl rfl ?_
  refine w_iconst (Ev.cm _) rfl ?_
  refine w_icmp_eq (Ev.cm _) rfl (fun c1 => ?_) (fun c1 => ?_)
  · have c1 : p0 = (-1) := c1
    rw [if_pos c1] at q
    refine w_aload_n (Ev.cm _) rfl rfl ?_
    refine w_getR (q := 1) (Ev.cm _) rfl (Nat.le_of_ble_eq_true rfl) rfl rfl ?_
    refine w_getR (q := 2) (Ev.cm _) rfl (Nat.le_of_ble_eq_true rfl) rfl rfl ?_
    refine w_astore_n (ls2 := [(0, .ref 0), (1, .int p0), (2, .ref 2)]) (Ev.cm _) rfl trivial rfl ?_
    refine w_iconst (Ev.cm _) rfl ?_
    refine w_istore_n (ls2 := [(0, .ref 0), (1, .int p0), (2, .ref 2), (3, .int 0)]) (Ev.cm _) rfl rfl ?_
    refine w_iconst (Ev.cm _) rfl ?_
    refine w_istore (ls2 := [(0, .ref 0), (1, .int p0), (2, .ref 2), (3, .int 0), (4, .int 0)]) (Ev.cm _) rfl rfl ?_
    show Wp _ _ _ _ _ _ _ 28 [(0, .ref 0), (1, .int p0), (2, .ref 2), (3, .int 0), (4, .int 0)] [] (HS I L X)
    refine Wp.sub [0, 1, 2, 3, 4] (ls2 := [(0, .ref 0), (1, .int p0), (2, .ref 2), (3, .int 0), (4, .int 0)]) rfl ?_
    exact lo_X_ledger_28 g fu _ _ _ _ _ q
  · have c1 : ¬ (p0 = (-1)) := c1
    rw [if_neg c1] at q
    refine w_iload_n (Ev.cm _) rfl rfl ?_
    refine w_cstat (as := [.int p0]) (st := []) (Ev.cm _) rfl rfl rfl (Nat.le_of_ble_eq_true rfl) (Nat.le_of_ble_eq_true rfl) (x_isStair ?_)
    show Wp _ _ _ _ _ _ _ 9 [(0, .ref 0), (1, .int p0)] [.int (bI (1 ≤ p0 ∧ p0 ≤ 12))] (HS I L X)
    refine w_if_ne (Ev.cm _) rfl (fun c2 => ?_) (fun c2 => ?_)
    · have c2 : 1 ≤ p0 ∧ p0 ≤ 12 := bI_1.mp c2
      rw [if_pos c2] at q
      refine w_aload_n (Ev.cm _) rfl rfl ?_
      refine w_getR (q := 1) (Ev.cm _) rfl (Nat.le_of_ble_eq_true rfl) rfl rfl ?_
      refine w_getR (q := 2) (Ev.cm _) rfl (Nat.le_of_ble_eq_true rfl) rfl rfl ?_
      refine w_astore_n (ls2 := [(0, .ref 0), (1, .int p0), (2, .ref 2)]) (Ev.cm _) rfl trivial rfl ?_
      refine w_iconst (Ev.cm _) rfl ?_
      refine w_istore_n (ls2 := [(0, .ref 0), (1, .int p0), (2, .ref 2), (3, .int 0)]) (Ev.cm _) rfl rfl ?_
      refine w_iconst (Ev.cm _) rfl ?_
      refine w_istore (ls2 := [(0, .ref 0), (1, .int p0), (2, .ref 2), (3, .int 0), (4, .int 0)]) (Ev.cm _) rfl rfl ?_
      show Wp _ _ _ _ _ _ _ 28 [(0, .ref 0), (1, .int p0), (2, .ref 2), (3, .int 0), (4, .int 0)] [] (HS I L X)
      refine Wp.sub [0, 1, 2, 3, 4] (ls2 := [(0, .ref 0), (1, .int p0), (2, .ref 2), (3, .int 0), (4, .int 0)]) rfl ?_
      exact lo_X_ledger_28 g fu _ _ _ _ _ q
    · have c2 : ¬ (1 ≤ p0 ∧ p0 ≤ 12) := bI_0.mp c2
      rw [if_neg c2] at q
      refine w_bipush (Ev.cm _) rfl ?_
      refine w_ireturn (Ev.cm _) rfl trivial rf0 ?_
      cases q
      exact g
def FO_X_isWayUp (fu : Nat) (p0 : Int32) (p1 : Int32) (I : Nat → Nat → Int32) (L : Nat → Nat → Int64) : Option (Int32 × (Nat → Nat → Int32) × (Nat → Nat → Int64)) := if 0 ≤ p0 ∧ p0 ≤ 12 then (if 0 ≤ p1 ∧ p1 ≤ 12 then (if p1 < p0 then (some (0, I, L)) else (some (1, I, L))) else (some (0, I, L))) else (some (0, I, L))
set_option maxHeartbeats 20000000 in
set_option maxRecDepth 20000 in
theorem eo_X_isWayUp {d fu : Nat} {p0 : Int32} {p1 : Int32} {I : Nat → Nat → Int32} {L : Nat → Nat → Int64} {X : Nat × (Nat → Int32)} {Q : PQ} {res : Int32 × (Nat → Nat → Int32) × (Nat → Nat → Int64)}  (g : Q (some (.int res.1)) (HS res.2.1 res.2.2 X)) (q : FO_X_isWayUp fu p0 p1 I L = some res) : Ev (d + 3) m_X_isWayUp [.int p0, .int p1] (HS I L X) Q := by
  unfold FO_X_isWayUp at q
  refine ev_start (d := d + 2) rfl rfl rfl (Nat.le_of_ble_eq_true rfl) ?_
  show Wp (Ev (d + 2)) cd_X_isWayUp (0, 0) (some .boolean) _ _ Q 0 [(0, .int p0), (1, .int p1)] [] (HS I L X)
  refine w_iload_n (Ev.cm _) rfl rfl ?_
  refine w_cstat (as := [.int p0]) (st := []) (Ev.cm _) rfl rfl rfl (Nat.le_of_ble_eq_true rfl) (Nat.le_of_ble_eq_true rfl) (x_isPlace ?_)
  show Wp _ _ _ _ _ _ _ 4 [(0, .int p0), (1, .int p1)] [.int (bI (0 ≤ p0 ∧ p0 ≤ 12))] (HS I L X)
  refine w_if_eq (Ev.cm _) rfl (fun c1 => ?_) (fun c1 => ?_)
  · have c1 : ¬ (0 ≤ p0 ∧ p0 ≤ 12) := bI_0.mp c1
    rw [if_neg c1] at q
    refine w_iconst (Ev.cm _) rfl ?_
    refine w_ireturn (Ev.cm _) rfl (by first | exact rok_0 | exact rok_1 | exact rok_b) rf0 ?_
    cases q
    exact g
  · have c1 : 0 ≤ p0 ∧ p0 ≤ 12 := bI_1.mp c1
    rw [if_pos c1] at q
    refine w_iload_n (Ev.cm _) rfl rfl ?_
    refine w_cstat (as := [.int p1]) (st := []) (Ev.cm _) rfl rfl rfl (Nat.le_of_ble_eq_true rfl) (Nat.le_of_ble_eq_true rfl) (x_isPlace ?_)
    show Wp _ _ _ _ _ _ _ 11 [(0, .int p0), (1, .int p1)] [.int (bI (0 ≤ p1 ∧ p1 ≤ 12))] (HS I L X)
    refine w_if_eq (Ev.cm _) rfl (fun c2 => ?_) (fun c2 => ?_)
    · have c2 : ¬ (0 ≤ p1 ∧ p1 ≤ 12) := bI_0.mp c2
      rw [if_neg c2] at q
      refine w_iconst (Ev.cm _) rfl ?_
      refine w_ireturn (Ev.cm _) rfl (by first | exact rok_0 | exact rok_1 | exact rok_b) rf0 ?_
      cases q
      exact g
    · have c2 : 0 ≤ p1 ∧ p1 ≤ 12 := bI_1.mp c2
      rw [if_pos c2] at q
      refine w_iload_n (Ev.cm _) rfl rfl ?_
      refine w_iload_n (Ev.cm _) rfl rfl ?_
      refine w_icmp_gt (Ev.cm _) rfl (fun c3 => ?_) (fun c3 => ?_)
      · have c3 : p1 < p0 := c3
        rw [if_pos c3] at q
        refine w_iconst (Ev.cm _) rfl ?_
        refine w_ireturn (Ev.cm _) rfl (by first | exact rok_0 | exact rok_1 | exact rok_b) rf0 ?_
        cases q
        exact g
      · have c3 : ¬ (p1 < p0) := c3
        rw [if_neg c3] at q
        refine w_iconst (Ev.cm _) rfl ?_
        refine w_goto (Ev.cm _) rfl ?_
        refine w_ireturn (Ev.cm _) rfl (by first | exact rok_0 | exact rok_1 | exact rok_b) rf0 ?_
        cases q
        exact g
def FO_X_hasCup (fu : Nat) (p0 : Int32) (I : Nat → Nat → Int32) (L : Nat → Nat → Int64) : Option (Int32 × (Nat → Nat → Int32) × (Nat → Nat → Int64)) := if 1 ≤ p0 ∧ p0 ≤ 12 then (if ((I 2 3) >>> (p0 &&& 31)) &&& 1 = 1 then (some (1, I, L)) else (some (0, I, L))) else (some (0, I, L))
set_option maxHeartbeats 20000000 in
set_option maxRecDepth 20000 in
theorem eo_X_hasCup {d fu : Nat} {p0 : Int32} {I : Nat → Nat → Int32} {L : Nat → Nat → Int64} {X : Nat × (Nat → Int32)} {Q : PQ} {res : Int32 × (Nat → Nat → Int32) × (Nat → Nat → Int64)}  (g : Q (some (.int res.1)) (HS res.2.1 res.2.2 X)) (q : FO_X_hasCup fu p0 I L = some res) : Ev (d + 3) m_X_hasCup [.ref 0, .int p0] (HS I L X) Q := by
  unfold FO_X_hasCup at q
  refine ev_start (d := d + 2) rfl rfl rfl (Nat.le_of_ble_eq_true rfl) ?_
  show Wp (Ev (d + 2)) cd_X_hasCup (0, 0) (some .boolean) _ _ Q 0 [(0, .ref 0), (1, .int p0)] [] (HS I L X)
  refine w_iload_n (Ev.cm _) rfl rfl ?_
  refine w_cstat (as := [.int p0]) (st := []) (Ev.cm _) rfl rfl rfl (Nat.le_of_ble_eq_true rfl) (Nat.le_of_ble_eq_true rfl) (x_isStair ?_)
  show Wp _ _ _ _ _ _ _ 4 [(0, .ref 0), (1, .int p0)] [.int (bI (1 ≤ p0 ∧ p0 ≤ 12))] (HS I L X)
  refine w_if_eq (Ev.cm _) rfl (fun c1 => ?_) (fun c1 => ?_)
  · have c1 : ¬ (1 ≤ p0 ∧ p0 ≤ 12) := bI_0.mp c1
    rw [if_neg c1] at q
    refine w_iconst (Ev.cm _) rfl ?_
    refine w_ireturn (Ev.cm _) rfl (by first | exact rok_0 | exact rok_1 | exact rok_b) rf0 ?_
    cases q
    exact g
  · have c1 : 1 ≤ p0 ∧ p0 ≤ 12 := bI_1.mp c1
    rw [if_pos c1] at q
    refine w_aload_n (Ev.cm _) rfl rfl ?_
    refine w_getR (q := 1) (Ev.cm _) rfl (Nat.le_of_ble_eq_true rfl) rfl rfl ?_
    refine w_getR (q := 2) (Ev.cm _) rfl (Nat.le_of_ble_eq_true rfl) rfl rfl ?_
    refine w_getI (Ev.cm _) rfl (Nat.le_of_ble_eq_true rfl) rfl ?_
    refine w_iload_n (Ev.cm _) rfl rfl ?_
    refine w_ishr (Ev.cm _) rfl ?_
    refine w_iconst (Ev.cm _) rfl ?_
    refine w_iand (Ev.cm _) rfl ?_
    refine w_iconst (Ev.cm _) rfl ?_
    refine w_icmp_ne (Ev.cm _) rfl (fun c2 => ?_) (fun c2 => ?_)
    · have c2 : ¬ (((I 2 3) >>> (p0 &&& 31)) &&& 1 = 1) := c2
      rw [if_neg c2] at q
      refine w_iconst (Ev.cm _) rfl ?_
      refine w_ireturn (Ev.cm _) rfl (by first | exact rok_0 | exact rok_1 | exact rok_b) rf0 ?_
      cases q
      exact g
    · have c2 : ((I 2 3) >>> (p0 &&& 31)) &&& 1 = 1 := c2
      rw [if_pos c2] at q
      refine w_iconst (Ev.cm _) rfl ?_
      refine w_goto (Ev.cm _) rfl ?_
      refine w_ireturn (Ev.cm _) rfl (by first | exact rok_0 | exact rok_1 | exact rok_b) rf0 ?_
      cases q
      exact g
def LO_X_putFour_3 (fu : Nat) : Nat → Int32 → Int32 → (Nat → Nat → Int32) → (Nat → Nat → Int64) → Option (Unit × (Nat → Nat → Int32) × (Nat → Nat → Int64))
  | 0, _, _, _, _ => none
  | n + 1, x1, x2, I, L => if x2 < 0 then (some ((), I, L)) else (if (0 : Int32) ≤ (I 0 4) ∧ (I 0 4) ≤ (299 : Int32) then (if 0 ≤ I 0 4 ∧ I 0 4 < 300 then (LO_X_putFour_3 fu n x1 (x2 + (-8)) (sI (sI I 306 ((I 0 4).toNatClampNeg) ((x1 >>> (x2 &&& 31)) &&& 255)) 0 4 ((I 0 4) + 1)) L) else none) else (LO_X_putFour_3 fu n x1 (x2 + (-8)) I L))
set_option maxHeartbeats 20000000 in
set_option maxRecDepth 20000 in
theorem lo_X_putFour_3 {d fu n0 s0 : Nat} {X : Nat × (Nat → Int32)} {Q : PQ} {res : Unit × (Nat → Nat → Int32) × (Nat → Nat → Int64)}  (g : Q none (HS res.2.1 res.2.2 X)) : ∀ (n : Nat) (x1 : Int32) (x2 : Int32) (I : Nat → Nat → Int32) (L : Nat → Nat → Int64), LO_X_putFour_3 fu n x1 x2 I L = some res → Wp (Ev (d + 1)) cd_X_putFour (0, 0) none n0 s0 Q 3 [(0, .ref 0), (1, .int x1), (2, .int x2)] [] (HS I L X) := by
  intro n
  induction n with
  | zero => intro _ _ _ _ q; cases q
  | succ n ih =>
    intro x1 x2 I L q
    unfold LO_X_putFour_3 at q
    refine w_iload_n (Ev.cm _) rfl rfl ?_
    refine w_if_lt (Ev.cm _) rfl (fun c1 => ?_) (fun c1 => ?_)
    · have c1 : x2 < 0 := c1
      rw [if_pos c1] at q
      refine w_return (Ev.cm _) rfl rfl rf0 ?_
      cases q
      exact g
    · have c1 : ¬ (x2 < 0) := c1
      rw [if_neg c1] at q
      refine w_aload_n (Ev.cm _) rfl rfl ?_
      refine w_getI (Ev.cm _) rfl (Nat.le_of_ble_eq_true rfl) rfl ?_
      refine w_iconst (Ev.cm _) rfl ?_
      refine w_sipush (Ev.cm _) rfl ?_
      refine w_cstat (as := [.int (I 0 4), .int 0, .int 299]) (st := []) (Ev.cm _) rfl rfl rfl (Nat.le_of_ble_eq_true rfl) (Nat.le_of_ble_eq_true rfl) (x_within ?_)
      show Wp _ _ _ _ _ _ _ 18 [(0, .ref 0), (1, .int x1), (2, .int x2)] [.int (bI ((0 : Int32) ≤ (I 0 4) ∧ (I 0 4) ≤ (299 : Int32)))] (HS I L X)
      refine w_if_eq (Ev.cm _) rfl (fun c2 => ?_) (fun c2 => ?_)
      · have c2 : ¬ ((0 : Int32) ≤ (I 0 4) ∧ (I 0 4) ≤ (299 : Int32)) := bI_0.mp c2
        rw [if_neg c2] at q
        refine w_iinc (ls2 := [(0, .ref 0), (1, .int x1), (2, .int (x2 + (-8)))]) (Ev.cm _) rfl rfl rfl ?_
        refine w_goto (Ev.cm _) rfl ?_
        show Wp _ _ _ _ _ _ _ 3 [(0, .ref 0), (1, .int x1), (2, .int (x2 + (-8)))] [] (HS I L X)
        refine Wp.sub [0, 1, 2] (ls2 := [(0, .ref 0), (1, .int x1), (2, .int (x2 + (-8)))]) rfl ?_
        exact ih _ _ _ _ q
      · have c2 : (0 : Int32) ≤ (I 0 4) ∧ (I 0 4) ≤ (299 : Int32) := bI_1.mp c2
        rw [if_pos c2] at q
        refine w_aload_n (Ev.cm _) rfl rfl ?_
        refine w_getR (q := 306) (Ev.cm _) rfl (Nat.le_of_ble_eq_true rfl) rfl rfl ?_
        refine w_aload_n (Ev.cm _) rfl rfl ?_
        refine w_getI (Ev.cm _) rfl (Nat.le_of_ble_eq_true rfl) rfl ?_
        refine w_iload_n (Ev.cm _) rfl rfl ?_
        refine w_iload_n (Ev.cm _) rfl rfl ?_
        refine w_ishr (Ev.cm _) rfl ?_
        refine w_sipush (Ev.cm _) rfl ?_
        refine w_iand (Ev.cm _) rfl ?_
        obtain ⟨b1, q⟩ := ois q
        refine w_iast (Ev.cm _) rfl (Nat.le_of_ble_eq_true rfl) rfl (show vp_in (I 0 4) 300 from vpI 300 (by decide) b1.1 b1.2) ?_
        refine w_aload_n (Ev.cm _) rfl rfl ?_
        refine w_dup (Ev.cm _) rfl rfl ?_
        refine w_getI (Ev.cm _) rfl (Nat.le_of_ble_eq_true rfl) rfl ?_
        refine w_iconst (Ev.cm _) rfl ?_
        refine w_iadd (Ev.cm _) rfl ?_
        refine w_putI (Ev.cm _) rfl (Nat.le_of_ble_eq_true rfl) rfl ?_
        refine w_iinc (ls2 := [(0, .ref 0), (1, .int x1), (2, .int (x2 + (-8)))]) (Ev.cm _) rfl rfl rfl ?_
        refine w_goto (Ev.cm _) rfl ?_
        show Wp _ _ _ _ _ _ _ 3 [(0, .ref 0), (1, .int x1), (2, .int (x2 + (-8)))] [] (HS (sI (sI I 306 ((I 0 4).toNatClampNeg) ((x1 >>> (x2 &&& 31)) &&& 255)) 0 4 ((I 0 4) + 1)) L X)
        refine Wp.sub [0, 1, 2] (ls2 := [(0, .ref 0), (1, .int x1), (2, .int (x2 + (-8)))]) rfl ?_
        exact ih _ _ _ _ q
def FO_X_putFour (fu : Nat) (p0 : Int32) (I : Nat → Nat → Int32) (L : Nat → Nat → Int64) : Option (Unit × (Nat → Nat → Int32) × (Nat → Nat → Int64)) := LO_X_putFour_3 fu fu p0 24 I L
set_option maxHeartbeats 20000000 in
set_option maxRecDepth 20000 in
theorem eo_X_putFour {d fu : Nat} {p0 : Int32} {I : Nat → Nat → Int32} {L : Nat → Nat → Int64} {X : Nat × (Nat → Int32)} {Q : PQ} {res : Unit × (Nat → Nat → Int32) × (Nat → Nat → Int64)}  (g : Q none (HS res.2.1 res.2.2 X)) (q : FO_X_putFour fu p0 I L = some res) : Ev (d + 2) m_X_putFour [.ref 0, .int p0] (HS I L X) Q := by
  unfold FO_X_putFour at q
  refine ev_start (d := d + 1) rfl rfl rfl (Nat.le_of_ble_eq_true rfl) ?_
  show Wp (Ev (d + 1)) cd_X_putFour (0, 0) none _ _ Q 0 [(0, .ref 0), (1, .int p0)] [] (HS I L X)
  refine w_bipush (Ev.cm _) rfl ?_
  refine w_istore_n (ls2 := [(0, .ref 0), (1, .int p0), (2, .int 24)]) (Ev.cm _) rfl rfl ?_
  show Wp _ _ _ _ _ _ _ 3 [(0, .ref 0), (1, .int p0), (2, .int 24)] [] (HS I L X)
  refine Wp.sub [0, 1, 2] (ls2 := [(0, .ref 0), (1, .int p0), (2, .int 24)]) rfl ?_
  exact lo_X_putFour_3 g fu _ _ _ _ q
def FO_X_moveIn (fu : Nat) (p0 : Int32) (p1 : Int32) (I : Nat → Nat → Int32) (L : Nat → Nat → Int64) : Option (Int32 × (Nat → Nat → Int32) × (Nat → Nat → Int64)) := if (0 : Int32) ≤ (I 1 2) ∧ (I 1 2) ≤ (5 : Int32) then (if 0 ≤ I 1 2 ∧ I 1 2 < 6 then (if 0 ≤ I 1 2 ∧ I 1 2 < 6 then (some (I 1 2, sI (sI (sI I 128 ((I 1 2).toNatClampNeg) p0) 129 ((I 1 2).toNatClampNeg) p1) 1 2 ((I 1 2) + 1), L)) else none) else none) else (some ((-1), I, L))
set_option maxHeartbeats 20000000 in
set_option maxRecDepth 20000 in
theorem eo_X_moveIn {d fu : Nat} {p0 : Int32} {p1 : Int32} {I : Nat → Nat → Int32} {L : Nat → Nat → Int64} {X : Nat × (Nat → Int32)} {Q : PQ} {res : Int32 × (Nat → Nat → Int32) × (Nat → Nat → Int64)}  (g : Q (some (.int res.1)) (HS res.2.1 res.2.2 X)) (q : FO_X_moveIn fu p0 p1 I L = some res) : Ev (d + 2) m_X_moveIn [.ref 0, .int p0, .int p1] (HS I L X) Q := by
  unfold FO_X_moveIn at q
  refine ev_start (d := d + 1) rfl rfl rfl (Nat.le_of_ble_eq_true rfl) ?_
  show Wp (Ev (d + 1)) cd_X_moveIn (0, 0) (some .int) _ _ Q 0 [(0, .ref 0), (1, .int p0), (2, .int p1)] [] (HS I L X)
  refine w_aload_n (Ev.cm _) rfl rfl ?_
  refine w_getR (q := 1) (Ev.cm _) rfl (Nat.le_of_ble_eq_true rfl) rfl rfl ?_
  refine w_getI (Ev.cm _) rfl (Nat.le_of_ble_eq_true rfl) rfl ?_
  refine w_istore_n (ls2 := [(0, .ref 0), (1, .int p0), (2, .int p1), (3, .int (I 1 2))]) (Ev.cm _) rfl rfl ?_
  refine w_iload_n (Ev.cm _) rfl rfl ?_
  refine w_iconst (Ev.cm _) rfl ?_
  refine w_iconst (Ev.cm _) rfl ?_
  refine w_cstat (as := [.int (I 1 2), .int 0, .int 5]) (st := []) (Ev.cm _) rfl rfl rfl (Nat.le_of_ble_eq_true rfl) (Nat.le_of_ble_eq_true rfl) (x_within ?_)
  show Wp _ _ _ _ _ _ _ 14 [(0, .ref 0), (1, .int p0), (2, .int p1), (3, .int (I 1 2))] [.int (bI ((0 : Int32) ≤ (I 1 2) ∧ (I 1 2) ≤ (5 : Int32)))] (HS I L X)
  refine w_if_ne (Ev.cm _) rfl (fun c1 => ?_) (fun c1 => ?_)
  · have c1 : (0 : Int32) ≤ (I 1 2) ∧ (I 1 2) ≤ (5 : Int32) := bI_1.mp c1
    rw [if_pos c1] at q
    refine w_aload_n (Ev.cm _) rfl rfl ?_
    refine w_getR (q := 1) (Ev.cm _) rfl (Nat.le_of_ble_eq_true rfl) rfl rfl ?_
    refine w_getR (q := 128) (Ev.cm _) rfl (Nat.le_of_ble_eq_true rfl) rfl rfl ?_
    refine w_iload_n (Ev.cm _) rfl rfl ?_
    refine w_iload_n (Ev.cm _) rfl rfl ?_
    obtain ⟨b1, q⟩ := ois q
    refine w_iast (Ev.cm _) rfl (Nat.le_of_ble_eq_true rfl) rfl (show vp_in (I 1 2) 6 from vpI 6 (by decide) b1.1 b1.2) ?_
    refine w_aload_n (Ev.cm _) rfl rfl ?_
    refine w_getR (q := 1) (Ev.cm _) rfl (Nat.le_of_ble_eq_true rfl) rfl rfl ?_
    refine w_getR (q := 129) (Ev.cm _) rfl (Nat.le_of_ble_eq_true rfl) rfl rfl ?_
    refine w_iload_n (Ev.cm _) rfl rfl ?_
    refine w_iload_n (Ev.cm _) rfl rfl ?_
    obtain ⟨b2, q⟩ := ois q
    refine w_iast (Ev.cm _) rfl (Nat.le_of_ble_eq_true rfl) rfl (show vp_in (I 1 2) 6 from vpI 6 (by decide) b2.1 b2.2) ?_
    refine w_aload_n (Ev.cm _) rfl rfl ?_
    refine w_getR (q := 1) (Ev.cm _) rfl (Nat.le_of_ble_eq_true rfl) rfl rfl ?_
    refine w_dup (Ev.cm _) rfl rfl ?_
    refine w_getI (Ev.cm _) rfl (Nat.le_of_ble_eq_true rfl) rfl ?_
    refine w_iconst (Ev.cm _) rfl ?_
    refine w_iadd (Ev.cm _) rfl ?_
    refine w_putI (Ev.cm _) rfl (Nat.le_of_ble_eq_true rfl) rfl ?_
    refine w_iload_n (Ev.cm _) rfl rfl ?_
    refine w_ireturn (Ev.cm _) rfl trivial rf0 ?_
    cases q
    exact g
  · have c1 : ¬ ((0 : Int32) ≤ (I 1 2) ∧ (I 1 2) ≤ (5 : Int32)) := bI_0.mp c1
    rw [if_neg c1] at q
    refine w_iconst (Ev.cm _) rfl ?_
    refine w_ireturn (Ev.cm _) rfl trivial rf0 ?_
    cases q
    exact g
def FO_X_hangAsStep (fu : Nat) (p0 : Int32) (p1 : Int32) (I : Nat → Nat → Int32) (L : Nat → Nat → Int64) : Option (Int32 × (Nat → Nat → Int32) × (Nat → Nat → Int64)) := if 1 ≤ p0 ∧ p0 ≤ 12 then ((FO_X_hasCup fu p0 I L).bind (fun u1 => let r1 := u1.1; let I1 := u1.2.1; let L1 := u1.2.2; if r1 = p1 then (some (0, I1, L1)) else ((FO_S_keep fu  I1 L1).bind (fun u2 => let r2 := u2.1; let I2 := u2.2.1; let L2 := u2.2.2; some (1, sI I2 2 3 ((I2 2 3) ^^^ ((1 : Int32) <<< (p0 &&& 31))), L2))))) else (some (0, I, L))
set_option maxHeartbeats 20000000 in
set_option maxRecDepth 20000 in
theorem eo_X_hangAsStep {d fu : Nat} {p0 : Int32} {p1 : Int32} {I : Nat → Nat → Int32} {L : Nat → Nat → Int64} {X : Nat × (Nat → Int32)} {Q : PQ} {res : Int32 × (Nat → Nat → Int32) × (Nat → Nat → Int64)}  (g : Q (some (.int res.1)) (HS res.2.1 res.2.2 X)) (q : FO_X_hangAsStep fu p0 p1 I L = some res) : Ev (d + 5) m_X_hangAsStep [.ref 0, .int p0, .int p1] (HS I L X) Q := by
  unfold FO_X_hangAsStep at q
  refine ev_start (d := d + 4) rfl rfl rfl (Nat.le_of_ble_eq_true rfl) ?_
  show Wp (Ev (d + 4)) cd_X_hangAsStep (0, 0) (some .boolean) _ _ Q 0 [(0, .ref 0), (1, .int p0), (2, .int p1)] [] (HS I L X)
  refine w_iload_n (Ev.cm _) rfl rfl ?_
  refine w_cstat (as := [.int p0]) (st := []) (Ev.cm _) rfl rfl rfl (Nat.le_of_ble_eq_true rfl) (Nat.le_of_ble_eq_true rfl) (x_isStair ?_)
  show Wp _ _ _ _ _ _ _ 4 [(0, .ref 0), (1, .int p0), (2, .int p1)] [.int (bI (1 ≤ p0 ∧ p0 ≤ 12))] (HS I L X)
  refine w_if_eq (Ev.cm _) rfl (fun c1 => ?_) (fun c1 => ?_)
  · have c1 : ¬ (1 ≤ p0 ∧ p0 ≤ 12) := bI_0.mp c1
    rw [if_neg c1] at q
    refine w_iconst (Ev.cm _) rfl ?_
    refine w_ireturn (Ev.cm _) rfl (by first | exact rok_0 | exact rok_1 | exact rok_b) rf0 ?_
    cases q
    exact g
  · have c1 : 1 ≤ p0 ∧ p0 ≤ 12 := bI_1.mp c1
    rw [if_pos c1] at q
    refine w_aload_n (Ev.cm _) rfl rfl ?_
    refine w_iload_n (Ev.cm _) rfl rfl ?_
    obtain ⟨⟨r1, I1, L1⟩, e1, q⟩ := obs q
    dsimp only at q
    refine w_cvirt (o := 0) (as := [.int p0]) (st := []) (Ev.cm _) rfl rfl rfl (Nat.le_of_ble_eq_true rfl) (Nat.le_of_ble_eq_true rfl) rfl (Nat.le_of_ble_eq_true rfl) (eo_X_hasCup (g := ?_) e1)
    show Wp _ _ _ _ _ _ _ 12 [(0, .ref 0), (1, .int p0), (2, .int p1)] [.int r1] (HS I1 L1 X)
    refine w_iload_n (Ev.cm _) rfl rfl ?_
    refine w_icmp_ne (Ev.cm _) rfl (fun c2 => ?_) (fun c2 => ?_)
    · have c2 : ¬ (r1 = p1) := c2
      rw [if_neg c2] at q
      refine w_aload_n (Ev.cm _) rfl rfl ?_
      refine w_getR (q := 1) (Ev.cm _) rfl (Nat.le_of_ble_eq_true rfl) rfl rfl ?_
      refine w_getR (q := 6) (Ev.cm _) rfl (Nat.le_of_ble_eq_true rfl) rfl rfl ?_
      refine w_aload_n (Ev.cm _) rfl rfl ?_
      refine w_getR (q := 1) (Ev.cm _) rfl (Nat.le_of_ble_eq_true rfl) rfl rfl ?_
      refine w_getR (q := 2) (Ev.cm _) rfl (Nat.le_of_ble_eq_true rfl) rfl rfl ?_
      obtain ⟨⟨r2, I2, L2⟩, e2, q⟩ := obs q
      dsimp only at q
      refine w_cvirt (o := 6) (as := [.ref 2]) (st := []) (Ev.cm _) rfl rfl rfl (Nat.le_of_ble_eq_true rfl) (Nat.le_of_ble_eq_true rfl) rfl (Nat.le_of_ble_eq_true rfl) (eo_S_keep (g := ?_) e2)
      show Wp _ _ _ _ _ _ _ 35 [(0, .ref 0), (1, .int p0), (2, .int p1)] [] (HS I2 L2 X)
      refine w_aload_n (Ev.cm _) rfl rfl ?_
      refine w_getR (q := 1) (Ev.cm _) rfl (Nat.le_of_ble_eq_true rfl) rfl rfl ?_
      refine w_getR (q := 2) (Ev.cm _) rfl (Nat.le_of_ble_eq_true rfl) rfl rfl ?_
      refine w_dup (Ev.cm _) rfl rfl ?_
      refine w_getI (Ev.cm _) rfl (Nat.le_of_ble_eq_true rfl) rfl ?_
      refine w_iconst (Ev.cm _) rfl ?_
      refine w_iload_n (Ev.cm _) rfl rfl ?_
      refine w_ishl (Ev.cm _) rfl ?_
      refine w_ixor (Ev.cm _) rfl ?_
      refine w_putI (Ev.cm _) rfl (Nat.le_of_ble_eq_true rfl) rfl ?_
      refine w_iconst (Ev.cm _) rfl ?_
      refine w_ireturn (Ev.cm _) rfl (by first | exact rok_0 | exact rok_1 | exact rok_b) rf0 ?_
      cases q
      exact g
    · have c2 : r1 = p1 := c2
      rw [if_pos c2] at q
      refine w_iconst (Ev.cm _) rfl ?_
      refine w_ireturn (Ev.cm _) rfl (by first | exact rok_0 | exact rok_1 | exact rok_b) rf0 ?_
      cases q
      exact g
def FO_X_canGo (fu : Nat) (p0 : Int32) (p1 : Int32) (I : Nat → Nat → Int32) (L : Nat → Nat → Int64) : Option (Int32 × (Nat → Nat → Int32) × (Nat → Nat → Int64)) := if F_X_isLodger I p0 = 0 then (some (0, I, L)) else (if 0 ≤ p0 ∧ p0 < 6 then (if 0 ≤ ((I 3 p0.toNatClampNeg) + p1) ∧ ((I 3 p0.toNatClampNeg) + p1) ≤ 12 then (some (1, I, L)) else (some (0, I, L))) else none)
set_option maxHeartbeats 20000000 in
set_option maxRecDepth 20000 in
theorem eo_X_canGo {d fu : Nat} {p0 : Int32} {p1 : Int32} {I : Nat → Nat → Int32} {L : Nat → Nat → Int64} {X : Nat × (Nat → Int32)} {Q : PQ} {res : Int32 × (Nat → Nat → Int32) × (Nat → Nat → Int64)}  (g : Q (some (.int res.1)) (HS res.2.1 res.2.2 X)) (q : FO_X_canGo fu p0 p1 I L = some res) : Ev (d + 4) m_X_canGo [.ref 0, .int p0, .int p1] (HS I L X) Q := by
  unfold FO_X_canGo at q
  refine ev_start (d := d + 3) rfl rfl rfl (Nat.le_of_ble_eq_true rfl) ?_
  show Wp (Ev (d + 3)) cd_X_canGo (0, 0) (some .boolean) _ _ Q 0 [(0, .ref 0), (1, .int p0), (2, .int p1)] [] (HS I L X)
  refine w_aload_n (Ev.cm _) rfl rfl ?_
  refine w_iload_n (Ev.cm _) rfl rfl ?_
  refine w_cvirt (o := 0) (as := [.int p0]) (st := []) (Ev.cm _) rfl rfl rfl (Nat.le_of_ble_eq_true rfl) (Nat.le_of_ble_eq_true rfl) rfl (Nat.le_of_ble_eq_true rfl) (e_X_isLodger ?_)
  show Wp _ _ _ _ _ _ _ 5 [(0, .ref 0), (1, .int p0), (2, .int p1)] [.int (F_X_isLodger I p0)] (HS I L X)
  refine w_if_eq (Ev.cm _) rfl (fun c1 => ?_) (fun c1 => ?_)
  · have c1 : F_X_isLodger I p0 = 0 := c1
    rw [if_pos c1] at q
    refine w_iconst (Ev.cm _) rfl ?_
    refine w_ireturn (Ev.cm _) rfl (by first | exact rok_0 | exact rok_1 | exact rok_b) rf0 ?_
    cases q
    exact g
  · have c1 : ¬ (F_X_isLodger I p0 = 0) := c1
    rw [if_neg c1] at q
    refine w_aload_n (Ev.cm _) rfl rfl ?_
    refine w_getR (q := 1) (Ev.cm _) rfl (Nat.le_of_ble_eq_true rfl) rfl rfl ?_
    refine w_getR (q := 2) (Ev.cm _) rfl (Nat.le_of_ble_eq_true rfl) rfl rfl ?_
    refine w_getR (q := 3) (Ev.cm _) rfl (Nat.le_of_ble_eq_true rfl) rfl rfl ?_
    refine w_iload_n (Ev.cm _) rfl rfl ?_
    obtain ⟨b1, q⟩ := ois q
    refine w_iald (Ev.cm _) rfl (Nat.le_of_ble_eq_true rfl) rfl (show vp_in p0 6 from vpI 6 (by decide) b1.1 b1.2) ?_
    refine w_iload_n (Ev.cm _) rfl rfl ?_
    refine w_iadd (Ev.cm _) rfl ?_
    refine w_cstat (as := [.int ((I 3 p0.toNatClampNeg) + p1)]) (st := []) (Ev.cm _) rfl rfl rfl (Nat.le_of_ble_eq_true rfl) (Nat.le_of_ble_eq_true rfl) (x_isPlace ?_)
    show Wp _ _ _ _ _ _ _ 25 [(0, .ref 0), (1, .int p0), (2, .int p1)] [.int (bI (0 ≤ ((I 3 p0.toNatClampNeg) + p1) ∧ ((I 3 p0.toNatClampNeg) + p1) ≤ 12))] (HS I L X)
    refine w_if_eq (Ev.cm _) rfl (fun c2 => ?_) (fun c2 => ?_)
    · have c2 : ¬ (0 ≤ ((I 3 p0.toNatClampNeg) + p1) ∧ ((I 3 p0.toNatClampNeg) + p1) ≤ 12) := bI_0.mp c2
      rw [if_neg c2] at q
      refine w_iconst (Ev.cm _) rfl ?_
      refine w_ireturn (Ev.cm _) rfl (by first | exact rok_0 | exact rok_1 | exact rok_b) rf0 ?_
      cases q
      exact g
    · have c2 : 0 ≤ ((I 3 p0.toNatClampNeg) + p1) ∧ ((I 3 p0.toNatClampNeg) + p1) ≤ 12 := bI_1.mp c2
      rw [if_pos c2] at q
      refine w_iconst (Ev.cm _) rfl ?_
      refine w_goto (Ev.cm _) rfl ?_
      refine w_ireturn (Ev.cm _) rfl (by first | exact rok_0 | exact rok_1 | exact rok_b) rf0 ?_
      cases q
      exact g
def FO_X_isQuiet (fu : Nat) (p0 : Int32) (p1 : Int32) (p2 : Int32) (p3 : Int32) (I : Nat → Nat → Int32) (L : Nat → Nat → Int64) : Option (Int32 × (Nat → Nat → Int32) × (Nat → Nat → Int64)) := if p1 ≤ p0 then (if (p3 >>> (p1 &&& 31)) &&& 1 = 0 then (some (1, I, L)) else (some (0, I, L))) else (if (p2 >>> (p1 &&& 31)) &&& 1 = 0 then (some (1, I, L)) else (some (0, I, L)))
set_option maxHeartbeats 20000000 in
set_option maxRecDepth 20000 in
theorem eo_X_isQuiet {d fu : Nat} {p0 : Int32} {p1 : Int32} {p2 : Int32} {p3 : Int32} {I : Nat → Nat → Int32} {L : Nat → Nat → Int64} {X : Nat × (Nat → Int32)} {Q : PQ} {res : Int32 × (Nat → Nat → Int32) × (Nat → Nat → Int64)}  (g : Q (some (.int res.1)) (HS res.2.1 res.2.2 X)) (q : FO_X_isQuiet fu p0 p1 p2 p3 I L = some res) : Ev (d + 1) m_X_isQuiet [.int p0, .int p1, .int p2, .int p3] (HS I L X) Q := by
  unfold FO_X_isQuiet at q
  refine ev_start (d := d + 0) rfl rfl rfl (Nat.le_of_ble_eq_true rfl) ?_
  show Wp (Ev (d + 0)) cd_X_isQuiet (0, 0) (some .boolean) _ _ Q 0 [(0, .int p0), (1, .int p1), (2, .int p2), (3, .int p3)] [] (HS I L X)
  refine w_iload_n (Ev.cm _) rfl rfl ?_
  refine w_iload_n (Ev.cm _) rfl rfl ?_
  refine w_icmp_le (Ev.cm _) rfl (fun c1 => ?_) (fun c1 => ?_)
  · have c1 : p1 ≤ p0 := c1
    rw [if_pos c1] at q
    refine w_iload_n (Ev.cm _) rfl rfl ?_
    refine w_iload_n (Ev.cm _) rfl rfl ?_
    refine w_ishr (Ev.cm _) rfl ?_
    refine w_iconst (Ev.cm _) rfl ?_
    refine w_iand (Ev.cm _) rfl ?_
    refine w_if_ne (Ev.cm _) rfl (fun c2 => ?_) (fun c2 => ?_)
    · have c2 : ¬ ((p3 >>> (p1 &&& 31)) &&& 1 = 0) := c2
      rw [if_neg c2] at q
      refine w_iconst (Ev.cm _) rfl ?_
      refine w_ireturn (Ev.cm _) rfl (by first | exact rok_0 | exact rok_1 | exact rok_b) rf0 ?_
      cases q
      exact g
    · have c2 : (p3 >>> (p1 &&& 31)) &&& 1 = 0 := c2
      rw [if_pos c2] at q
      refine w_iconst (Ev.cm _) rfl ?_
      refine w_goto (Ev.cm _) rfl ?_
      refine w_ireturn (Ev.cm _) rfl (by first | exact rok_0 | exact rok_1 | exact rok_b) rf0 ?_
      cases q
      exact g
  · have c1 : ¬ (p1 ≤ p0) := c1
    rw [if_neg c1] at q
    refine w_iload_n (Ev.cm _) rfl rfl ?_
    refine w_goto (Ev.cm _) rfl ?_
    refine w_iload_n (Ev.cm _) rfl rfl ?_
    refine w_ishr (Ev.cm _) rfl ?_
    refine w_iconst (Ev.cm _) rfl ?_
    refine w_iand (Ev.cm _) rfl ?_
    refine w_if_ne (Ev.cm _) rfl (fun c3 => ?_) (fun c3 => ?_)
    · have c3 : ¬ ((p2 >>> (p1 &&& 31)) &&& 1 = 0) := c3
      rw [if_neg c3] at q
      refine w_iconst (Ev.cm _) rfl ?_
      refine w_ireturn (Ev.cm _) rfl (by first | exact rok_0 | exact rok_1 | exact rok_b) rf0 ?_
      cases q
      exact g
    · have c3 : (p2 >>> (p1 &&& 31)) &&& 1 = 0 := c3
      rw [if_pos c3] at q
      refine w_iconst (Ev.cm _) rfl ?_
      refine w_goto (Ev.cm _) rfl ?_
      refine w_ireturn (Ev.cm _) rfl (by first | exact rok_0 | exact rok_1 | exact rok_b) rf0 ?_
      cases q
      exact g
def LO_X_reaches_19 (fu : Nat) : Nat → Int32 → Int32 → Int32 → Int32 → Int32 → Int32 → (Nat → Nat → Int32) → (Nat → Nat → Int64) → Option (Int32 × (Nat → Nat → Int32) × (Nat → Nat → Int64))
  | 0, _, _, _, _, _, _, _, _ => none
  | n + 1, x1, x2, x3, x4, x5, x6, I, L => if x5 < x6 then (some ((-1), I, L)) else (if x6 = x1 then (LO_X_reaches_19 fu n x1 x2 x3 x4 x5 (x6 + 1) I L) else (if 0 ≤ x6 ∧ x6 < 13 then (if I 328 x6.toNatClampNeg = x2 then ((FO_X_isQuiet fu x1 x6 x3 x4 I L).bind (fun u2 => let r2 := u2.1; let I2 := u2.2.1; let L2 := u2.2.2; if r2 = 0 then (LO_X_reaches_19 fu n x1 x2 x3 x4 x5 (x6 + 1) I2 L2) else (some (x6, I2, L2)))) else (LO_X_reaches_19 fu n x1 x2 x3 x4 x5 (x6 + 1) I L)) else none))
set_option maxHeartbeats 20000000 in
set_option maxRecDepth 20000 in
theorem lo_X_reaches_19 {d fu n0 s0 : Nat} {X : Nat × (Nat → Int32)} {Q : PQ} {res : Int32 × (Nat → Nat → Int32) × (Nat → Nat → Int64)}  (g : Q (some (.int res.1)) (HS res.2.1 res.2.2 X)) : ∀ (n : Nat) (x1 : Int32) (x2 : Int32) (x3 : Int32) (x4 : Int32) (x5 : Int32) (x6 : Int32) (I : Nat → Nat → Int32) (L : Nat → Nat → Int64), LO_X_reaches_19 fu n x1 x2 x3 x4 x5 x6 I L = some res → Wp (Ev (d + 1)) cd_X_reaches (0, 0) (some .int) n0 s0 Q 19 [(0, .ref 0), (1, .int x1), (2, .int x2), (3, .int x3), (4, .int x4), (5, .int x5), (6, .int x6)] [] (HS I L X) := by
  intro n
  induction n with
  | zero => intro _ _ _ _ _ _ _ _ q; cases q
  | succ n ih =>
    intro x1 x2 x3 x4 x5 x6 I L q
    unfold LO_X_reaches_19 at q
    refine w_iload (Ev.cm _) rfl rfl ?_
    refine w_iload (Ev.cm _) rfl rfl ?_
    refine w_icmp_gt (Ev.cm _) rfl (fun c1 => ?_) (fun c1 => ?_)
    · have c1 : x5 < x6 := c1
      rw [if_pos c1] at q
      refine w_iconst (Ev.cm _) rfl ?_
      refine w_ireturn (Ev.cm _) rfl trivial rf0 ?_
      cases q
      exact g
    · have c1 : ¬ (x5 < x6) := c1
      rw [if_neg c1] at q
      refine w_iload (Ev.cm _) rfl rfl ?_
      refine w_iload_n (Ev.cm _) rfl rfl ?_
      refine w_icmp_eq (Ev.cm _) rfl (fun c2 => ?_) (fun c2 => ?_)
      · have c2 : x6 = x1 := c2
        rw [if_pos c2] at q
        refine w_iinc (ls2 := [(0, .ref 0), (1, .int x1), (2, .int x2), (3, .int x3), (4, .int x4), (5, .int x5), (6, .int (x6 + 1))]) (Ev.cm _) rfl rfl rfl ?_
        refine w_goto (Ev.cm _) rfl ?_
        show Wp _ _ _ _ _ _ _ 19 [(0, .ref 0), (1, .int x1), (2, .int x2), (3, .int x3), (4, .int x4), (5, .int x5), (6, .int (x6 + 1))] [] (HS I L X)
        refine Wp.sub [0, 1, 2, 3, 4, 5, 6] (ls2 := [(0, .ref 0), (1, .int x1), (2, .int x2), (3, .int x3), (4, .int x4), (5, .int x5), (6, .int (x6 + 1))]) rfl ?_
        exact ih _ _ _ _ _ _ _ _ q
      · have c2 : ¬ (x6 = x1) := c2
        rw [if_neg c2] at q
        refine w_aload_n (Ev.cm _) rfl rfl ?_
        refine w_getR (q := 328) (Ev.cm _) rfl (Nat.le_of_ble_eq_true rfl) rfl rfl ?_
        refine w_iload (Ev.cm _) rfl rfl ?_
        obtain ⟨b1, q⟩ := ois q
        refine w_iald (Ev.cm _) rfl (Nat.le_of_ble_eq_true rfl) rfl (show vp_in x6 13 from vpI 13 (by decide) b1.1 b1.2) ?_
        refine w_iload_n (Ev.cm _) rfl rfl ?_
        refine w_icmp_ne (Ev.cm _) rfl (fun c3 => ?_) (fun c3 => ?_)
        · have c3 : ¬ (I 328 x6.toNatClampNeg = x2) := c3
          rw [if_neg c3] at q
          refine w_iinc (ls2 := [(0, .ref 0), (1, .int x1), (2, .int x2), (3, .int x3), (4, .int x4), (5, .int x5), (6, .int (x6 + 1))]) (Ev.cm _) rfl rfl rfl ?_
          refine w_goto (Ev.cm _) rfl ?_
          show Wp _ _ _ _ _ _ _ 19 [(0, .ref 0), (1, .int x1), (2, .int x2), (3, .int x3), (4, .int x4), (5, .int x5), (6, .int (x6 + 1))] [] (HS I L X)
          refine Wp.sub [0, 1, 2, 3, 4, 5, 6] (ls2 := [(0, .ref 0), (1, .int x1), (2, .int x2), (3, .int x3), (4, .int x4), (5, .int x5), (6, .int (x6 + 1))]) rfl ?_
          exact ih _ _ _ _ _ _ _ _ q
        · have c3 : I 328 x6.toNatClampNeg = x2 := c3
          rw [if_pos c3] at q
          refine w_iload_n (Ev.cm _) rfl rfl ?_
          refine w_iload (Ev.cm _) rfl rfl ?_
          refine w_iload_n (Ev.cm _) rfl rfl ?_
          refine w_iload (Ev.cm _) rfl rfl ?_
          obtain ⟨⟨r2, I2, L2⟩, e2, q⟩ := obs q
          dsimp only at q
          refine w_cstat (as := [.int x1, .int x6, .int x3, .int x4]) (st := []) (Ev.cm _) rfl rfl rfl (Nat.le_of_ble_eq_true rfl) (Nat.le_of_ble_eq_true rfl) (eo_X_isQuiet (g := ?_) e2)
          show Wp _ _ _ _ _ _ _ 52 [(0, .ref 0), (1, .int x1), (2, .int x2), (3, .int x3), (4, .int x4), (5, .int x5), (6, .int x6)] [.int r2] (HS I2 L2 X)
          refine w_if_eq (Ev.cm _) rfl (fun c4 => ?_) (fun c4 => ?_)
          · have c4 : r2 = 0 := c4
            rw [if_pos c4] at q
            refine w_iinc (ls2 := [(0, .ref 0), (1, .int x1), (2, .int x2), (3, .int x3), (4, .int x4), (5, .int x5), (6, .int (x6 + 1))]) (Ev.cm _) rfl rfl rfl ?_
            refine w_goto (Ev.cm _) rfl ?_
            show Wp _ _ _ _ _ _ _ 19 [(0, .ref 0), (1, .int x1), (2, .int x2), (3, .int x3), (4, .int x4), (5, .int x5), (6, .int (x6 + 1))] [] (HS I2 L2 X)
            refine Wp.sub [0, 1, 2, 3, 4, 5, 6] (ls2 := [(0, .ref 0), (1, .int x1), (2, .int x2), (3, .int x3), (4, .int x4), (5, .int x5), (6, .int (x6 + 1))]) rfl ?_
            exact ih _ _ _ _ _ _ _ _ q
          · have c4 : ¬ (r2 = 0) := c4
            rw [if_neg c4] at q
            refine w_iload (Ev.cm _) rfl rfl ?_
            refine w_ireturn (Ev.cm _) rfl trivial rf0 ?_
            cases q
            exact g
def FO_X_reaches (fu : Nat) (p0 : Int32) (p1 : Int32) (p2 : Int32) (p3 : Int32) (I : Nat → Nat → Int32) (L : Nat → Nat → Int64) : Option (Int32 × (Nat → Nat → Int32) × (Nat → Nat → Int64)) := LO_X_reaches_19 fu fu p0 p1 p2 p3 (F_J_min I (p0 + 3) 12) (F_J_max I (p0 - 3) 0) I L
set_option maxHeartbeats 20000000 in
set_option maxRecDepth 20000 in
theorem eo_X_reaches {d fu : Nat} {p0 : Int32} {p1 : Int32} {p2 : Int32} {p3 : Int32} {I : Nat → Nat → Int32} {L : Nat → Nat → Int64} {X : Nat × (Nat → Int32)} {Q : PQ} {res : Int32 × (Nat → Nat → Int32) × (Nat → Nat → Int64)}  (g : Q (some (.int res.1)) (HS res.2.1 res.2.2 X)) (q : FO_X_reaches fu p0 p1 p2 p3 I L = some res) : Ev (d + 2) m_X_reaches [.ref 0, .int p0, .int p1, .int p2, .int p3] (HS I L X) Q := by
  unfold FO_X_reaches at q
  refine ev_start (d := d + 1) rfl rfl rfl (Nat.le_of_ble_eq_true rfl) ?_
  show Wp (Ev (d + 1)) cd_X_reaches (0, 0) (some .int) _ _ Q 0 [(0, .ref 0), (1, .int p0), (2, .int p1), (3, .int p2), (4, .int p3)] [] (HS I L X)
  refine w_iload_n (Ev.cm _) rfl rfl ?_
  refine w_iconst (Ev.cm _) rfl ?_
  refine w_iadd (Ev.cm _) rfl ?_
  refine w_bipush (Ev.cm _) rfl ?_
  refine w_cstat (as := [.int (p0 + 3), .int 12]) (st := []) (Ev.cm _) rfl rfl rfl (Nat.le_of_ble_eq_true rfl) (Nat.le_of_ble_eq_true rfl) (e_J_min ?_)
  show Wp _ _ _ _ _ _ _ 8 [(0, .ref 0), (1, .int p0), (2, .int p1), (3, .int p2), (4, .int p3)] [.int (F_J_min I (p0 + 3) 12)] (HS I L X)
  refine w_istore (ls2 := [(0, .ref 0), (1, .int p0), (2, .int p1), (3, .int p2), (4, .int p3), (5, .int (F_J_min I (p0 + 3) 12))]) (Ev.cm _) rfl rfl ?_
  refine w_iload_n (Ev.cm _) rfl rfl ?_
  refine w_iconst (Ev.cm _) rfl ?_
  refine w_isub (Ev.cm _) rfl ?_
  refine w_iconst (Ev.cm _) rfl ?_
  refine w_cstat (as := [.int (p0 - 3), .int 0]) (st := []) (Ev.cm _) rfl rfl rfl (Nat.le_of_ble_eq_true rfl) (Nat.le_of_ble_eq_true rfl) (e_J_max ?_)
  show Wp _ _ _ _ _ _ _ 17 [(0, .ref 0), (1, .int p0), (2, .int p1), (3, .int p2), (4, .int p3), (5, .int (F_J_min I (p0 + 3) 12))] [.int (F_J_max I (p0 - 3) 0)] (HS I L X)
  refine w_istore (ls2 := [(0, .ref 0), (1, .int p0), (2, .int p1), (3, .int p2), (4, .int p3), (5, .int (F_J_min I (p0 + 3) 12)), (6, .int (F_J_max I (p0 - 3) 0))]) (Ev.cm _) rfl rfl ?_
  show Wp _ _ _ _ _ _ _ 19 [(0, .ref 0), (1, .int p0), (2, .int p1), (3, .int p2), (4, .int p3), (5, .int (F_J_min I (p0 + 3) 12)), (6, .int (F_J_max I (p0 - 3) 0))] [] (HS I L X)
  refine Wp.sub [0, 1, 2, 3, 4, 5, 6] (ls2 := [(0, .ref 0), (1, .int p0), (2, .int p1), (3, .int p2), (4, .int p3), (5, .int (F_J_min I (p0 + 3) 12)), (6, .int (F_J_max I (p0 - 3) 0))]) rfl ?_
  exact lo_X_reaches_19 g fu _ _ _ _ _ _ _ _ q
def FO_X_nextQuiet (fu : Nat) (p0 : Int32) (p1 : Int32) (p2 : Int32) (I : Nat → Nat → Int32) (L : Nat → Nat → Int64) : Option (Int32 × (Nat → Nat → Int32) × (Nat → Nat → Int64)) := if 0 ≤ p0 ∧ p0 ≤ 12 then (if 0 ≤ p0 ∧ p0 < 13 then ((FO_X_reaches fu p0 ((I 328 p0.toNatClampNeg) - 1) p1 p2 I L).bind (fun u2 => let r2 := u2.1; let I2 := u2.2.1; let L2 := u2.2.2; some (r2, I2, L2))) else none) else (some ((-1), I, L))
set_option maxHeartbeats 20000000 in
set_option maxRecDepth 20000 in
theorem eo_X_nextQuiet {d fu : Nat} {p0 : Int32} {p1 : Int32} {p2 : Int32} {I : Nat → Nat → Int32} {L : Nat → Nat → Int64} {X : Nat × (Nat → Int32)} {Q : PQ} {res : Int32 × (Nat → Nat → Int32) × (Nat → Nat → Int64)}  (g : Q (some (.int res.1)) (HS res.2.1 res.2.2 X)) (q : FO_X_nextQuiet fu p0 p1 p2 I L = some res) : Ev (d + 3) m_X_nextQuiet [.ref 0, .int p0, .int p1, .int p2] (HS I L X) Q := by
  unfold FO_X_nextQuiet at q
  refine ev_start (d := d + 2) rfl rfl rfl (Nat.le_of_ble_eq_true rfl) ?_
  show Wp (Ev (d + 2)) cd_X_nextQuiet (0, 0) (some .int) _ _ Q 0 [(0, .ref 0), (1, .int p0), (2, .int p1), (3, .int p2)] [] (HS I L X)
  refine w_iload_n (Ev.cm _) rfl rfl ?_
  refine w_cstat (as := [.int p0]) (st := []) (Ev.cm _) rfl rfl rfl (Nat.le_of_ble_eq_true rfl) (Nat.le_of_ble_eq_true rfl) (x_isPlace ?_)
  show Wp _ _ _ _ _ _ _ 4 [(0, .ref 0), (1, .int p0), (2, .int p1), (3, .int p2)] [.int (bI (0 ≤ p0 ∧ p0 ≤ 12))] (HS I L X)
  refine w_if_ne (Ev.cm _) rfl (fun c1 => ?_) (fun c1 => ?_)
  · have c1 : 0 ≤ p0 ∧ p0 ≤ 12 := bI_1.mp c1
    rw [if_pos c1] at q
    refine w_aload_n (Ev.cm _) rfl rfl ?_
    refine w_iload_n (Ev.cm _) rfl rfl ?_
    refine w_aload_n (Ev.cm _) rfl rfl ?_
    refine w_getR (q := 328) (Ev.cm _) rfl (Nat.le_of_ble_eq_true rfl) rfl rfl ?_
    refine w_iload_n (Ev.cm _) rfl rfl ?_
    obtain ⟨b1, q⟩ := ois q
    refine w_iald (Ev.cm _) rfl (Nat.le_of_ble_eq_true rfl) rfl (show vp_in p0 13 from vpI 13 (by decide) b1.1 b1.2) ?_
    refine w_iconst (Ev.cm _) rfl ?_
    refine w_isub (Ev.cm _) rfl ?_
    refine w_iload_n (Ev.cm _) rfl rfl ?_
    refine w_iload_n (Ev.cm _) rfl rfl ?_
    obtain ⟨⟨r2, I2, L2⟩, e2, q⟩ := obs q
    dsimp only at q
    refine w_cvirt (o := 0) (as := [.int p0, .int ((I 328 p0.toNatClampNeg) - 1), .int p1, .int p2]) (st := []) (Ev.cm _) rfl rfl rfl (Nat.le_of_ble_eq_true rfl) (Nat.le_of_ble_eq_true rfl) rfl (Nat.le_of_ble_eq_true rfl) (eo_X_reaches (g := ?_) e2)
    show Wp _ _ _ _ _ _ _ 24 [(0, .ref 0), (1, .int p0), (2, .int p1), (3, .int p2)] [.int r2] (HS I2 L2 X)
    refine w_ireturn (Ev.cm _) rfl trivial rf0 ?_
    cases q
    exact g
  · have c1 : ¬ (0 ≤ p0 ∧ p0 ≤ 12) := bI_0.mp c1
    rw [if_neg c1] at q
    refine w_iconst (Ev.cm _) rfl ?_
    refine w_ireturn (Ev.cm _) rfl trivial rf0 ?_
    cases q
    exact g
def LO_X_countFromBelow_11 (fu : Nat) : Nat → Int32 → Int64 → Int32 → (Nat → Nat → Int32) → (Nat → Nat → Int64) → Option (Int64 × (Nat → Nat → Int32) × (Nat → Nat → Int64))
  | 0, _, _, _, _, _ => none
  | n + 1, x1, x2, x4, I, L => if x1 ≤ x4 then (some (x2, I, L)) else (if 0 ≤ x4 ∧ x4 < 13 then (LO_X_countFromBelow_11 fu n x1 (x2 + (L 329 x4.toNatClampNeg)) (x4 + 1) I L) else none)
set_option maxHeartbeats 20000000 in
set_option maxRecDepth 20000 in
theorem lo_X_countFromBelow_11 {d fu n0 s0 : Nat} {X : Nat × (Nat → Int32)} {Q : PQ} {res : Int64 × (Nat → Nat → Int32) × (Nat → Nat → Int64)}  (g : Q (some (.long res.1)) (HS res.2.1 res.2.2 X)) : ∀ (n : Nat) (x1 : Int32) (x2 : Int64) (x4 : Int32) (I : Nat → Nat → Int32) (L : Nat → Nat → Int64), LO_X_countFromBelow_11 fu n x1 x2 x4 I L = some res → Wp (Ev (d + 1)) cd_X_countFromBelow (0, 0) (some .long) n0 s0 Q 11 [(0, .ref 0), (1, .int x1), (2, .long x2), (4, .int x4)] [] (HS I L X) := by
  intro n
  induction n with
  | zero => intro _ _ _ _ _ q; cases q
  | succ n ih =>
    intro x1 x2 x4 I L q
    unfold LO_X_countFromBelow_11 at q
    refine w_iload (Ev.cm _) rfl rfl ?_
    refine w_iload_n (Ev.cm _) rfl rfl ?_
    refine w_icmp_ge (Ev.cm _) rfl (fun c1 => ?_) (fun c1 => ?_)
    · have c1 : x1 ≤ x4 := c1
      rw [if_pos c1] at q
      refine w_lload_n (Ev.cm _) rfl rfl ?_
      refine w_lreturn (Ev.cm _) rfl rfl rf0 ?_
      cases q
      exact g
    · have c1 : ¬ (x1 ≤ x4) := c1
      rw [if_neg c1] at q
      refine w_lload_n (Ev.cm _) rfl rfl ?_
      refine w_aload_n (Ev.cm _) rfl rfl ?_
      refine w_getR (q := 329) (Ev.cm _) rfl (Nat.le_of_ble_eq_true rfl) rfl rfl ?_
      refine w_iload (Ev.cm _) rfl rfl ?_
      obtain ⟨b1, q⟩ := ois q
      refine w_lald (Ev.cm _) rfl (Nat.le_of_ble_eq_true rfl) rfl (show vp_in x4 13 from vpI 13 (by decide) b1.1 b1.2) ?_
      refine w_ladd (Ev.cm _) rfl ?_
      refine w_lstore_n (ls2 := [(0, .ref 0), (1, .int x1), (2, .long (x2 + (L 329 x4.toNatClampNeg))), (4, .int x4)]) (Ev.cm _) rfl rfl ?_
      refine w_iinc (ls2 := [(0, .ref 0), (1, .int x1), (2, .long (x2 + (L 329 x4.toNatClampNeg))), (4, .int (x4 + 1))]) (Ev.cm _) rfl rfl rfl ?_
      refine w_goto (Ev.cm _) rfl ?_
      show Wp _ _ _ _ _ _ _ 11 [(0, .ref 0), (1, .int x1), (2, .long (x2 + (L 329 x4.toNatClampNeg))), (4, .int (x4 + 1))] [] (HS I L X)
      refine Wp.sub [0, 1, 2, 3] (ls2 := [(0, .ref 0), (1, .int x1), (2, .long (x2 + (L 329 x4.toNatClampNeg))), (4, .int (x4 + 1))]) rfl ?_
      exact ih _ _ _ _ _ q
def FO_X_countFromBelow (fu : Nat) (p0 : Int32) (I : Nat → Nat → Int32) (L : Nat → Nat → Int64) : Option (Int64 × (Nat → Nat → Int32) × (Nat → Nat → Int64)) := LO_X_countFromBelow_11 fu fu p0 0 (F_J_max I (p0 - 3) 0) I L
set_option maxHeartbeats 20000000 in
set_option maxRecDepth 20000 in
theorem eo_X_countFromBelow {d fu : Nat} {p0 : Int32} {I : Nat → Nat → Int32} {L : Nat → Nat → Int64} {X : Nat × (Nat → Int32)} {Q : PQ} {res : Int64 × (Nat → Nat → Int32) × (Nat → Nat → Int64)}  (g : Q (some (.long res.1)) (HS res.2.1 res.2.2 X)) (q : FO_X_countFromBelow fu p0 I L = some res) : Ev (d + 2) m_X_countFromBelow [.ref 0, .int p0] (HS I L X) Q := by
  unfold FO_X_countFromBelow at q
  refine ev_start (d := d + 1) rfl rfl rfl (Nat.le_of_ble_eq_true rfl) ?_
  show Wp (Ev (d + 1)) cd_X_countFromBelow (0, 0) (some .long) _ _ Q 0 [(0, .ref 0), (1, .int p0)] [] (HS I L X)
  refine w_lconst (Ev.cm _) rfl ?_
  refine w_lstore_n (ls2 := [(0, .ref 0), (1, .int p0), (2, .long 0)]) (Ev.cm _) rfl rfl ?_
  refine w_iload_n (Ev.cm _) rfl rfl ?_
  refine w_iconst (Ev.cm _) rfl ?_
  refine w_isub (Ev.cm _) rfl ?_
  refine w_iconst (Ev.cm _) rfl ?_
  refine w_cstat (as := [.int (p0 - 3), .int 0]) (st := []) (Ev.cm _) rfl rfl rfl (Nat.le_of_ble_eq_true rfl) (Nat.le_of_ble_eq_true rfl) (e_J_max ?_)
  show Wp _ _ _ _ _ _ _ 9 [(0, .ref 0), (1, .int p0), (2, .long 0)] [.int (F_J_max I (p0 - 3) 0)] (HS I L X)
  refine w_istore (ls2 := [(0, .ref 0), (1, .int p0), (2, .long 0), (4, .int (F_J_max I (p0 - 3) 0))]) (Ev.cm _) rfl rfl ?_
  show Wp _ _ _ _ _ _ _ 11 [(0, .ref 0), (1, .int p0), (2, .long 0), (4, .int (F_J_max I (p0 - 3) 0))] [] (HS I L X)
  refine Wp.sub [0, 1, 2, 3] (ls2 := [(0, .ref 0), (1, .int p0), (2, .long 0), (4, .int (F_J_max I (p0 - 3) 0))]) rfl ?_
  exact lo_X_countFromBelow_11 g fu _ _ _ _ _ q
def LO_X_part_9 (fu : Nat) : Nat → Int64 → Int64 → Int32 → Int64 → Int64 → Int32 → (Nat → Nat → Int32) → (Nat → Nat → Int64) → Option (Int64 × (Nat → Nat → Int32) × (Nat → Nat → Int64))
  | 0, _, _, _, _, _, _, _, _ => none
  | n + 1, x0, x2, x4, x5, x7, x9, I, L => if 200 ≤ x9 then (if lg_cmp x2 0 ≤ 0 then (some ((-1), I, L)) else (if 0 < lg_cmp x7 0 then (if x4 = 0 then (if ¬ x7 = 0 then (some (x0 / x7, I, L)) else none) else (if ¬ x7 = 0 then (some (x2 / x7, I, L)) else none)) else (some ((-1), I, L)))) else (if lg_cmp x5 0 = 0 then (if lg_cmp x2 0 ≤ 0 then (some ((-1), I, L)) else (if 0 < lg_cmp x7 0 then (if x4 = 0 then (if ¬ x7 = 0 then (some (x0 / x7, I, L)) else none) else (if ¬ x7 = 0 then (some (x2 / x7, I, L)) else none)) else (some ((-1), I, L)))) else (if ¬ x5 = 0 then (LO_X_part_9 fu n x0 x2 x4 (lR x7 x5) x5 (x9 + 1) I L) else none))
set_option maxHeartbeats 20000000 in
set_option maxRecDepth 20000 in
theorem lo_X_part_9 {d fu n0 s0 : Nat} {X : Nat × (Nat → Int32)} {Q : PQ} {res : Int64 × (Nat → Nat → Int32) × (Nat → Nat → Int64)}  (g : Q (some (.long res.1)) (HS res.2.1 res.2.2 X)) : ∀ (n : Nat) (x0 : Int64) (x2 : Int64) (x4 : Int32) (x5 : Int64) (x7 : Int64) (x9 : Int32) (I : Nat → Nat → Int32) (L : Nat → Nat → Int64), LO_X_part_9 fu n x0 x2 x4 x5 x7 x9 I L = some res → Wp (Ev (d + 0)) cd_X_part (0, 0) (some .long) n0 s0 Q 9 [(0, .long x0), (2, .long x2), (4, .int x4), (5, .long x5), (7, .long x7), (9, .int x9)] [] (HS I L X) := by
  intro n
  induction n with
  | zero => intro _ _ _ _ _ _ _ _ q; cases q
  | succ n ih =>
    intro x0 x2 x4 x5 x7 x9 I L q
    unfold LO_X_part_9 at q
    refine w_iload (Ev.cm _) rfl rfl ?_
    refine w_sipush (Ev.cm _) rfl ?_
    refine w_icmp_ge (Ev.cm _) rfl (fun c1 => ?_) (fun c1 => ?_)
    · have c1 : 200 ≤ x9 := c1
      rw [if_pos c1] at q
      refine w_lload_n (Ev.cm _) rfl rfl ?_
      refine w_lconst (Ev.cm _) rfl ?_
      refine w_lcmp (Ev.cm _) rfl ?_
      refine w_if_le (Ev.cm _) rfl (fun c2 => ?_) (fun c2 => ?_)
      · have c2 : lg_cmp x2 0 ≤ 0 := c2
        rw [if_pos c2] at q
        refine w_ldc2_w (Ev.cm _) rfl ?_
        refine w_lreturn (Ev.cm _) rfl rfl rf0 ?_
        cases q
        exact g
      · have c2 : ¬ (lg_cmp x2 0 ≤ 0) := c2
        rw [if_neg c2] at q
        refine w_lload (Ev.cm _) rfl rfl ?_
        refine w_lconst (Ev.cm _) rfl ?_
        refine w_lcmp (Ev.cm _) rfl ?_
        refine w_if_gt (Ev.cm _) rfl (fun c3 => ?_) (fun c3 => ?_)
        · have c3 : 0 < lg_cmp x7 0 := c3
          rw [if_pos c3] at q
          refine w_iload (Ev.cm _) rfl rfl ?_
          refine w_if_eq (Ev.cm _) rfl (fun c4 => ?_) (fun c4 => ?_)
          · have c4 : x4 = 0 := c4
            rw [if_pos c4] at q
            refine w_lload_n (Ev.cm _) rfl rfl ?_
            refine w_lload (Ev.cm _) rfl rfl ?_
            obtain ⟨b1, q⟩ := ois q
            refine w_ldiv (Ev.cm _) rfl b1 ?_
            refine w_lreturn (Ev.cm _) rfl rfl rf0 ?_
            cases q
            exact g
          · have c4 : ¬ (x4 = 0) := c4
            rw [if_neg c4] at q
            refine w_lload_n (Ev.cm _) rfl rfl ?_
            refine w_lload (Ev.cm _) rfl rfl ?_
            obtain ⟨b2, q⟩ := ois q
            refine w_ldiv (Ev.cm _) rfl b2 ?_
            refine w_goto (Ev.cm _) rfl ?_
            refine w_lreturn (Ev.cm _) rfl rfl rf0 ?_
            cases q
            exact g
        · have c3 : ¬ (0 < lg_cmp x7 0) := c3
          rw [if_neg c3] at q
          refine w_ldc2_w (Ev.cm _) rfl ?_
          refine w_lreturn (Ev.cm _) rfl rfl rf0 ?_
          cases q
          exact g
    · have c1 : ¬ (200 ≤ x9) := c1
      rw [if_neg c1] at q
      refine w_lload (Ev.cm _) rfl rfl ?_
      refine w_lconst (Ev.cm _) rfl ?_
      refine w_lcmp (Ev.cm _) rfl ?_
      refine w_if_eq (Ev.cm _) rfl (fun c5 => ?_) (fun c5 => ?_)
      · have c5 : lg_cmp x5 0 = 0 := c5
        rw [if_pos c5] at q
        refine w_lload_n (Ev.cm _) rfl rfl ?_
        refine w_lconst (Ev.cm _) rfl ?_
        refine w_lcmp (Ev.cm _) rfl ?_
        refine w_if_le (Ev.cm _) rfl (fun c6 => ?_) (fun c6 => ?_)
        · have c6 : lg_cmp x2 0 ≤ 0 := c6
          rw [if_pos c6] at q
          refine w_ldc2_w (Ev.cm _) rfl ?_
          refine w_lreturn (Ev.cm _) rfl rfl rf0 ?_
          cases q
          exact g
        · have c6 : ¬ (lg_cmp x2 0 ≤ 0) := c6
          rw [if_neg c6] at q
          refine w_lload (Ev.cm _) rfl rfl ?_
          refine w_lconst (Ev.cm _) rfl ?_
          refine w_lcmp (Ev.cm _) rfl ?_
          refine w_if_gt (Ev.cm _) rfl (fun c7 => ?_) (fun c7 => ?_)
          · have c7 : 0 < lg_cmp x7 0 := c7
            rw [if_pos c7] at q
            refine w_iload (Ev.cm _) rfl rfl ?_
            refine w_if_eq (Ev.cm _) rfl (fun c8 => ?_) (fun c8 => ?_)
            · have c8 : x4 = 0 := c8
              rw [if_pos c8] at q
              refine w_lload_n (Ev.cm _) rfl rfl ?_
              refine w_lload (Ev.cm _) rfl rfl ?_
              obtain ⟨b3, q⟩ := ois q
              refine w_ldiv (Ev.cm _) rfl b3 ?_
              refine w_lreturn (Ev.cm _) rfl rfl rf0 ?_
              cases q
              exact g
            · have c8 : ¬ (x4 = 0) := c8
              rw [if_neg c8] at q
              refine w_lload_n (Ev.cm _) rfl rfl ?_
              refine w_lload (Ev.cm _) rfl rfl ?_
              obtain ⟨b4, q⟩ := ois q
              refine w_ldiv (Ev.cm _) rfl b4 ?_
              refine w_goto (Ev.cm _) rfl ?_
              refine w_lreturn (Ev.cm _) rfl rfl rf0 ?_
              cases q
              exact g
          · have c7 : ¬ (0 < lg_cmp x7 0) := c7
            rw [if_neg c7] at q
            refine w_ldc2_w (Ev.cm _) rfl ?_
            refine w_lreturn (Ev.cm _) rfl rfl rf0 ?_
            cases q
            exact g
      · have c5 : ¬ (lg_cmp x5 0 = 0) := c5
        rw [if_neg c5] at q
        refine w_lload (Ev.cm _) rfl rfl ?_
        refine w_lload (Ev.cm _) rfl rfl ?_
        obtain ⟨b5, q⟩ := ois q
        refine w_lrem (Ev.cm _) rfl b5 ?_
        refine w_lstore (ls2 := [(0, .long x0), (2, .long x2), (4, .int x4), (5, .long x5), (7, .long x7), (9, .int x9), (10, .long (lR x7 x5))]) (Ev.cm _) rfl rfl ?_
        refine w_lload (Ev.cm _) rfl rfl ?_
        refine w_lstore (ls2 := [(0, .long x0), (2, .long x2), (4, .int x4), (5, .long x5), (7, .long x5), (9, .int x9), (10, .long (lR x7 x5))]) (Ev.cm _) rfl rfl ?_
        refine w_lload (Ev.cm _) rfl rfl ?_
        refine w_lstore (ls2 := [(0, .long x0), (2, .long x2), (4, .int x4), (5, .long (lR x7 x5)), (7, .long x5), (9, .int x9), (10, .long (lR x7 x5))]) (Ev.cm _) rfl rfl ?_
        refine w_iinc (ls2 := [(0, .long x0), (2, .long x2), (4, .int x4), (5, .long (lR x7 x5)), (7, .long x5), (9, .int (x9 + 1)), (10, .long (lR x7 x5))]) (Ev.cm _) rfl rfl rfl ?_
        refine w_goto (Ev.cm _) rfl ?_
        show Wp _ _ _ _ _ _ _ 9 [(0, .long x0), (2, .long x2), (4, .int x4), (5, .long (lR x7 x5)), (7, .long x5), (9, .int (x9 + 1)), (10, .long (lR x7 x5))] [] (HS I L X)
        refine Wp.sub [0, 1, 2, 3, 4, 5] (ls2 := [(0, .long x0), (2, .long x2), (4, .int x4), (5, .long (lR x7 x5)), (7, .long x5), (9, .int (x9 + 1))]) rfl ?_
        exact ih _ _ _ _ _ _ _ _ q
def FO_X_part (fu : Nat) (p0 : Int64) (p1 : Int64) (p2 : Int32) (I : Nat → Nat → Int32) (L : Nat → Nat → Int64) : Option (Int64 × (Nat → Nat → Int32) × (Nat → Nat → Int64)) := LO_X_part_9 fu fu p0 p1 p2 p0 p1 0 I L
set_option maxHeartbeats 20000000 in
set_option maxRecDepth 20000 in
theorem eo_X_part {d fu : Nat} {p0 : Int64} {p1 : Int64} {p2 : Int32} {I : Nat → Nat → Int32} {L : Nat → Nat → Int64} {X : Nat × (Nat → Int32)} {Q : PQ} {res : Int64 × (Nat → Nat → Int32) × (Nat → Nat → Int64)}  (g : Q (some (.long res.1)) (HS res.2.1 res.2.2 X)) (q : FO_X_part fu p0 p1 p2 I L = some res) : Ev (d + 1) m_X_part [.long p0, .long p1, .int p2] (HS I L X) Q := by
  unfold FO_X_part at q
  refine ev_start (d := d + 0) rfl rfl rfl (Nat.le_of_ble_eq_true rfl) ?_
  show Wp (Ev (d + 0)) cd_X_part (0, 0) (some .long) _ _ Q 0 [(0, .long p0), (2, .long p1), (4, .int p2)] [] (HS I L X)
  refine w_lload_n (Ev.cm _) rfl rfl ?_
  refine w_lstore (ls2 := [(0, .long p0), (2, .long p1), (4, .int p2), (5, .long p0)]) (Ev.cm _) rfl rfl ?_
  refine w_lload_n (Ev.cm _) rfl rfl ?_
  refine w_lstore (ls2 := [(0, .long p0), (2, .long p1), (4, .int p2), (5, .long p0), (7, .long p1)]) (Ev.cm _) rfl rfl ?_
  refine w_iconst (Ev.cm _) rfl ?_
  refine w_istore (ls2 := [(0, .long p0), (2, .long p1), (4, .int p2), (5, .long p0), (7, .long p1), (9, .int 0)]) (Ev.cm _) rfl rfl ?_
  show Wp _ _ _ _ _ _ _ 9 [(0, .long p0), (2, .long p1), (4, .int p2), (5, .long p0), (7, .long p1), (9, .int 0)] [] (HS I L X)
  refine Wp.sub [0, 1, 2, 3, 4, 5] (ls2 := [(0, .long p0), (2, .long p1), (4, .int p2), (5, .long p0), (7, .long p1), (9, .int 0)]) rfl ?_
  exact lo_X_part_9 g fu _ _ _ _ _ _ _ _ q
def LO_X_tellsAllApart_12 (fu : Nat) (k_2 : Int32 → Int32 → (Nat → Nat → Int32) → (Nat → Nat → Int64) → Option (Int32 × (Nat → Nat → Int32) × (Nat → Nat → Int64))) : Nat → Int32 → Int32 → Int32 → (Nat → Nat → Int32) → (Nat → Nat → Int64) → Option (Int32 × (Nat → Nat → Int32) × (Nat → Nat → Int64))
  | 0, _, _, _, _, _ => none
  | n + 1, x1, x2, x3, I, L => if x2 ≤ x3 then (k_2 x1 (x2 + 1) I L) else (if 0 ≤ x2 ∧ x2 < 6 then (if 0 ≤ x3 ∧ x3 < 6 then (if ((I 130 x2.toNatClampNeg) ^^^ (I 130 x3.toNatClampNeg)) &&& x1 = 0 then (some (0, I, L)) else (LO_X_tellsAllApart_12 fu k_2 n x1 x2 (x3 + 1) I L)) else none) else none)
set_option maxHeartbeats 20000000 in
set_option maxRecDepth 20000 in
theorem lo_X_tellsAllApart_12 {d fu n0 s0 : Nat} {X : Nat × (Nat → Int32)} {Q : PQ} {k_2 : Int32 → Int32 → (Nat → Nat → Int32) → (Nat → Nat → Int64) → Option (Int32 × (Nat → Nat → Int32) × (Nat → Nat → Int64))} {res : Int32 × (Nat → Nat → Int32) × (Nat → Nat → Int64)}  (g : Q (some (.int res.1)) (HS res.2.1 res.2.2 X)) (hk_2 : ∀ (x1 : Int32) (x2 : Int32) (I : Nat → Nat → Int32) (L : Nat → Nat → Int64), k_2 x1 x2 I L = some res → Wp (Ev (d + 2)) cd_X_tellsAllApart (0, 0) (some .boolean) n0 s0 Q 2 [(0, .ref 0), (1, .int x1), (2, .int x2)] [] (HS I L X)) : ∀ (n : Nat) (x1 : Int32) (x2 : Int32) (x3 : Int32) (I : Nat → Nat → Int32) (L : Nat → Nat → Int64), LO_X_tellsAllApart_12 fu k_2 n x1 x2 x3 I L = some res → Wp (Ev (d + 2)) cd_X_tellsAllApart (0, 0) (some .boolean) n0 s0 Q 12 [(0, .ref 0), (1, .int x1), (2, .int x2), (3, .int x3)] [] (HS I L X) := by
  intro n
  induction n with
  | zero => intro _ _ _ _ _ q; cases q
  | succ n ih =>
    intro x1 x2 x3 I L q
    unfold LO_X_tellsAllApart_12 at q
    refine w_iload_n (Ev.cm _) rfl rfl ?_
    refine w_iload_n (Ev.cm _) rfl rfl ?_
    refine w_icmp_ge (Ev.cm _) rfl (fun c1 => ?_) (fun c1 => ?_)
    · have c1 : x2 ≤ x3 := c1
      rw [if_pos c1] at q
      refine w_iinc (ls2 := [(0, .ref 0), (1, .int x1), (2, .int (x2 + 1)), (3, .int x3)]) (Ev.cm _) rfl rfl rfl ?_
      refine w_goto (Ev.cm _) rfl ?_
      show Wp _ _ _ _ _ _ _ 2 [(0, .ref 0), (1, .int x1), (2, .int (x2 + 1)), (3, .int x3)] [] (HS I L X)
      refine Wp.sub [0, 1, 2] (ls2 := [(0, .ref 0), (1, .int x1), (2, .int (x2 + 1))]) rfl ?_
      exact hk_2 _ _ _ _ q
    · have c1 : ¬ (x2 ≤ x3) := c1
      rw [if_neg c1] at q
      refine w_aload_n (Ev.cm _) rfl rfl ?_
      refine w_getR (q := 1) (Ev.cm _) rfl (Nat.le_of_ble_eq_true rfl) rfl rfl ?_
      refine w_getR (q := 130) (Ev.cm _) rfl (Nat.le_of_ble_eq_true rfl) rfl rfl ?_
      refine w_iload_n (Ev.cm _) rfl rfl ?_
      obtain ⟨b1, q⟩ := ois q
      refine w_iald (Ev.cm _) rfl (Nat.le_of_ble_eq_true rfl) rfl (show vp_in x2 6 from vpI 6 (by decide) b1.1 b1.2) ?_
      refine w_aload_n (Ev.cm _) rfl rfl ?_
      refine w_getR (q := 1) (Ev.cm _) rfl (Nat.le_of_ble_eq_true rfl) rfl rfl ?_
      refine w_getR (q := 130) (Ev.cm _) rfl (Nat.le_of_ble_eq_true rfl) rfl rfl ?_
      refine w_iload_n (Ev.cm _) rfl rfl ?_
      obtain ⟨b2, q⟩ := ois q
      refine w_iald (Ev.cm _) rfl (Nat.le_of_ble_eq_true rfl) rfl (show vp_in x3 6 from vpI 6 (by decide) b2.1 b2.2) ?_
      refine w_ixor (Ev.cm _) rfl ?_
      refine w_iload_n (Ev.cm _) rfl rfl ?_
      refine w_iand (Ev.cm _) rfl ?_
      refine w_if_ne (Ev.cm _) rfl (fun c2 => ?_) (fun c2 => ?_)
      · have c2 : ¬ (((I 130 x2.toNatClampNeg) ^^^ (I 130 x3.toNatClampNeg)) &&& x1 = 0) := c2
        rw [if_neg c2] at q
        refine w_iinc (ls2 := [(0, .ref 0), (1, .int x1), (2, .int x2), (3, .int (x3 + 1))]) (Ev.cm _) rfl rfl rfl ?_
        refine w_goto (Ev.cm _) rfl ?_
        show Wp _ _ _ _ _ _ _ 12 [(0, .ref 0), (1, .int x1), (2, .int x2), (3, .int (x3 + 1))] [] (HS I L X)
        refine Wp.sub [0, 1, 2, 3] (ls2 := [(0, .ref 0), (1, .int x1), (2, .int x2), (3, .int (x3 + 1))]) rfl ?_
        exact ih _ _ _ _ _ q
      · have c2 : ((I 130 x2.toNatClampNeg) ^^^ (I 130 x3.toNatClampNeg)) &&& x1 = 0 := c2
        rw [if_pos c2] at q
        refine w_iconst (Ev.cm _) rfl ?_
        refine w_ireturn (Ev.cm _) rfl (by first | exact rok_0 | exact rok_1 | exact rok_b) rf0 ?_
        cases q
        exact g
def LO_X_tellsAllApart_2 (fu : Nat) : Nat → Int32 → Int32 → (Nat → Nat → Int32) → (Nat → Nat → Int64) → Option (Int32 × (Nat → Nat → Int32) × (Nat → Nat → Int64))
  | 0, _, _, _, _ => none
  | n + 1, x1, x2, I, L => if F_X_tenants I  ≤ x2 then (some (1, I, L)) else (LO_X_tellsAllApart_12 fu (fun x1 x2 I L => LO_X_tellsAllApart_2 fu n x1 x2 I L) fu x1 x2 0 I L)
set_option maxHeartbeats 20000000 in
set_option maxRecDepth 20000 in
theorem lo_X_tellsAllApart_2 {d fu n0 s0 : Nat} {X : Nat × (Nat → Int32)} {Q : PQ} {res : Int32 × (Nat → Nat → Int32) × (Nat → Nat → Int64)}  (g : Q (some (.int res.1)) (HS res.2.1 res.2.2 X)) : ∀ (n : Nat) (x1 : Int32) (x2 : Int32) (I : Nat → Nat → Int32) (L : Nat → Nat → Int64), LO_X_tellsAllApart_2 fu n x1 x2 I L = some res → Wp (Ev (d + 2)) cd_X_tellsAllApart (0, 0) (some .boolean) n0 s0 Q 2 [(0, .ref 0), (1, .int x1), (2, .int x2)] [] (HS I L X) := by
  intro n
  induction n with
  | zero => intro _ _ _ _ q; cases q
  | succ n ih =>
    intro x1 x2 I L q
    unfold LO_X_tellsAllApart_2 at q
    refine w_iload_n (Ev.cm _) rfl rfl ?_
    refine w_aload_n (Ev.cm _) rfl rfl ?_
    refine w_cvirt (o := 0) (as := []) (st := [.int x2]) (Ev.cm _) rfl rfl rfl (Nat.le_of_ble_eq_true rfl) (Nat.le_of_ble_eq_true rfl) rfl (Nat.le_of_ble_eq_true rfl) (e_X_tenants ?_)
    show Wp _ _ _ _ _ _ _ 7 [(0, .ref 0), (1, .int x1), (2, .int x2)] [.int (F_X_tenants I ), .int x2] (HS I L X)
    refine w_icmp_ge (Ev.cm _) rfl (fun c1 => ?_) (fun c1 => ?_)
    · have c1 : F_X_tenants I  ≤ x2 := c1
      rw [if_pos c1] at q
      refine w_iconst (Ev.cm _) rfl ?_
      refine w_ireturn (Ev.cm _) rfl (by first | exact rok_0 | exact rok_1 | exact rok_b) rf0 ?_
      cases q
      exact g
    · have c1 : ¬ (F_X_tenants I  ≤ x2) := c1
      rw [if_neg c1] at q
      refine w_iconst (Ev.cm _) rfl ?_
      refine w_istore_n (ls2 := [(0, .ref 0), (1, .int x1), (2, .int x2), (3, .int 0)]) (Ev.cm _) rfl rfl ?_
      show Wp _ _ _ _ _ _ _ 12 [(0, .ref 0), (1, .int x1), (2, .int x2), (3, .int 0)] [] (HS I L X)
      refine Wp.sub [0, 1, 2, 3] (ls2 := [(0, .ref 0), (1, .int x1), (2, .int x2), (3, .int 0)]) rfl ?_
      exact lo_X_tellsAllApart_12 g (fun x1 x2 I L q => ih x1 x2 I L q) fu _ _ _ _ _ q
def FO_X_tellsAllApart (fu : Nat) (p0 : Int32) (I : Nat → Nat → Int32) (L : Nat → Nat → Int64) : Option (Int32 × (Nat → Nat → Int32) × (Nat → Nat → Int64)) := LO_X_tellsAllApart_2 fu fu p0 0 I L
set_option maxHeartbeats 20000000 in
set_option maxRecDepth 20000 in
theorem eo_X_tellsAllApart {d fu : Nat} {p0 : Int32} {I : Nat → Nat → Int32} {L : Nat → Nat → Int64} {X : Nat × (Nat → Int32)} {Q : PQ} {res : Int32 × (Nat → Nat → Int32) × (Nat → Nat → Int64)}  (g : Q (some (.int res.1)) (HS res.2.1 res.2.2 X)) (q : FO_X_tellsAllApart fu p0 I L = some res) : Ev (d + 3) m_X_tellsAllApart [.ref 0, .int p0] (HS I L X) Q := by
  unfold FO_X_tellsAllApart at q
  refine ev_start (d := d + 2) rfl rfl rfl (Nat.le_of_ble_eq_true rfl) ?_
  show Wp (Ev (d + 2)) cd_X_tellsAllApart (0, 0) (some .boolean) _ _ Q 0 [(0, .ref 0), (1, .int p0)] [] (HS I L X)
  refine w_iconst (Ev.cm _) rfl ?_
  refine w_istore_n (ls2 := [(0, .ref 0), (1, .int p0), (2, .int 0)]) (Ev.cm _) rfl rfl ?_
  show Wp _ _ _ _ _ _ _ 2 [(0, .ref 0), (1, .int p0), (2, .int 0)] [] (HS I L X)
  refine Wp.sub [0, 1, 2] (ls2 := [(0, .ref 0), (1, .int p0), (2, .int 0)]) rfl ?_
  exact lo_X_tellsAllApart_2 g fu _ _ _ _ q
def LO_X_takeLightest_4 (fu : Nat) : Nat → Int32 → Int32 → Int32 → (Nat → Nat → Int32) → (Nat → Nat → Int64) → Option (Int32 × (Nat → Nat → Int32) × (Nat → Nat → Int64))
  | 0, _, _, _, _, _ => none
  | n + 1, x1, x2, x3, I, L => if x1 ≤ x3 then (if 0 ≤ x2 ∧ x2 < 6 then (if (1 : Int32) ≤ x1 ∧ x1 ≤ (6 : Int32) then (if 0 ≤ x1 - 1 ∧ x1 - 1 < 6 then (if 0 ≤ x2 ∧ x2 < 6 then (some (I 330 x2.toNatClampNeg, sI I 330 x2.toNatClampNeg (I 330 ((x1 - 1).toNatClampNeg)), L)) else none) else none) else (some (I 330 x2.toNatClampNeg, I, L))) else none) else (if 6 ≤ x3 then (if 0 ≤ x2 ∧ x2 < 6 then (if (1 : Int32) ≤ x1 ∧ x1 ≤ (6 : Int32) then (if 0 ≤ x1 - 1 ∧ x1 - 1 < 6 then (if 0 ≤ x2 ∧ x2 < 6 then (some (I 330 x2.toNatClampNeg, sI I 330 x2.toNatClampNeg (I 330 ((x1 - 1).toNatClampNeg)), L)) else none) else none) else (some (I 330 x2.toNatClampNeg, I, L))) else none) else (if 0 ≤ x3 ∧ x3 < 6 then (if 0 ≤ x2 ∧ x2 < 6 then (if I 330 x2.toNatClampNeg ≤ I 330 x3.toNatClampNeg then (LO_X_takeLightest_4 fu n x1 x2 (x3 + 1) I L) else (LO_X_takeLightest_4 fu n x1 x3 (x3 + 1) I L)) else none) else none))
set_option maxHeartbeats 20000000 in
set_option maxRecDepth 20000 in
theorem lo_X_takeLightest_4 {d fu n0 s0 : Nat} {X : Nat × (Nat → Int32)} {Q : PQ} {res : Int32 × (Nat → Nat → Int32) × (Nat → Nat → Int64)}  (g : Q (some (.int res.1)) (HS res.2.1 res.2.2 X)) : ∀ (n : Nat) (x1 : Int32) (x2 : Int32) (x3 : Int32) (I : Nat → Nat → Int32) (L : Nat → Nat → Int64), LO_X_takeLightest_4 fu n x1 x2 x3 I L = some res → Wp (Ev (d + 1)) cd_X_takeLightest (0, 0) (some .int) n0 s0 Q 4 [(0, .ref 0), (1, .int x1), (2, .int x2), (3, .int x3)] [] (HS I L X) := by
  intro n
  induction n with
  | zero => intro _ _ _ _ _ q; cases q
  | succ n ih =>
    intro x1 x2 x3 I L q
    unfold LO_X_takeLightest_4 at q
    refine w_iload_n (Ev.cm _) rfl rfl ?_
    refine w_iload_n (Ev.cm _) rfl rfl ?_
    refine w_icmp_ge (Ev.cm _) rfl (fun c1 => ?_) (fun c1 => ?_)
    · have c1 : x1 ≤ x3 := c1
      rw [if_pos c1] at q
      refine w_aload_n (Ev.cm _) rfl rfl ?_
      refine w_getR (q := 330) (Ev.cm _) rfl (Nat.le_of_ble_eq_true rfl) rfl rfl ?_
      refine w_iload_n (Ev.cm _) rfl rfl ?_
      obtain ⟨b1, q⟩ := ois q
      refine w_iald (Ev.cm _) rfl (Nat.le_of_ble_eq_true rfl) rfl (show vp_in x2 6 from vpI 6 (by decide) b1.1 b1.2) ?_
      refine w_istore_n (ls2 := [(0, .ref 0), (1, .int x1), (2, .int x2), (3, .int (I 330 x2.toNatClampNeg))]) (Ev.cm _) rfl rfl ?_
      refine w_iload_n (Ev.cm _) rfl rfl ?_
      refine w_iconst (Ev.cm _) rfl ?_
      refine w_bipush (Ev.cm _) rfl ?_
      refine w_cstat (as := [.int x1, .int 1, .int 6]) (st := []) (Ev.cm _) rfl rfl rfl (Nat.le_of_ble_eq_true rfl) (Nat.le_of_ble_eq_true rfl) (x_within ?_)
      show Wp _ _ _ _ _ _ _ 52 [(0, .ref 0), (1, .int x1), (2, .int x2), (3, .int (I 330 x2.toNatClampNeg))] [.int (bI ((1 : Int32) ≤ x1 ∧ x1 ≤ (6 : Int32)))] (HS I L X)
      refine w_if_eq (Ev.cm _) rfl (fun c2 => ?_) (fun c2 => ?_)
      · have c2 : ¬ ((1 : Int32) ≤ x1 ∧ x1 ≤ (6 : Int32)) := bI_0.mp c2
        rw [if_neg c2] at q
        refine w_iload_n (Ev.cm _) rfl rfl ?_
        refine w_ireturn (Ev.cm _) rfl trivial rf0 ?_
        cases q
        exact g
      · have c2 : (1 : Int32) ≤ x1 ∧ x1 ≤ (6 : Int32) := bI_1.mp c2
        rw [if_pos c2] at q
        refine w_aload_n (Ev.cm _) rfl rfl ?_
        refine w_getR (q := 330) (Ev.cm _) rfl (Nat.le_of_ble_eq_true rfl) rfl rfl ?_
        refine w_iload_n (Ev.cm _) rfl rfl ?_
        refine w_aload_n (Ev.cm _) rfl rfl ?_
        refine w_getR (q := 330) (Ev.cm _) rfl (Nat.le_of_ble_eq_true rfl) rfl rfl ?_
        refine w_iload_n (Ev.cm _) rfl rfl ?_
        refine w_iconst (Ev.cm _) rfl ?_
        refine w_isub (Ev.cm _) rfl ?_
        obtain ⟨b2, q⟩ := ois q
        refine w_iald (Ev.cm _) rfl (Nat.le_of_ble_eq_true rfl) rfl (show vp_in (x1 - 1) 6 from vpI 6 (by decide) b2.1 b2.2) ?_
        obtain ⟨b3, q⟩ := ois q
        refine w_iast (Ev.cm _) rfl (Nat.le_of_ble_eq_true rfl) rfl (show vp_in x2 6 from vpI 6 (by decide) b3.1 b3.2) ?_
        refine w_iload_n (Ev.cm _) rfl rfl ?_
        refine w_ireturn (Ev.cm _) rfl trivial rf0 ?_
        cases q
        exact g
    · have c1 : ¬ (x1 ≤ x3) := c1
      rw [if_neg c1] at q
      refine w_iload_n (Ev.cm _) rfl rfl ?_
      refine w_bipush (Ev.cm _) rfl ?_
      refine w_icmp_ge (Ev.cm _) rfl (fun c3 => ?_) (fun c3 => ?_)
      · have c3 : 6 ≤ x3 := c3
        rw [if_pos c3] at q
        refine w_aload_n (Ev.cm _) rfl rfl ?_
        refine w_getR (q := 330) (Ev.cm _) rfl (Nat.le_of_ble_eq_true rfl) rfl rfl ?_
        refine w_iload_n (Ev.cm _) rfl rfl ?_
        obtain ⟨b4, q⟩ := ois q
        refine w_iald (Ev.cm _) rfl (Nat.le_of_ble_eq_true rfl) rfl (show vp_in x2 6 from vpI 6 (by decide) b4.1 b4.2) ?_
        refine w_istore_n (ls2 := [(0, .ref 0), (1, .int x1), (2, .int x2), (3, .int (I 330 x2.toNatClampNeg))]) (Ev.cm _) rfl rfl ?_
        refine w_iload_n (Ev.cm _) rfl rfl ?_
        refine w_iconst (Ev.cm _) rfl ?_
        refine w_bipush (Ev.cm _) rfl ?_
        refine w_cstat (as := [.int x1, .int 1, .int 6]) (st := []) (Ev.cm _) rfl rfl rfl (Nat.le_of_ble_eq_true rfl) (Nat.le_of_ble_eq_true rfl) (x_within ?_)
        show Wp _ _ _ _ _ _ _ 52 [(0, .ref 0), (1, .int x1), (2, .int x2), (3, .int (I 330 x2.toNatClampNeg))] [.int (bI ((1 : Int32) ≤ x1 ∧ x1 ≤ (6 : Int32)))] (HS I L X)
        refine w_if_eq (Ev.cm _) rfl (fun c4 => ?_) (fun c4 => ?_)
        · have c4 : ¬ ((1 : Int32) ≤ x1 ∧ x1 ≤ (6 : Int32)) := bI_0.mp c4
          rw [if_neg c4] at q
          refine w_iload_n (Ev.cm _) rfl rfl ?_
          refine w_ireturn (Ev.cm _) rfl trivial rf0 ?_
          cases q
          exact g
        · have c4 : (1 : Int32) ≤ x1 ∧ x1 ≤ (6 : Int32) := bI_1.mp c4
          rw [if_pos c4] at q
          refine w_aload_n (Ev.cm _) rfl rfl ?_
          refine w_getR (q := 330) (Ev.cm _) rfl (Nat.le_of_ble_eq_true rfl) rfl rfl ?_
          refine w_iload_n (Ev.cm _) rfl rfl ?_
          refine w_aload_n (Ev.cm _) rfl rfl ?_
          refine w_getR (q := 330) (Ev.cm _) rfl (Nat.le_of_ble_eq_true rfl) rfl rfl ?_
          refine w_iload_n (Ev.cm _) rfl rfl ?_
          refine w_iconst (Ev.cm _) rfl ?_
          refine w_isub (Ev.cm _) rfl ?_
          obtain ⟨b5, q⟩ := ois q
          refine w_iald (Ev.cm _) rfl (Nat.le_of_ble_eq_true rfl) rfl (show vp_in (x1 - 1) 6 from vpI 6 (by decide) b5.1 b5.2) ?_
          obtain ⟨b6, q⟩ := ois q
          refine w_iast (Ev.cm _) rfl (Nat.le_of_ble_eq_true rfl) rfl (show vp_in x2 6 from vpI 6 (by decide) b6.1 b6.2) ?_
          refine w_iload_n (Ev.cm _) rfl rfl ?_
          refine w_ireturn (Ev.cm _) rfl trivial rf0 ?_
          cases q
          exact g
      · have c3 : ¬ (6 ≤ x3) := c3
        rw [if_neg c3] at q
        refine w_aload_n (Ev.cm _) rfl rfl ?_
        refine w_getR (q := 330) (Ev.cm _) rfl (Nat.le_of_ble_eq_true rfl) rfl rfl ?_
        refine w_iload_n (Ev.cm _) rfl rfl ?_
        obtain ⟨b7, q⟩ := ois q
        refine w_iald (Ev.cm _) rfl (Nat.le_of_ble_eq_true rfl) rfl (show vp_in x3 6 from vpI 6 (by decide) b7.1 b7.2) ?_
        refine w_aload_n (Ev.cm _) rfl rfl ?_
        refine w_getR (q := 330) (Ev.cm _) rfl (Nat.le_of_ble_eq_true rfl) rfl rfl ?_
        refine w_iload_n (Ev.cm _) rfl rfl ?_
        obtain ⟨b8, q⟩ := ois q
        refine w_iald (Ev.cm _) rfl (Nat.le_of_ble_eq_true rfl) rfl (show vp_in x2 6 from vpI 6 (by decide) b8.1 b8.2) ?_
        refine w_icmp_ge (Ev.cm _) rfl (fun c5 => ?_) (fun c5 => ?_)
        · have c5 : I 330 x2.toNatClampNeg ≤ I 330 x3.toNatClampNeg := c5
          rw [if_pos c5] at q
          refine w_iinc (ls2 := [(0, .ref 0), (1, .int x1), (2, .int x2), (3, .int (x3 + 1))]) (Ev.cm _) rfl rfl rfl ?_
          refine w_goto (Ev.cm _) rfl ?_
          show Wp _ _ _ _ _ _ _ 4 [(0, .ref 0), (1, .int x1), (2, .int x2), (3, .int (x3 + 1))] [] (HS I L X)
          refine Wp.sub [0, 1, 2, 3] (ls2 := [(0, .ref 0), (1, .int x1), (2, .int x2), (3, .int (x3 + 1))]) rfl ?_
          exact ih _ _ _ _ _ q
        · have c5 : ¬ (I 330 x2.toNatClampNeg ≤ I 330 x3.toNatClampNeg) := c5
          rw [if_neg c5] at q
          refine w_iload_n (Ev.cm _) rfl rfl ?_
          refine w_istore_n (ls2 := [(0, .ref 0), (1, .int x1), (2, .int x3), (3, .int x3)]) (Ev.cm _) rfl rfl ?_
          refine w_iinc (ls2 := [(0, .ref 0), (1, .int x1), (2, .int x3), (3, .int (x3 + 1))]) (Ev.cm _) rfl rfl rfl ?_
          refine w_goto (Ev.cm _) rfl ?_
          show Wp _ _ _ _ _ _ _ 4 [(0, .ref 0), (1, .int x1), (2, .int x3), (3, .int (x3 + 1))] [] (HS I L X)
          refine Wp.sub [0, 1, 2, 3] (ls2 := [(0, .ref 0), (1, .int x1), (2, .int x3), (3, .int (x3 + 1))]) rfl ?_
          exact ih _ _ _ _ _ q
def FO_X_takeLightest (fu : Nat) (p0 : Int32) (I : Nat → Nat → Int32) (L : Nat → Nat → Int64) : Option (Int32 × (Nat → Nat → Int32) × (Nat → Nat → Int64)) := LO_X_takeLightest_4 fu fu p0 0 1 I L
set_option maxHeartbeats 20000000 in
set_option maxRecDepth 20000 in
theorem eo_X_takeLightest {d fu : Nat} {p0 : Int32} {I : Nat → Nat → Int32} {L : Nat → Nat → Int64} {X : Nat × (Nat → Int32)} {Q : PQ} {res : Int32 × (Nat → Nat → Int32) × (Nat → Nat → Int64)}  (g : Q (some (.int res.1)) (HS res.2.1 res.2.2 X)) (q : FO_X_takeLightest fu p0 I L = some res) : Ev (d + 2) m_X_takeLightest [.ref 0, .int p0] (HS I L X) Q := by
  unfold FO_X_takeLightest at q
  refine ev_start (d := d + 1) rfl rfl rfl (Nat.le_of_ble_eq_true rfl) ?_
  show Wp (Ev (d + 1)) cd_X_takeLightest (0, 0) (some .int) _ _ Q 0 [(0, .ref 0), (1, .int p0)] [] (HS I L X)
  refine w_iconst (Ev.cm _) rfl ?_
  refine w_istore_n (ls2 := [(0, .ref 0), (1, .int p0), (2, .int 0)]) (Ev.cm _) rfl rfl ?_
  refine w_iconst (Ev.cm _) rfl ?_
  refine w_istore_n (ls2 := [(0, .ref 0), (1, .int p0), (2, .int 0), (3, .int 1)]) (Ev.cm _) rfl rfl ?_
  show Wp _ _ _ _ _ _ _ 4 [(0, .ref 0), (1, .int p0), (2, .int 0), (3, .int 1)] [] (HS I L X)
  refine Wp.sub [0, 1, 2, 3] (ls2 := [(0, .ref 0), (1, .int p0), (2, .int 0), (3, .int 1)]) rfl ?_
  exact lo_X_takeLightest_4 g fu _ _ _ _ _ q
def LO_X_mostOf_3_7 (fu : Nat) : Nat → Int32 → Int32 → Int32 → (Nat → Nat → Int32) → (Nat → Nat → Int64) → Option (Int32 × (Nat → Nat → Int32) × (Nat → Nat → Int64))
  | 0, _, _, _, _, _ => none
  | n + 1, x2, x3, x4, I, L => if F_X_tenants I  ≤ x4 then (some (x3, I, L)) else (if 6 ≤ x4 then (some (x3, I, L)) else (if 0 ≤ x4 ∧ x4 < 6 then (if I 3 x4.toNatClampNeg ≤ x2 then (LO_X_mostOf_3_7 fu n x2 x3 (x4 + 1) I L) else (if 0 ≤ x4 ∧ x4 < 6 then (LO_X_mostOf_3_7 fu n (I 3 x4.toNatClampNeg) x4 (x4 + 1) I L) else none)) else none))
set_option maxHeartbeats 20000000 in
set_option maxRecDepth 20000 in
theorem lo_X_mostOf_3_7 {d fu n0 s0 : Nat} {X : Nat × (Nat → Int32)} {Q : PQ} {res : Int32 × (Nat → Nat → Int32) × (Nat → Nat → Int64)}  (g : Q (some (.int res.1)) (HS res.2.1 res.2.2 X)) : ∀ (n : Nat) (x2 : Int32) (x3 : Int32) (x4 : Int32) (I : Nat → Nat → Int32) (L : Nat → Nat → Int64), LO_X_mostOf_3_7 fu n x2 x3 x4 I L = some res → Wp (Ev (d + 2)) cd_X_mostOf (0, 0) (some .int) n0 s0 Q 7 [(0, .ref 0), (1, .ref 3), (2, .int x2), (3, .int x3), (4, .int x4)] [] (HS I L X) := by
  intro n
  induction n with
  | zero => intro _ _ _ _ _ q; cases q
  | succ n ih =>
    intro x2 x3 x4 I L q
    unfold LO_X_mostOf_3_7 at q
    refine w_iload (Ev.cm _) rfl rfl ?_
    refine w_aload_n (Ev.cm _) rfl rfl ?_
    refine w_cvirt (o := 0) (as := []) (st := [.int x4]) (Ev.cm _) rfl rfl rfl (Nat.le_of_ble_eq_true rfl) (Nat.le_of_ble_eq_true rfl) rfl (Nat.le_of_ble_eq_true rfl) (e_X_tenants ?_)
    show Wp _ _ _ _ _ _ _ 13 [(0, .ref 0), (1, .ref 3), (2, .int x2), (3, .int x3), (4, .int x4)] [.int (F_X_tenants I ), .int x4] (HS I L X)
    refine w_icmp_ge (Ev.cm _) rfl (fun c1 => ?_) (fun c1 => ?_)
    · have c1 : F_X_tenants I  ≤ x4 := c1
      rw [if_pos c1] at q
      refine w_iload_n (Ev.cm _) rfl rfl ?_
      refine w_ireturn (Ev.cm _) rfl trivial rf0 ?_
      cases q
      exact g
    · have c1 : ¬ (F_X_tenants I  ≤ x4) := c1
      rw [if_neg c1] at q
      refine w_iload (Ev.cm _) rfl rfl ?_
      refine w_aload_n (Ev.cm _) rfl rfl ?_
      refine w_alen (Ev.cm _) rfl (Nat.le_of_ble_eq_true rfl) (Nat.le_of_ble_eq_true rfl) (Nat.le_of_ble_eq_true rfl) ?_
      refine w_icmp_ge (Ev.cm _) rfl (fun c2 => ?_) (fun c2 => ?_)
      · have c2 : 6 ≤ x4 := c2
        rw [if_pos c2] at q
        refine w_iload_n (Ev.cm _) rfl rfl ?_
        refine w_ireturn (Ev.cm _) rfl trivial rf0 ?_
        cases q
        exact g
      · have c2 : ¬ (6 ≤ x4) := c2
        rw [if_neg c2] at q
        refine w_aload_n (Ev.cm _) rfl rfl ?_
        refine w_iload (Ev.cm _) rfl rfl ?_
        obtain ⟨b1, q⟩ := ois q
        refine w_iald (Ev.cm _) rfl (Nat.le_of_ble_eq_true rfl) rfl (show vp_in x4 6 from vpI 6 (by decide) b1.1 b1.2) ?_
        refine w_iload_n (Ev.cm _) rfl rfl ?_
        refine w_icmp_le (Ev.cm _) rfl (fun c3 => ?_) (fun c3 => ?_)
        · have c3 : I 3 x4.toNatClampNeg ≤ x2 := c3
          rw [if_pos c3] at q
          refine w_iinc (ls2 := [(0, .ref 0), (1, .ref 3), (2, .int x2), (3, .int x3), (4, .int (x4 + 1))]) (Ev.cm _) rfl rfl rfl ?_
          refine w_goto (Ev.cm _) rfl ?_
          show Wp _ _ _ _ _ _ _ 7 [(0, .ref 0), (1, .ref 3), (2, .int x2), (3, .int x3), (4, .int (x4 + 1))] [] (HS I L X)
          refine Wp.sub [0, 1, 2, 3, 4] (ls2 := [(0, .ref 0), (1, .ref 3), (2, .int x2), (3, .int x3), (4, .int (x4 + 1))]) rfl ?_
          exact ih _ _ _ _ _ q
        · have c3 : ¬ (I 3 x4.toNatClampNeg ≤ x2) := c3
          rw [if_neg c3] at q
          refine w_aload_n (Ev.cm _) rfl rfl ?_
          refine w_iload (Ev.cm _) rfl rfl ?_
          obtain ⟨b2, q⟩ := ois q
          refine w_iald (Ev.cm _) rfl (Nat.le_of_ble_eq_true rfl) rfl (show vp_in x4 6 from vpI 6 (by decide) b2.1 b2.2) ?_
          refine w_istore_n (ls2 := [(0, .ref 0), (1, .ref 3), (2, .int (I 3 x4.toNatClampNeg)), (3, .int x3), (4, .int x4)]) (Ev.cm _) rfl rfl ?_
          refine w_iload (Ev.cm _) rfl rfl ?_
          refine w_istore_n (ls2 := [(0, .ref 0), (1, .ref 3), (2, .int (I 3 x4.toNatClampNeg)), (3, .int x4), (4, .int x4)]) (Ev.cm _) rfl rfl ?_
          refine w_iinc (ls2 := [(0, .ref 0), (1, .ref 3), (2, .int (I 3 x4.toNatClampNeg)), (3, .int x4), (4, .int (x4 + 1))]) (Ev.cm _) rfl rfl rfl ?_
          refine w_goto (Ev.cm _) rfl ?_
          show Wp _ _ _ _ _ _ _ 7 [(0, .ref 0), (1, .ref 3), (2, .int (I 3 x4.toNatClampNeg)), (3, .int x4), (4, .int (x4 + 1))] [] (HS I L X)
          refine Wp.sub [0, 1, 2, 3, 4] (ls2 := [(0, .ref 0), (1, .ref 3), (2, .int (I 3 x4.toNatClampNeg)), (3, .int x4), (4, .int (x4 + 1))]) rfl ?_
          exact ih _ _ _ _ _ q
def FO_X_mostOf_3 (fu : Nat) (I : Nat → Nat → Int32) (L : Nat → Nat → Int64) : Option (Int32 × (Nat → Nat → Int32) × (Nat → Nat → Int64)) := LO_X_mostOf_3_7 fu fu 0 (-1) 0 I L
set_option maxHeartbeats 20000000 in
set_option maxRecDepth 20000 in
theorem eo_X_mostOf_3 {d fu : Nat} {I : Nat → Nat → Int32} {L : Nat → Nat → Int64} {X : Nat × (Nat → Int32)} {Q : PQ} {res : Int32 × (Nat → Nat → Int32) × (Nat → Nat → Int64)}  (g : Q (some (.int res.1)) (HS res.2.1 res.2.2 X)) (q : FO_X_mostOf_3 fu  I L = some res) : Ev (d + 3) m_X_mostOf [.ref 0, .ref 3] (HS I L X) Q := by
  unfold FO_X_mostOf_3 at q
  refine ev_start (d := d + 2) rfl rfl rfl (Nat.le_of_ble_eq_true rfl) ?_
  show Wp (Ev (d + 2)) cd_X_mostOf (0, 0) (some .int) _ _ Q 0 [(0, .ref 0), (1, .ref 3)] [] (HS I L X)
  refine w_iconst (Ev.cm _) rfl ?_
  refine w_istore_n (ls2 := [(0, .ref 0), (1, .ref 3), (2, .int 0)]) (Ev.cm _) rfl rfl ?_
  refine w_iconst (Ev.cm _) rfl ?_
  refine w_istore_n (ls2 := [(0, .ref 0), (1, .ref 3), (2, .int 0), (3, .int (-1))]) (Ev.cm _) rfl rfl ?_
  refine w_iconst (Ev.cm _) rfl ?_
  refine w_istore (ls2 := [(0, .ref 0), (1, .ref 3), (2, .int 0), (3, .int (-1)), (4, .int 0)]) (Ev.cm _) rfl rfl ?_
  show Wp _ _ _ _ _ _ _ 7 [(0, .ref 0), (1, .ref 3), (2, .int 0), (3, .int (-1)), (4, .int 0)] [] (HS I L X)
  refine Wp.sub [0, 1, 2, 3, 4] (ls2 := [(0, .ref 0), (1, .ref 3), (2, .int 0), (3, .int (-1)), (4, .int 0)]) rfl ?_
  exact lo_X_mostOf_3_7 g fu _ _ _ _ _ q
def LO_X_mostOf_4_7 (fu : Nat) : Nat → Int32 → Int32 → Int32 → (Nat → Nat → Int32) → (Nat → Nat → Int64) → Option (Int32 × (Nat → Nat → Int32) × (Nat → Nat → Int64))
  | 0, _, _, _, _, _ => none
  | n + 1, x2, x3, x4, I, L => if F_X_tenants I  ≤ x4 then (some (x3, I, L)) else (if 6 ≤ x4 then (some (x3, I, L)) else (if 0 ≤ x4 ∧ x4 < 6 then (if I 4 x4.toNatClampNeg ≤ x2 then (LO_X_mostOf_4_7 fu n x2 x3 (x4 + 1) I L) else (if 0 ≤ x4 ∧ x4 < 6 then (LO_X_mostOf_4_7 fu n (I 4 x4.toNatClampNeg) x4 (x4 + 1) I L) else none)) else none))
set_option maxHeartbeats 20000000 in
set_option maxRecDepth 20000 in
theorem lo_X_mostOf_4_7 {d fu n0 s0 : Nat} {X : Nat × (Nat → Int32)} {Q : PQ} {res : Int32 × (Nat → Nat → Int32) × (Nat → Nat → Int64)}  (g : Q (some (.int res.1)) (HS res.2.1 res.2.2 X)) : ∀ (n : Nat) (x2 : Int32) (x3 : Int32) (x4 : Int32) (I : Nat → Nat → Int32) (L : Nat → Nat → Int64), LO_X_mostOf_4_7 fu n x2 x3 x4 I L = some res → Wp (Ev (d + 2)) cd_X_mostOf (0, 0) (some .int) n0 s0 Q 7 [(0, .ref 0), (1, .ref 4), (2, .int x2), (3, .int x3), (4, .int x4)] [] (HS I L X) := by
  intro n
  induction n with
  | zero => intro _ _ _ _ _ q; cases q
  | succ n ih =>
    intro x2 x3 x4 I L q
    unfold LO_X_mostOf_4_7 at q
    refine w_iload (Ev.cm _) rfl rfl ?_
    refine w_aload_n (Ev.cm _) rfl rfl ?_
    refine w_cvirt (o := 0) (as := []) (st := [.int x4]) (Ev.cm _) rfl rfl rfl (Nat.le_of_ble_eq_true rfl) (Nat.le_of_ble_eq_true rfl) rfl (Nat.le_of_ble_eq_true rfl) (e_X_tenants ?_)
    show Wp _ _ _ _ _ _ _ 13 [(0, .ref 0), (1, .ref 4), (2, .int x2), (3, .int x3), (4, .int x4)] [.int (F_X_tenants I ), .int x4] (HS I L X)
    refine w_icmp_ge (Ev.cm _) rfl (fun c1 => ?_) (fun c1 => ?_)
    · have c1 : F_X_tenants I  ≤ x4 := c1
      rw [if_pos c1] at q
      refine w_iload_n (Ev.cm _) rfl rfl ?_
      refine w_ireturn (Ev.cm _) rfl trivial rf0 ?_
      cases q
      exact g
    · have c1 : ¬ (F_X_tenants I  ≤ x4) := c1
      rw [if_neg c1] at q
      refine w_iload (Ev.cm _) rfl rfl ?_
      refine w_aload_n (Ev.cm _) rfl rfl ?_
      refine w_alen (Ev.cm _) rfl (Nat.le_of_ble_eq_true rfl) (Nat.le_of_ble_eq_true rfl) (Nat.le_of_ble_eq_true rfl) ?_
      refine w_icmp_ge (Ev.cm _) rfl (fun c2 => ?_) (fun c2 => ?_)
      · have c2 : 6 ≤ x4 := c2
        rw [if_pos c2] at q
        refine w_iload_n (Ev.cm _) rfl rfl ?_
        refine w_ireturn (Ev.cm _) rfl trivial rf0 ?_
        cases q
        exact g
      · have c2 : ¬ (6 ≤ x4) := c2
        rw [if_neg c2] at q
        refine w_aload_n (Ev.cm _) rfl rfl ?_
        refine w_iload (Ev.cm _) rfl rfl ?_
        obtain ⟨b1, q⟩ := ois q
        refine w_iald (Ev.cm _) rfl (Nat.le_of_ble_eq_true rfl) rfl (show vp_in x4 6 from vpI 6 (by decide) b1.1 b1.2) ?_
        refine w_iload_n (Ev.cm _) rfl rfl ?_
        refine w_icmp_le (Ev.cm _) rfl (fun c3 => ?_) (fun c3 => ?_)
        · have c3 : I 4 x4.toNatClampNeg ≤ x2 := c3
          rw [if_pos c3] at q
          refine w_iinc (ls2 := [(0, .ref 0), (1, .ref 4), (2, .int x2), (3, .int x3), (4, .int (x4 + 1))]) (Ev.cm _) rfl rfl rfl ?_
          refine w_goto (Ev.cm _) rfl ?_
          show Wp _ _ _ _ _ _ _ 7 [(0, .ref 0), (1, .ref 4), (2, .int x2), (3, .int x3), (4, .int (x4 + 1))] [] (HS I L X)
          refine Wp.sub [0, 1, 2, 3, 4] (ls2 := [(0, .ref 0), (1, .ref 4), (2, .int x2), (3, .int x3), (4, .int (x4 + 1))]) rfl ?_
          exact ih _ _ _ _ _ q
        · have c3 : ¬ (I 4 x4.toNatClampNeg ≤ x2) := c3
          rw [if_neg c3] at q
          refine w_aload_n (Ev.cm _) rfl rfl ?_
          refine w_iload (Ev.cm _) rfl rfl ?_
          obtain ⟨b2, q⟩ := ois q
          refine w_iald (Ev.cm _) rfl (Nat.le_of_ble_eq_true rfl) rfl (show vp_in x4 6 from vpI 6 (by decide) b2.1 b2.2) ?_
          refine w_istore_n (ls2 := [(0, .ref 0), (1, .ref 4), (2, .int (I 4 x4.toNatClampNeg)), (3, .int x3), (4, .int x4)]) (Ev.cm _) rfl rfl ?_
          refine w_iload (Ev.cm _) rfl rfl ?_
          refine w_istore_n (ls2 := [(0, .ref 0), (1, .ref 4), (2, .int (I 4 x4.toNatClampNeg)), (3, .int x4), (4, .int x4)]) (Ev.cm _) rfl rfl ?_
          refine w_iinc (ls2 := [(0, .ref 0), (1, .ref 4), (2, .int (I 4 x4.toNatClampNeg)), (3, .int x4), (4, .int (x4 + 1))]) (Ev.cm _) rfl rfl rfl ?_
          refine w_goto (Ev.cm _) rfl ?_
          show Wp _ _ _ _ _ _ _ 7 [(0, .ref 0), (1, .ref 4), (2, .int (I 4 x4.toNatClampNeg)), (3, .int x4), (4, .int (x4 + 1))] [] (HS I L X)
          refine Wp.sub [0, 1, 2, 3, 4] (ls2 := [(0, .ref 0), (1, .ref 4), (2, .int (I 4 x4.toNatClampNeg)), (3, .int x4), (4, .int (x4 + 1))]) rfl ?_
          exact ih _ _ _ _ _ q
def FO_X_mostOf_4 (fu : Nat) (I : Nat → Nat → Int32) (L : Nat → Nat → Int64) : Option (Int32 × (Nat → Nat → Int32) × (Nat → Nat → Int64)) := LO_X_mostOf_4_7 fu fu 0 (-1) 0 I L
set_option maxHeartbeats 20000000 in
set_option maxRecDepth 20000 in
theorem eo_X_mostOf_4 {d fu : Nat} {I : Nat → Nat → Int32} {L : Nat → Nat → Int64} {X : Nat × (Nat → Int32)} {Q : PQ} {res : Int32 × (Nat → Nat → Int32) × (Nat → Nat → Int64)}  (g : Q (some (.int res.1)) (HS res.2.1 res.2.2 X)) (q : FO_X_mostOf_4 fu  I L = some res) : Ev (d + 3) m_X_mostOf [.ref 0, .ref 4] (HS I L X) Q := by
  unfold FO_X_mostOf_4 at q
  refine ev_start (d := d + 2) rfl rfl rfl (Nat.le_of_ble_eq_true rfl) ?_
  show Wp (Ev (d + 2)) cd_X_mostOf (0, 0) (some .int) _ _ Q 0 [(0, .ref 0), (1, .ref 4)] [] (HS I L X)
  refine w_iconst (Ev.cm _) rfl ?_
  refine w_istore_n (ls2 := [(0, .ref 0), (1, .ref 4), (2, .int 0)]) (Ev.cm _) rfl rfl ?_
  refine w_iconst (Ev.cm _) rfl ?_
  refine w_istore_n (ls2 := [(0, .ref 0), (1, .ref 4), (2, .int 0), (3, .int (-1))]) (Ev.cm _) rfl rfl ?_
  refine w_iconst (Ev.cm _) rfl ?_
  refine w_istore (ls2 := [(0, .ref 0), (1, .ref 4), (2, .int 0), (3, .int (-1)), (4, .int 0)]) (Ev.cm _) rfl rfl ?_
  show Wp _ _ _ _ _ _ _ 7 [(0, .ref 0), (1, .ref 4), (2, .int 0), (3, .int (-1)), (4, .int 0)] [] (HS I L X)
  refine Wp.sub [0, 1, 2, 3, 4] (ls2 := [(0, .ref 0), (1, .ref 4), (2, .int 0), (3, .int (-1)), (4, .int 0)]) rfl ?_
  exact lo_X_mostOf_4_7 g fu _ _ _ _ _ q
def LO_M_copy_332_2 (fu : Nat) : Nat → Int32 → (Nat → Nat → Int32) → (Nat → Nat → Int64) → Option (Unit × (Nat → Nat → Int32) × (Nat → Nat → Int64))
  | 0, _, _, _ => none
  | n + 1, x2, I, L => if 1541 ≤ x2 then (some ((), I, L)) else (if 0 ≤ x2 ∧ x2 < 1541 then (if 0 ≤ x2 ∧ x2 < 1541 then (LO_M_copy_332_2 fu n (x2 + 1) (sI I 333 x2.toNatClampNeg (I 332 x2.toNatClampNeg)) L) else none) else none)
set_option maxHeartbeats 20000000 in
set_option maxRecDepth 20000 in
theorem lo_M_copy_332_2 {d fu n0 s0 : Nat} {X : Nat × (Nat → Int32)} {Q : PQ} {res : Unit × (Nat → Nat → Int32) × (Nat → Nat → Int64)}  (g : Q none (HS res.2.1 res.2.2 X)) : ∀ (n : Nat) (x2 : Int32) (I : Nat → Nat → Int32) (L : Nat → Nat → Int64), LO_M_copy_332_2 fu n x2 I L = some res → Wp (Ev (d + 0)) cd_M_copy (0, 0) none n0 s0 Q 2 [(0, .ref 332), (1, .ref 333), (2, .int x2)] [] (HS I L X) := by
  intro n
  induction n with
  | zero => intro _ _ _ q; cases q
  | succ n ih =>
    intro x2 I L q
    unfold LO_M_copy_332_2 at q
    refine w_iload_n (Ev.cm _) rfl rfl ?_
    refine w_sipush (Ev.cm _) rfl ?_
    refine w_icmp_ge (Ev.cm _) rfl (fun c1 => ?_) (fun c1 => ?_)
    · have c1 : 1541 ≤ x2 := c1
      rw [if_pos c1] at q
      refine w_return (Ev.cm _) rfl rfl rf0 ?_
      cases q
      exact g
    · have c1 : ¬ (1541 ≤ x2) := c1
      rw [if_neg c1] at q
      refine w_aload_n (Ev.cm _) rfl rfl ?_
      refine w_iload_n (Ev.cm _) rfl rfl ?_
      refine w_aload_n (Ev.cm _) rfl rfl ?_
      refine w_iload_n (Ev.cm _) rfl rfl ?_
      obtain ⟨b1, q⟩ := ois q
      refine w_iald (Ev.cm _) rfl (Nat.le_of_ble_eq_true rfl) rfl (show vp_in x2 1541 from vpI 1541 (by decide) b1.1 b1.2) ?_
      obtain ⟨b2, q⟩ := ois q
      refine w_iast (Ev.cm _) rfl (Nat.le_of_ble_eq_true rfl) rfl (show vp_in x2 1541 from vpI 1541 (by decide) b2.1 b2.2) ?_
      refine w_iinc (ls2 := [(0, .ref 332), (1, .ref 333), (2, .int (x2 + 1))]) (Ev.cm _) rfl rfl rfl ?_
      refine w_goto (Ev.cm _) rfl ?_
      show Wp _ _ _ _ _ _ _ 2 [(0, .ref 332), (1, .ref 333), (2, .int (x2 + 1))] [] (HS (sI I 333 x2.toNatClampNeg (I 332 x2.toNatClampNeg)) L X)
      refine Wp.sub [0, 1, 2] (ls2 := [(0, .ref 332), (1, .ref 333), (2, .int (x2 + 1))]) rfl ?_
      exact ih _ _ _ q
def FO_M_copy_332 (fu : Nat) (I : Nat → Nat → Int32) (L : Nat → Nat → Int64) : Option (Unit × (Nat → Nat → Int32) × (Nat → Nat → Int64)) := LO_M_copy_332_2 fu fu 0 I L
set_option maxHeartbeats 20000000 in
set_option maxRecDepth 20000 in
theorem eo_M_copy_332 {d fu : Nat} {I : Nat → Nat → Int32} {L : Nat → Nat → Int64} {X : Nat × (Nat → Int32)} {Q : PQ} {res : Unit × (Nat → Nat → Int32) × (Nat → Nat → Int64)}  (g : Q none (HS res.2.1 res.2.2 X)) (q : FO_M_copy_332 fu  I L = some res) : Ev (d + 1) m_M_copy [.ref 332, .ref 333] (HS I L X) Q := by
  unfold FO_M_copy_332 at q
  refine ev_start (d := d + 0) rfl rfl rfl (Nat.le_of_ble_eq_true rfl) ?_
  show Wp (Ev (d + 0)) cd_M_copy (0, 0) none _ _ Q 0 [(0, .ref 332), (1, .ref 333)] [] (HS I L X)
  refine w_iconst (Ev.cm _) rfl ?_
  refine w_istore_n (ls2 := [(0, .ref 332), (1, .ref 333), (2, .int 0)]) (Ev.cm _) rfl rfl ?_
  show Wp _ _ _ _ _ _ _ 2 [(0, .ref 332), (1, .ref 333), (2, .int 0)] [] (HS I L X)
  refine Wp.sub [0, 1, 2] (ls2 := [(0, .ref 332), (1, .ref 333), (2, .int 0)]) rfl ?_
  exact lo_M_copy_332_2 g fu _ _ _ q
def LO_M_copy_333_2 (fu : Nat) : Nat → Int32 → (Nat → Nat → Int32) → (Nat → Nat → Int64) → Option (Unit × (Nat → Nat → Int32) × (Nat → Nat → Int64))
  | 0, _, _, _ => none
  | n + 1, x2, I, L => if 1541 ≤ x2 then (some ((), I, L)) else (if 0 ≤ x2 ∧ x2 < 1541 then (if 0 ≤ x2 ∧ x2 < 1541 then (LO_M_copy_333_2 fu n (x2 + 1) (sI I 332 x2.toNatClampNeg (I 333 x2.toNatClampNeg)) L) else none) else none)
set_option maxHeartbeats 20000000 in
set_option maxRecDepth 20000 in
theorem lo_M_copy_333_2 {d fu n0 s0 : Nat} {X : Nat × (Nat → Int32)} {Q : PQ} {res : Unit × (Nat → Nat → Int32) × (Nat → Nat → Int64)}  (g : Q none (HS res.2.1 res.2.2 X)) : ∀ (n : Nat) (x2 : Int32) (I : Nat → Nat → Int32) (L : Nat → Nat → Int64), LO_M_copy_333_2 fu n x2 I L = some res → Wp (Ev (d + 0)) cd_M_copy (0, 0) none n0 s0 Q 2 [(0, .ref 333), (1, .ref 332), (2, .int x2)] [] (HS I L X) := by
  intro n
  induction n with
  | zero => intro _ _ _ q; cases q
  | succ n ih =>
    intro x2 I L q
    unfold LO_M_copy_333_2 at q
    refine w_iload_n (Ev.cm _) rfl rfl ?_
    refine w_sipush (Ev.cm _) rfl ?_
    refine w_icmp_ge (Ev.cm _) rfl (fun c1 => ?_) (fun c1 => ?_)
    · have c1 : 1541 ≤ x2 := c1
      rw [if_pos c1] at q
      refine w_return (Ev.cm _) rfl rfl rf0 ?_
      cases q
      exact g
    · have c1 : ¬ (1541 ≤ x2) := c1
      rw [if_neg c1] at q
      refine w_aload_n (Ev.cm _) rfl rfl ?_
      refine w_iload_n (Ev.cm _) rfl rfl ?_
      refine w_aload_n (Ev.cm _) rfl rfl ?_
      refine w_iload_n (Ev.cm _) rfl rfl ?_
      obtain ⟨b1, q⟩ := ois q
      refine w_iald (Ev.cm _) rfl (Nat.le_of_ble_eq_true rfl) rfl (show vp_in x2 1541 from vpI 1541 (by decide) b1.1 b1.2) ?_
      obtain ⟨b2, q⟩ := ois q
      refine w_iast (Ev.cm _) rfl (Nat.le_of_ble_eq_true rfl) rfl (show vp_in x2 1541 from vpI 1541 (by decide) b2.1 b2.2) ?_
      refine w_iinc (ls2 := [(0, .ref 333), (1, .ref 332), (2, .int (x2 + 1))]) (Ev.cm _) rfl rfl rfl ?_
      refine w_goto (Ev.cm _) rfl ?_
      show Wp _ _ _ _ _ _ _ 2 [(0, .ref 333), (1, .ref 332), (2, .int (x2 + 1))] [] (HS (sI I 332 x2.toNatClampNeg (I 333 x2.toNatClampNeg)) L X)
      refine Wp.sub [0, 1, 2] (ls2 := [(0, .ref 333), (1, .ref 332), (2, .int (x2 + 1))]) rfl ?_
      exact ih _ _ _ q
def FO_M_copy_333 (fu : Nat) (I : Nat → Nat → Int32) (L : Nat → Nat → Int64) : Option (Unit × (Nat → Nat → Int32) × (Nat → Nat → Int64)) := LO_M_copy_333_2 fu fu 0 I L
set_option maxHeartbeats 20000000 in
set_option maxRecDepth 20000 in
theorem eo_M_copy_333 {d fu : Nat} {I : Nat → Nat → Int32} {L : Nat → Nat → Int64} {X : Nat × (Nat → Int32)} {Q : PQ} {res : Unit × (Nat → Nat → Int32) × (Nat → Nat → Int64)}  (g : Q none (HS res.2.1 res.2.2 X)) (q : FO_M_copy_333 fu  I L = some res) : Ev (d + 1) m_M_copy [.ref 333, .ref 332] (HS I L X) Q := by
  unfold FO_M_copy_333 at q
  refine ev_start (d := d + 0) rfl rfl rfl (Nat.le_of_ble_eq_true rfl) ?_
  show Wp (Ev (d + 0)) cd_M_copy (0, 0) none _ _ Q 0 [(0, .ref 333), (1, .ref 332)] [] (HS I L X)
  refine w_iconst (Ev.cm _) rfl ?_
  refine w_istore_n (ls2 := [(0, .ref 333), (1, .ref 332), (2, .int 0)]) (Ev.cm _) rfl rfl ?_
  show Wp _ _ _ _ _ _ _ 2 [(0, .ref 333), (1, .ref 332), (2, .int 0)] [] (HS I L X)
  refine Wp.sub [0, 1, 2] (ls2 := [(0, .ref 333), (1, .ref 332), (2, .int 0)]) rfl ?_
  exact lo_M_copy_333_2 g fu _ _ _ q
def FO_M_cut (fu : Nat) (p0 : Int64) (p1 : Int32) (p2 : Int32) (I : Nat → Nat → Int32) (L : Nat → Nat → Int64) : Option (Int32 × (Nat → Nat → Int32) × (Nat → Nat → Int64)) := if 0 ≤ lg_cmp p0 ((p1 : Int32).toInt64) then (if lg_cmp p0 ((p2 : Int32).toInt64) ≤ 0 then (some ((p0 : Int64).toInt32, I, L)) else (some (p2, I, L))) else (some (p1, I, L))
set_option maxHeartbeats 20000000 in
set_option maxRecDepth 20000 in
theorem eo_M_cut {d fu : Nat} {p0 : Int64} {p1 : Int32} {p2 : Int32} {I : Nat → Nat → Int32} {L : Nat → Nat → Int64} {X : Nat × (Nat → Int32)} {Q : PQ} {res : Int32 × (Nat → Nat → Int32) × (Nat → Nat → Int64)}  (g : Q (some (.int res.1)) (HS res.2.1 res.2.2 X)) (q : FO_M_cut fu p0 p1 p2 I L = some res) : Ev (d + 1) m_M_cut [.long p0, .int p1, .int p2] (HS I L X) Q := by
  unfold FO_M_cut at q
  refine ev_start (d := d + 0) rfl rfl rfl (Nat.le_of_ble_eq_true rfl) ?_
  show Wp (Ev (d + 0)) cd_M_cut (0, 0) (some .int) _ _ Q 0 [(0, .long p0), (2, .int p1), (3, .int p2)] [] (HS I L X)
  refine w_lload_n (Ev.cm _) rfl rfl ?_
  refine w_iload_n (Ev.cm _) rfl rfl ?_
  refine w_i2l (Ev.cm _) rfl ?_
  refine w_lcmp (Ev.cm _) rfl ?_
  refine w_if_ge (Ev.cm _) rfl (fun c1 => ?_) (fun c1 => ?_)
  · have c1 : 0 ≤ lg_cmp p0 ((p1 : Int32).toInt64) := c1
    rw [if_pos c1] at q
    refine w_lload_n (Ev.cm _) rfl rfl ?_
    refine w_iload_n (Ev.cm _) rfl rfl ?_
    refine w_i2l (Ev.cm _) rfl ?_
    refine w_lcmp (Ev.cm _) rfl ?_
    refine w_if_le (Ev.cm _) rfl (fun c2 => ?_) (fun c2 => ?_)
    · have c2 : lg_cmp p0 ((p2 : Int32).toInt64) ≤ 0 := c2
      rw [if_pos c2] at q
      refine w_lload_n (Ev.cm _) rfl rfl ?_
      refine w_l2i (Ev.cm _) rfl ?_
      refine w_ireturn (Ev.cm _) rfl trivial rf0 ?_
      cases q
      exact g
    · have c2 : ¬ (lg_cmp p0 ((p2 : Int32).toInt64) ≤ 0) := c2
      rw [if_neg c2] at q
      refine w_iload_n (Ev.cm _) rfl rfl ?_
      refine w_goto (Ev.cm _) rfl ?_
      refine w_ireturn (Ev.cm _) rfl trivial rf0 ?_
      cases q
      exact g
  · have c1 : ¬ (0 ≤ lg_cmp p0 ((p1 : Int32).toInt64)) := c1
    rw [if_neg c1] at q
    refine w_iload_n (Ev.cm _) rfl rfl ?_
    refine w_goto (Ev.cm _) rfl ?_
    refine w_ireturn (Ev.cm _) rfl trivial rf0 ?_
    cases q
    exact g
def FO_M_has (fu : Nat) (p0 : Int32) (p1 : Int32) (I : Nat → Nat → Int32) (L : Nat → Nat → Int64) : Option (Int32 × (Nat → Nat → Int32) × (Nat → Nat → Int64)) := if (p0 >>> (p1 &&& 31)) &&& 1 = 1 then (some (1, I, L)) else (some (0, I, L))
set_option maxHeartbeats 20000000 in
set_option maxRecDepth 20000 in
theorem eo_M_has {d fu : Nat} {p0 : Int32} {p1 : Int32} {I : Nat → Nat → Int32} {L : Nat → Nat → Int64} {X : Nat × (Nat → Int32)} {Q : PQ} {res : Int32 × (Nat → Nat → Int32) × (Nat → Nat → Int64)}  (g : Q (some (.int res.1)) (HS res.2.1 res.2.2 X)) (q : FO_M_has fu p0 p1 I L = some res) : Ev (d + 1) m_M_has [.int p0, .int p1] (HS I L X) Q := by
  unfold FO_M_has at q
  refine ev_start (d := d + 0) rfl rfl rfl (Nat.le_of_ble_eq_true rfl) ?_
  show Wp (Ev (d + 0)) cd_M_has (0, 0) (some .boolean) _ _ Q 0 [(0, .int p0), (1, .int p1)] [] (HS I L X)
  refine w_iload_n (Ev.cm _) rfl rfl ?_
  refine w_iload_n (Ev.cm _) rfl rfl ?_
  refine w_ishr (Ev.cm _) rfl ?_
  refine w_iconst (Ev.cm _) rfl ?_
  refine w_iand (Ev.cm _) rfl ?_
  refine w_iconst (Ev.cm _) rfl ?_
  refine w_icmp_ne (Ev.cm _) rfl (fun c1 => ?_) (fun c1 => ?_)
  · have c1 : ¬ ((p0 >>> (p1 &&& 31)) &&& 1 = 1) := c1
    rw [if_neg c1] at q
    refine w_iconst (Ev.cm _) rfl ?_
    refine w_ireturn (Ev.cm _) rfl (by first | exact rok_0 | exact rok_1 | exact rok_b) rf0 ?_
    cases q
    exact g
  · have c1 : (p0 >>> (p1 &&& 31)) &&& 1 = 1 := c1
    rw [if_pos c1] at q
    refine w_iconst (Ev.cm _) rfl ?_
    refine w_goto (Ev.cm _) rfl ?_
    refine w_ireturn (Ev.cm _) rfl (by first | exact rok_0 | exact rok_1 | exact rok_b) rf0 ?_
    cases q
    exact g
def LO_M_bits_4 (fu : Nat) : Nat → Int32 → Int32 → Int32 → (Nat → Nat → Int32) → (Nat → Nat → Int64) → Option (Int32 × (Nat → Nat → Int32) × (Nat → Nat → Int64))
  | 0, _, _, _, _, _ => none
  | n + 1, x0, x1, x2, I, L => if x2 = 0 then (some (x1, I, L)) else (LO_M_bits_4 fu n x0 (x1 + 1) (x2 &&& (x2 - 1)) I L)
set_option maxHeartbeats 20000000 in
set_option maxRecDepth 20000 in
theorem lo_M_bits_4 {d fu n0 s0 : Nat} {X : Nat × (Nat → Int32)} {Q : PQ} {res : Int32 × (Nat → Nat → Int32) × (Nat → Nat → Int64)}  (g : Q (some (.int res.1)) (HS res.2.1 res.2.2 X)) : ∀ (n : Nat) (x0 : Int32) (x1 : Int32) (x2 : Int32) (I : Nat → Nat → Int32) (L : Nat → Nat → Int64), LO_M_bits_4 fu n x0 x1 x2 I L = some res → Wp (Ev (d + 0)) cd_M_bits (0, 0) (some .int) n0 s0 Q 4 [(0, .int x0), (1, .int x1), (2, .int x2)] [] (HS I L X) := by
  intro n
  induction n with
  | zero => intro _ _ _ _ _ q; cases q
  | succ n ih =>
    intro x0 x1 x2 I L q
    unfold LO_M_bits_4 at q
    refine w_iload_n (Ev.cm _) rfl rfl ?_
    refine w_if_eq (Ev.cm _) rfl (fun c1 => ?_) (fun c1 => ?_)
    · have c1 : x2 = 0 := c1
      rw [if_pos c1] at q
      refine w_iload_n (Ev.cm _) rfl rfl ?_
      refine w_ireturn (Ev.cm _) rfl trivial rf0 ?_
      cases q
      exact g
    · have c1 : ¬ (x2 = 0) := c1
      rw [if_neg c1] at q
      refine w_iinc (ls2 := [(0, .int x0), (1, .int (x1 + 1)), (2, .int x2)]) (Ev.cm _) rfl rfl rfl ?_
      refine w_iload_n (Ev.cm _) rfl rfl ?_
      refine w_iload_n (Ev.cm _) rfl rfl ?_
      refine w_iconst (Ev.cm _) rfl ?_
      refine w_isub (Ev.cm _) rfl ?_
      refine w_iand (Ev.cm _) rfl ?_
      refine w_istore_n (ls2 := [(0, .int x0), (1, .int (x1 + 1)), (2, .int (x2 &&& (x2 - 1)))]) (Ev.cm _) rfl rfl ?_
      refine w_goto (Ev.cm _) rfl ?_
      show Wp _ _ _ _ _ _ _ 4 [(0, .int x0), (1, .int (x1 + 1)), (2, .int (x2 &&& (x2 - 1)))] [] (HS I L X)
      refine Wp.sub [0, 1, 2] (ls2 := [(0, .int x0), (1, .int (x1 + 1)), (2, .int (x2 &&& (x2 - 1)))]) rfl ?_
      exact ih _ _ _ _ _ q
def FO_M_bits (fu : Nat) (p0 : Int32) (I : Nat → Nat → Int32) (L : Nat → Nat → Int64) : Option (Int32 × (Nat → Nat → Int32) × (Nat → Nat → Int64)) := LO_M_bits_4 fu fu p0 0 p0 I L
set_option maxHeartbeats 20000000 in
set_option maxRecDepth 20000 in
theorem eo_M_bits {d fu : Nat} {p0 : Int32} {I : Nat → Nat → Int32} {L : Nat → Nat → Int64} {X : Nat × (Nat → Int32)} {Q : PQ} {res : Int32 × (Nat → Nat → Int32) × (Nat → Nat → Int64)}  (g : Q (some (.int res.1)) (HS res.2.1 res.2.2 X)) (q : FO_M_bits fu p0 I L = some res) : Ev (d + 1) m_M_bits [.int p0] (HS I L X) Q := by
  unfold FO_M_bits at q
  refine ev_start (d := d + 0) rfl rfl rfl (Nat.le_of_ble_eq_true rfl) ?_
  show Wp (Ev (d + 0)) cd_M_bits (0, 0) (some .int) _ _ Q 0 [(0, .int p0)] [] (HS I L X)
  refine w_iconst (Ev.cm _) rfl ?_
  refine w_istore_n (ls2 := [(0, .int p0), (1, .int 0)]) (Ev.cm _) rfl rfl ?_
  refine w_iload_n (Ev.cm _) rfl rfl ?_
  refine w_istore_n (ls2 := [(0, .int p0), (1, .int 0), (2, .int p0)]) (Ev.cm _) rfl rfl ?_
  show Wp _ _ _ _ _ _ _ 4 [(0, .int p0), (1, .int 0), (2, .int p0)] [] (HS I L X)
  refine Wp.sub [0, 1, 2] (ls2 := [(0, .int p0), (1, .int 0), (2, .int p0)]) rfl ?_
  exact lo_M_bits_4 g fu _ _ _ _ _ q
def FO_M_placeOf (fu : Nat) (p0 : Int32) (I : Nat → Nat → Int32) (L : Nat → Nat → Int64) : Option (Int32 × (Nat → Nat → Int32) × (Nat → Nat → Int64)) := if 0 ≤ (12 : Int32) + ((2 : Int32) * p0) ∧ (12 : Int32) + ((2 : Int32) * p0) < 1541 then (some (I 332 (((12 : Int32) + ((2 : Int32) * p0)).toNatClampNeg), I, L)) else none
set_option maxHeartbeats 20000000 in
set_option maxRecDepth 20000 in
theorem eo_M_placeOf {d fu : Nat} {p0 : Int32} {I : Nat → Nat → Int32} {L : Nat → Nat → Int64} {X : Nat × (Nat → Int32)} {Q : PQ} {res : Int32 × (Nat → Nat → Int32) × (Nat → Nat → Int64)}  (g : Q (some (.int res.1)) (HS res.2.1 res.2.2 X)) (q : FO_M_placeOf fu p0 I L = some res) : Ev (d + 1) m_M_placeOf [.ref 331, .int p0] (HS I L X) Q := by
  unfold FO_M_placeOf at q
  refine ev_start (d := d + 0) rfl rfl rfl (Nat.le_of_ble_eq_true rfl) ?_
  show Wp (Ev (d + 0)) cd_M_placeOf (0, 0) (some .int) _ _ Q 0 [(0, .ref 331), (1, .int p0)] [] (HS I L X)
  refine w_aload_n (Ev.cm _) rfl rfl ?_
  refine w_getR (q := 332) (Ev.cm _) rfl (Nat.le_of_ble_eq_true rfl) rfl rfl ?_
  refine w_bipush (Ev.cm _) rfl ?_
  refine w_iconst (Ev.cm _) rfl ?_
  refine w_iload_n (Ev.cm _) rfl rfl ?_
  refine w_imul (Ev.cm _) rfl ?_
  refine w_iadd (Ev.cm _) rfl ?_
  obtain ⟨b1, q⟩ := ois q
  refine w_iald (Ev.cm _) rfl (Nat.le_of_ble_eq_true rfl) rfl (show vp_in ((12 : Int32) + ((2 : Int32) * p0)) 1541 from vpI 1541 (by decide) b1.1 b1.2) ?_
  refine w_ireturn (Ev.cm _) rfl trivial rf0 ?_
  cases q
  exact g
def FO_M_trod (fu : Nat) (p0 : Int32) (I : Nat → Nat → Int32) (L : Nat → Nat → Int64) : Option (Int32 × (Nat → Nat → Int32) × (Nat → Nat → Int64)) := if 0 ≤ ((12 : Int32) + ((2 : Int32) * p0)) + 1 ∧ ((12 : Int32) + ((2 : Int32) * p0)) + 1 < 1541 then (some (I 332 ((((12 : Int32) + ((2 : Int32) * p0)) + 1).toNatClampNeg), I, L)) else none
set_option maxHeartbeats 20000000 in
set_option maxRecDepth 20000 in
theorem eo_M_trod {d fu : Nat} {p0 : Int32} {I : Nat → Nat → Int32} {L : Nat → Nat → Int64} {X : Nat × (Nat → Int32)} {Q : PQ} {res : Int32 × (Nat → Nat → Int32) × (Nat → Nat → Int64)}  (g : Q (some (.int res.1)) (HS res.2.1 res.2.2 X)) (q : FO_M_trod fu p0 I L = some res) : Ev (d + 1) m_M_trod [.ref 331, .int p0] (HS I L X) Q := by
  unfold FO_M_trod at q
  refine ev_start (d := d + 0) rfl rfl rfl (Nat.le_of_ble_eq_true rfl) ?_
  show Wp (Ev (d + 0)) cd_M_trod (0, 0) (some .int) _ _ Q 0 [(0, .ref 331), (1, .int p0)] [] (HS I L X)
  refine w_aload_n (Ev.cm _) rfl rfl ?_
  refine w_getR (q := 332) (Ev.cm _) rfl (Nat.le_of_ble_eq_true rfl) rfl rfl ?_
  refine w_bipush (Ev.cm _) rfl ?_
  refine w_iconst (Ev.cm _) rfl ?_
  refine w_iload_n (Ev.cm _) rfl rfl ?_
  refine w_imul (Ev.cm _) rfl ?_
  refine w_iadd (Ev.cm _) rfl ?_
  refine w_iconst (Ev.cm _) rfl ?_
  refine w_iadd (Ev.cm _) rfl ?_
  obtain ⟨b1, q⟩ := ois q
  refine w_iald (Ev.cm _) rfl (Nat.le_of_ble_eq_true rfl) rfl (show vp_in (((12 : Int32) + ((2 : Int32) * p0)) + 1) 1541 from vpI 1541 (by decide) b1.1 b1.2) ?_
  refine w_ireturn (Ev.cm _) rfl trivial rf0 ?_
  cases q
  exact g
def FO_M_lodger (fu : Nat) (p0 : Int32) (p1 : Int32) (I : Nat → Nat → Int32) (L : Nat → Nat → Int64) : Option (Int32 × (Nat → Nat → Int32) × (Nat → Nat → Int64)) := if (1 : Int32) ≤ p0 ∧ p0 ≤ (9 : Int32) then (if 1 ≤ p1 ∧ p1 ≤ 12 then (if I 332 0 = 6 then (some ((-1), I, L)) else (if 0 ≤ (24 : Int32) + (I 332 0) ∧ (24 : Int32) + (I 332 0) < 1541 then (if 0 ≤ (30 : Int32) + ((sI I 332 (((24 : Int32) + (I 332 0)).toNatClampNeg) p0) 332 0) ∧ (30 : Int32) + ((sI I 332 (((24 : Int32) + (I 332 0)).toNatClampNeg) p0) 332 0) < 1541 then (some ((((sI (sI I 332 (((24 : Int32) + (I 332 0)).toNatClampNeg) p0) 332 (((30 : Int32) + ((sI I 332 (((24 : Int32) + (I 332 0)).toNatClampNeg) p0) 332 0)).toNatClampNeg) p1) 332 0) + 1) - 1, sI (sI (sI I 332 (((24 : Int32) + (I 332 0)).toNatClampNeg) p0) 332 (((30 : Int32) + ((sI I 332 (((24 : Int32) + (I 332 0)).toNatClampNeg) p0) 332 0)).toNatClampNeg) p1) 332 0 (((sI (sI I 332 (((24 : Int32) + (I 332 0)).toNatClampNeg) p0) 332 (((30 : Int32) + ((sI I 332 (((24 : Int32) + (I 332 0)).toNatClampNeg) p0) 332 0)).toNatClampNeg) p1) 332 0) + 1), L)) else none) else none)) else (some ((-1), I, L))) else (some ((-1), I, L))
set_option maxHeartbeats 20000000 in
set_option maxRecDepth 20000 in
theorem eo_M_lodger {d fu : Nat} {p0 : Int32} {p1 : Int32} {I : Nat → Nat → Int32} {L : Nat → Nat → Int64} {X : Nat × (Nat → Int32)} {Q : PQ} {res : Int32 × (Nat → Nat → Int32) × (Nat → Nat → Int64)}  (g : Q (some (.int res.1)) (HS res.2.1 res.2.2 X)) (q : FO_M_lodger fu p0 p1 I L = some res) : Ev (d + 3) m_M_lodger [.ref 331, .int p0, .int p1] (HS I L X) Q := by
  unfold FO_M_lodger at q
  refine ev_start (d := d + 2) rfl rfl rfl (Nat.le_of_ble_eq_true rfl) ?_
  show Wp (Ev (d + 2)) cd_M_lodger (0, 0) (some .int) _ _ Q 0 [(0, .ref 331), (1, .int p0), (2, .int p1)] [] (HS I L X)
  refine w_iload_n (Ev.cm _) rfl rfl ?_
  refine w_iconst (Ev.cm _) rfl ?_
  refine w_bipush (Ev.cm _) rfl ?_
  refine w_cstat (as := [.int p0, .int 1, .int 9]) (st := []) (Ev.cm _) rfl rfl rfl (Nat.le_of_ble_eq_true rfl) (Nat.le_of_ble_eq_true rfl) (m_isIn ?_)
  show Wp _ _ _ _ _ _ _ 7 [(0, .ref 331), (1, .int p0), (2, .int p1)] [.int (bI ((1 : Int32) ≤ p0 ∧ p0 ≤ (9 : Int32)))] (HS I L X)
  refine w_if_eq (Ev.cm _) rfl (fun c1 => ?_) (fun c1 => ?_)
  · have c1 : ¬ ((1 : Int32) ≤ p0 ∧ p0 ≤ (9 : Int32)) := bI_0.mp c1
    rw [if_neg c1] at q
    refine w_iconst (Ev.cm _) rfl ?_
    refine w_ireturn (Ev.cm _) rfl trivial rf0 ?_
    cases q
    exact g
  · have c1 : (1 : Int32) ≤ p0 ∧ p0 ≤ (9 : Int32) := bI_1.mp c1
    rw [if_pos c1] at q
    refine w_iload_n (Ev.cm _) rfl rfl ?_
    refine w_cstat (as := [.int p1]) (st := []) (Ev.cm _) rfl rfl rfl (Nat.le_of_ble_eq_true rfl) (Nat.le_of_ble_eq_true rfl) (m_isStair ?_)
    show Wp _ _ _ _ _ _ _ 14 [(0, .ref 331), (1, .int p0), (2, .int p1)] [.int (bI (1 ≤ p1 ∧ p1 ≤ 12))] (HS I L X)
    refine w_if_eq (Ev.cm _) rfl (fun c2 => ?_) (fun c2 => ?_)
    · have c2 : ¬ (1 ≤ p1 ∧ p1 ≤ 12) := bI_0.mp c2
      rw [if_neg c2] at q
      refine w_iconst (Ev.cm _) rfl ?_
      refine w_ireturn (Ev.cm _) rfl trivial rf0 ?_
      cases q
      exact g
    · have c2 : 1 ≤ p1 ∧ p1 ≤ 12 := bI_1.mp c2
      rw [if_pos c2] at q
      refine w_aload_n (Ev.cm _) rfl rfl ?_
      refine w_getR (q := 332) (Ev.cm _) rfl (Nat.le_of_ble_eq_true rfl) rfl rfl ?_
      refine w_iconst (Ev.cm _) rfl ?_
      refine w_iald (Ev.cm _) rfl (Nat.le_of_ble_eq_true rfl) rfl (show vp_in 0 1541 from vpI 1541 (by decide) (by decide) (by decide)) ?_
      refine w_bipush (Ev.cm _) rfl ?_
      refine w_icmp_ne (Ev.cm _) rfl (fun c3 => ?_) (fun c3 => ?_)
      · have c3 : ¬ (I 332 0 = 6) := c3
        rw [if_neg c3] at q
        refine w_aload_n (Ev.cm _) rfl rfl ?_
        refine w_getR (q := 332) (Ev.cm _) rfl (Nat.le_of_ble_eq_true rfl) rfl rfl ?_
        refine w_bipush (Ev.cm _) rfl ?_
        refine w_aload_n (Ev.cm _) rfl rfl ?_
        refine w_getR (q := 332) (Ev.cm _) rfl (Nat.le_of_ble_eq_true rfl) rfl rfl ?_
        refine w_iconst (Ev.cm _) rfl ?_
        refine w_iald (Ev.cm _) rfl (Nat.le_of_ble_eq_true rfl) rfl (show vp_in 0 1541 from vpI 1541 (by decide) (by decide) (by decide)) ?_
        refine w_iadd (Ev.cm _) rfl ?_
        refine w_iload_n (Ev.cm _) rfl rfl ?_
        obtain ⟨b1, q⟩ := ois q
        refine w_iast (Ev.cm _) rfl (Nat.le_of_ble_eq_true rfl) rfl (show vp_in ((24 : Int32) + (I 332 0)) 1541 from vpI 1541 (by decide) b1.1 b1.2) ?_
        refine w_aload_n (Ev.cm _) rfl rfl ?_
        refine w_getR (q := 332) (Ev.cm _) rfl (Nat.le_of_ble_eq_true rfl) rfl rfl ?_
        refine w_bipush (Ev.cm _) rfl ?_
        refine w_aload_n (Ev.cm _) rfl rfl ?_
        refine w_getR (q := 332) (Ev.cm _) rfl (Nat.le_of_ble_eq_true rfl) rfl rfl ?_
        refine w_iconst (Ev.cm _) rfl ?_
        refine w_iald (Ev.cm _) rfl (Nat.le_of_ble_eq_true rfl) rfl (show vp_in 0 1541 from vpI 1541 (by decide) (by decide) (by decide)) ?_
        refine w_iadd (Ev.cm _) rfl ?_
        refine w_iload_n (Ev.cm _) rfl rfl ?_
        obtain ⟨b2, q⟩ := ois q
        refine w_iast (Ev.cm _) rfl (Nat.le_of_ble_eq_true rfl) rfl (show vp_in ((30 : Int32) + ((sI I 332 (((24 : Int32) + (I 332 0)).toNatClampNeg) p0) 332 0)) 1541 from vpI 1541 (by decide) b2.1 b2.2) ?_
        refine w_aload_n (Ev.cm _) rfl rfl ?_
        refine w_getR (q := 332) (Ev.cm _) rfl (Nat.le_of_ble_eq_true rfl) rfl rfl ?_
        refine w_iconst (Ev.cm _) rfl ?_
        refine w_dup2 (Ev.cm _) rfl rfl rfl ?_
        refine w_iald (Ev.cm _) rfl (Nat.le_of_ble_eq_true rfl) rfl (show vp_in 0 1541 from vpI 1541 (by decide) (by decide) (by decide)) ?_
        refine w_iconst (Ev.cm _) rfl ?_
        refine w_iadd (Ev.cm _) rfl ?_
        refine w_iast (Ev.cm _) rfl (Nat.le_of_ble_eq_true rfl) rfl (show vp_in 0 1541 from vpI 1541 (by decide) (by decide) (by decide)) ?_
        refine w_aload_n (Ev.cm _) rfl rfl ?_
        refine w_getR (q := 332) (Ev.cm _) rfl (Nat.le_of_ble_eq_true rfl) rfl rfl ?_
        refine w_iconst (Ev.cm _) rfl ?_
        refine w_iald (Ev.cm _) rfl (Nat.le_of_ble_eq_true rfl) rfl (show vp_in 0 1541 from vpI 1541 (by decide) (by decide) (by decide)) ?_
        refine w_iconst (Ev.cm _) rfl ?_
        refine w_isub (Ev.cm _) rfl ?_
        refine w_ireturn (Ev.cm _) rfl trivial rf0 ?_
        cases q
        exact g
      · have c3 : I 332 0 = 6 := c3
        rw [if_pos c3] at q
        refine w_iconst (Ev.cm _) rfl ?_
        refine w_ireturn (Ev.cm _) rfl trivial rf0 ?_
        cases q
        exact g
def LO_M_four_3 (fu : Nat) : Nat → Int32 → Int32 → (Nat → Nat → Int32) → (Nat → Nat → Int64) → Option (Unit × (Nat → Nat → Int32) × (Nat → Nat → Int64))
  | 0, _, _, _, _ => none
  | n + 1, x1, x2, I, L => if x2 < 0 then (some ((), I, L)) else (if 0 ≤ I 331 4 ∧ I 331 4 < 300 then (LO_M_four_3 fu n x1 (x2 + (-8)) (sI (sI I 335 ((I 331 4).toNatClampNeg) ((x1 >>> (x2 &&& 31)) &&& 255)) 331 4 ((I 331 4) + 1)) L) else none)
set_option maxHeartbeats 20000000 in
set_option maxRecDepth 20000 in
theorem lo_M_four_3 {d fu n0 s0 : Nat} {X : Nat × (Nat → Int32)} {Q : PQ} {res : Unit × (Nat → Nat → Int32) × (Nat → Nat → Int64)}  (g : Q none (HS res.2.1 res.2.2 X)) : ∀ (n : Nat) (x1 : Int32) (x2 : Int32) (I : Nat → Nat → Int32) (L : Nat → Nat → Int64), LO_M_four_3 fu n x1 x2 I L = some res → Wp (Ev (d + 0)) cd_M_four (0, 0) none n0 s0 Q 3 [(0, .ref 331), (1, .int x1), (2, .int x2)] [] (HS I L X) := by
  intro n
  induction n with
  | zero => intro _ _ _ _ q; cases q
  | succ n ih =>
    intro x1 x2 I L q
    unfold LO_M_four_3 at q
    refine w_iload_n (Ev.cm _) rfl rfl ?_
    refine w_if_lt (Ev.cm _) rfl (fun c1 => ?_) (fun c1 => ?_)
    · have c1 : x2 < 0 := c1
      rw [if_pos c1] at q
      refine w_return (Ev.cm _) rfl rfl rf0 ?_
      cases q
      exact g
    · have c1 : ¬ (x2 < 0) := c1
      rw [if_neg c1] at q
      refine w_aload_n (Ev.cm _) rfl rfl ?_
      refine w_getR (q := 335) (Ev.cm _) rfl (Nat.le_of_ble_eq_true rfl) rfl rfl ?_
      refine w_aload_n (Ev.cm _) rfl rfl ?_
      refine w_getI (Ev.cm _) rfl (Nat.le_of_ble_eq_true rfl) rfl ?_
      refine w_iload_n (Ev.cm _) rfl rfl ?_
      refine w_iload_n (Ev.cm _) rfl rfl ?_
      refine w_ishr (Ev.cm _) rfl ?_
      refine w_sipush (Ev.cm _) rfl ?_
      refine w_iand (Ev.cm _) rfl ?_
      obtain ⟨b1, q⟩ := ois q
      refine w_iast (Ev.cm _) rfl (Nat.le_of_ble_eq_true rfl) rfl (show vp_in (I 331 4) 300 from vpI 300 (by decide) b1.1 b1.2) ?_
      refine w_aload_n (Ev.cm _) rfl rfl ?_
      refine w_dup (Ev.cm _) rfl rfl ?_
      refine w_getI (Ev.cm _) rfl (Nat.le_of_ble_eq_true rfl) rfl ?_
      refine w_iconst (Ev.cm _) rfl ?_
      refine w_iadd (Ev.cm _) rfl ?_
      refine w_putI (Ev.cm _) rfl (Nat.le_of_ble_eq_true rfl) rfl ?_
      refine w_iinc (ls2 := [(0, .ref 331), (1, .int x1), (2, .int (x2 + (-8)))]) (Ev.cm _) rfl rfl rfl ?_
      refine w_goto (Ev.cm _) rfl ?_
      show Wp _ _ _ _ _ _ _ 3 [(0, .ref 331), (1, .int x1), (2, .int (x2 + (-8)))] [] (HS (sI (sI I 335 ((I 331 4).toNatClampNeg) ((x1 >>> (x2 &&& 31)) &&& 255)) 331 4 ((I 331 4) + 1)) L X)
      refine Wp.sub [0, 1, 2] (ls2 := [(0, .ref 331), (1, .int x1), (2, .int (x2 + (-8)))]) rfl ?_
      exact ih _ _ _ _ q
def FO_M_four (fu : Nat) (p0 : Int32) (I : Nat → Nat → Int32) (L : Nat → Nat → Int64) : Option (Unit × (Nat → Nat → Int32) × (Nat → Nat → Int64)) := LO_M_four_3 fu fu p0 24 I L
set_option maxHeartbeats 20000000 in
set_option maxRecDepth 20000 in
theorem eo_M_four {d fu : Nat} {p0 : Int32} {I : Nat → Nat → Int32} {L : Nat → Nat → Int64} {X : Nat × (Nat → Int32)} {Q : PQ} {res : Unit × (Nat → Nat → Int32) × (Nat → Nat → Int64)}  (g : Q none (HS res.2.1 res.2.2 X)) (q : FO_M_four fu p0 I L = some res) : Ev (d + 1) m_M_four [.ref 331, .int p0] (HS I L X) Q := by
  unfold FO_M_four at q
  refine ev_start (d := d + 0) rfl rfl rfl (Nat.le_of_ble_eq_true rfl) ?_
  show Wp (Ev (d + 0)) cd_M_four (0, 0) none _ _ Q 0 [(0, .ref 331), (1, .int p0)] [] (HS I L X)
  refine w_bipush (Ev.cm _) rfl ?_
  refine w_istore_n (ls2 := [(0, .ref 331), (1, .int p0), (2, .int 24)]) (Ev.cm _) rfl rfl ?_
  show Wp _ _ _ _ _ _ _ 3 [(0, .ref 331), (1, .int p0), (2, .int 24)] [] (HS I L X)
  refine Wp.sub [0, 1, 2] (ls2 := [(0, .ref 331), (1, .int p0), (2, .int 24)]) rfl ?_
  exact lo_M_four_3 g fu _ _ _ _ q
def FO_M_feed (fu : Nat) (p0 : Int32) (p1 : Int32) (p2 : Int32) (p3 : Int32) (p4 : Int32) (I : Nat → Nat → Int32) (L : Nat → Nat → Int64) : Option (Int32 × (Nat → Nat → Int32) × (Nat → Nat → Int64)) := if (I 331 4) + 20 ≤ 300 then ((FO_M_four fu p0 I L).bind (fun u1 => let r1 := u1.1; let I1 := u1.2.1; let L1 := u1.2.2; (FO_M_four fu p1 I1 L1).bind (fun u2 => let r2 := u2.1; let I2 := u2.2.1; let L2 := u2.2.2; (FO_M_four fu p2 I2 L2).bind (fun u3 => let r3 := u3.1; let I3 := u3.2.1; let L3 := u3.2.2; (FO_M_four fu p3 I3 L3).bind (fun u4 => let r4 := u4.1; let I4 := u4.2.1; let L4 := u4.2.2; (FO_M_four fu p4 I4 L4).bind (fun u5 => let r5 := u5.1; let I5 := u5.2.1; let L5 := u5.2.2; some (I5 331 4, I5, L5))))))) else (some ((-1), I, L))
set_option maxHeartbeats 20000000 in
set_option maxRecDepth 20000 in
theorem eo_M_feed {d fu : Nat} {p0 : Int32} {p1 : Int32} {p2 : Int32} {p3 : Int32} {p4 : Int32} {I : Nat → Nat → Int32} {L : Nat → Nat → Int64} {X : Nat × (Nat → Int32)} {Q : PQ} {res : Int32 × (Nat → Nat → Int32) × (Nat → Nat → Int64)}  (g : Q (some (.int res.1)) (HS res.2.1 res.2.2 X)) (q : FO_M_feed fu p0 p1 p2 p3 p4 I L = some res) : Ev (d + 2) m_M_feed [.ref 331, .int p0, .int p1, .int p2, .int p3, .int p4] (HS I L X) Q := by
  unfold FO_M_feed at q
  refine ev_start (d := d + 1) rfl rfl rfl (Nat.le_of_ble_eq_true rfl) ?_
  show Wp (Ev (d + 1)) cd_M_feed (0, 0) (some .int) _ _ Q 0 [(0, .ref 331), (1, .int p0), (2, .int p1), (3, .int p2), (4, .int p3), (5, .int p4)] [] (HS I L X)
  refine w_aload_n (Ev.cm _) rfl rfl ?_
  refine w_getI (Ev.cm _) rfl (Nat.le_of_ble_eq_true rfl) rfl ?_
  refine w_bipush (Ev.cm _) rfl ?_
  refine w_iadd (Ev.cm _) rfl ?_
  refine w_sipush (Ev.cm _) rfl ?_
  refine w_icmp_le (Ev.cm _) rfl (fun c1 => ?_) (fun c1 => ?_)
  · have c1 : (I 331 4) + 20 ≤ 300 := c1
    rw [if_pos c1] at q
    refine w_aload_n (Ev.cm _) rfl rfl ?_
    refine w_iload_n (Ev.cm _) rfl rfl ?_
    obtain ⟨⟨r1, I1, L1⟩, e1, q⟩ := obs q
    dsimp only at q
    refine w_cvirt (o := 331) (as := [.int p0]) (st := []) (Ev.cm _) rfl rfl rfl (Nat.le_of_ble_eq_true rfl) (Nat.le_of_ble_eq_true rfl) rfl (Nat.le_of_ble_eq_true rfl) (eo_M_four (g := ?_) e1)
    show Wp _ _ _ _ _ _ _ 20 [(0, .ref 331), (1, .int p0), (2, .int p1), (3, .int p2), (4, .int p3), (5, .int p4)] [] (HS I1 L1 X)
    refine w_aload_n (Ev.cm _) rfl rfl ?_
    refine w_iload_n (Ev.cm _) rfl rfl ?_
    obtain ⟨⟨r2, I2, L2⟩, e2, q⟩ := obs q
    dsimp only at q
    refine w_cvirt (o := 331) (as := [.int p1]) (st := []) (Ev.cm _) rfl rfl rfl (Nat.le_of_ble_eq_true rfl) (Nat.le_of_ble_eq_true rfl) rfl (Nat.le_of_ble_eq_true rfl) (eo_M_four (g := ?_) e2)
    show Wp _ _ _ _ _ _ _ 25 [(0, .ref 331), (1, .int p0), (2, .int p1), (3, .int p2), (4, .int p3), (5, .int p4)] [] (HS I2 L2 X)
    refine w_aload_n (Ev.cm _) rfl rfl ?_
    refine w_iload_n (Ev.cm _) rfl rfl ?_
    obtain ⟨⟨r3, I3, L3⟩, e3, q⟩ := obs q
    dsimp only at q
    refine w_cvirt (o := 331) (as := [.int p2]) (st := []) (Ev.cm _) rfl rfl rfl (Nat.le_of_ble_eq_true rfl) (Nat.le_of_ble_eq_true rfl) rfl (Nat.le_of_ble_eq_true rfl) (eo_M_four (g := ?_) e3)
    show Wp _ _ _ _ _ _ _ 30 [(0, .ref 331), (1, .int p0), (2, .int p1), (3, .int p2), (4, .int p3), (5, .int p4)] [] (HS I3 L3 X)
    refine w_aload_n (Ev.cm _) rfl rfl ?_
    refine w_iload (Ev.cm _) rfl rfl ?_
    obtain ⟨⟨r4, I4, L4⟩, e4, q⟩ := obs q
    dsimp only at q
    refine w_cvirt (o := 331) (as := [.int p3]) (st := []) (Ev.cm _) rfl rfl rfl (Nat.le_of_ble_eq_true rfl) (Nat.le_of_ble_eq_true rfl) rfl (Nat.le_of_ble_eq_true rfl) (eo_M_four (g := ?_) e4)
    show Wp _ _ _ _ _ _ _ 36 [(0, .ref 331), (1, .int p0), (2, .int p1), (3, .int p2), (4, .int p3), (5, .int p4)] [] (HS I4 L4 X)
    refine w_aload_n (Ev.cm _) rfl rfl ?_
    refine w_iload (Ev.cm _) rfl rfl ?_
    obtain ⟨⟨r5, I5, L5⟩, e5, q⟩ := obs q
    dsimp only at q
    refine w_cvirt (o := 331) (as := [.int p4]) (st := []) (Ev.cm _) rfl rfl rfl (Nat.le_of_ble_eq_true rfl) (Nat.le_of_ble_eq_true rfl) rfl (Nat.le_of_ble_eq_true rfl) (eo_M_four (g := ?_) e5)
    show Wp _ _ _ _ _ _ _ 42 [(0, .ref 331), (1, .int p0), (2, .int p1), (3, .int p2), (4, .int p3), (5, .int p4)] [] (HS I5 L5 X)
    refine w_aload_n (Ev.cm _) rfl rfl ?_
    refine w_getI (Ev.cm _) rfl (Nat.le_of_ble_eq_true rfl) rfl ?_
    refine w_ireturn (Ev.cm _) rfl trivial rf0 ?_
    cases q
    exact g
  · have c1 : ¬ ((I 331 4) + 20 ≤ 300) := c1
    rw [if_neg c1] at q
    refine w_iconst (Ev.cm _) rfl ?_
    refine w_ireturn (Ev.cm _) rfl trivial rf0 ?_
    cases q
    exact g
def FO_M_end (fu : Nat) (p0 : Int32) (I : Nat → Nat → Int32) (L : Nat → Nat → Int64) : Option (Int32 × (Nat → Nat → Int32) × (Nat → Nat → Int64)) := if (0 : Int32) ≤ p0 ∧ p0 ≤ (I 331 4) then (some (p0, sI I 331 4 p0, L)) else (some ((-1), I, L))
set_option maxHeartbeats 20000000 in
set_option maxRecDepth 20000 in
theorem eo_M_end {d fu : Nat} {p0 : Int32} {I : Nat → Nat → Int32} {L : Nat → Nat → Int64} {X : Nat × (Nat → Int32)} {Q : PQ} {res : Int32 × (Nat → Nat → Int32) × (Nat → Nat → Int64)}  (g : Q (some (.int res.1)) (HS res.2.1 res.2.2 X)) (q : FO_M_end fu p0 I L = some res) : Ev (d + 2) m_M_end [.ref 331, .int p0] (HS I L X) Q := by
  unfold FO_M_end at q
  refine ev_start (d := d + 1) rfl rfl rfl (Nat.le_of_ble_eq_true rfl) ?_
  show Wp (Ev (d + 1)) cd_M_end (0, 0) (some .int) _ _ Q 0 [(0, .ref 331), (1, .int p0)] [] (HS I L X)
  refine w_iload_n (Ev.cm _) rfl rfl ?_
  refine w_iconst (Ev.cm _) rfl ?_
  refine w_aload_n (Ev.cm _) rfl rfl ?_
  refine w_getI (Ev.cm _) rfl (Nat.le_of_ble_eq_true rfl) rfl ?_
  refine w_cstat (as := [.int p0, .int 0, .int (I 331 4)]) (st := []) (Ev.cm _) rfl rfl rfl (Nat.le_of_ble_eq_true rfl) (Nat.le_of_ble_eq_true rfl) (m_isIn ?_)
  show Wp _ _ _ _ _ _ _ 9 [(0, .ref 331), (1, .int p0)] [.int (bI ((0 : Int32) ≤ p0 ∧ p0 ≤ (I 331 4)))] (HS I L X)
  refine w_if_ne (Ev.cm _) rfl (fun c1 => ?_) (fun c1 => ?_)
  · have c1 : (0 : Int32) ≤ p0 ∧ p0 ≤ (I 331 4) := bI_1.mp c1
    rw [if_pos c1] at q
    refine w_aload_n (Ev.cm _) rfl rfl ?_
    refine w_iload_n (Ev.cm _) rfl rfl ?_
    refine w_putI (Ev.cm _) rfl (Nat.le_of_ble_eq_true rfl) rfl ?_
    refine w_iload_n (Ev.cm _) rfl rfl ?_
    refine w_ireturn (Ev.cm _) rfl trivial rf0 ?_
    cases q
    exact g
  · have c1 : ¬ ((0 : Int32) ≤ p0 ∧ p0 ≤ (I 331 4)) := bI_0.mp c1
    rw [if_neg c1] at q
    refine w_iconst (Ev.cm _) rfl ?_
    refine w_ireturn (Ev.cm _) rfl trivial rf0 ?_
    cases q
    exact g
def FO_M_byteAt (fu : Nat) (p0 : Int32) (I : Nat → Nat → Int32) (L : Nat → Nat → Int64) : Option (Int32 × (Nat → Nat → Int32) × (Nat → Nat → Int64)) := if I 331 4 ≤ p0 then (some ((-1), I, L)) else (if 0 ≤ p0 ∧ p0 < 300 then (some (I 335 p0.toNatClampNeg, I, L)) else none)
set_option maxHeartbeats 20000000 in
set_option maxRecDepth 20000 in
theorem eo_M_byteAt {d fu : Nat} {p0 : Int32} {I : Nat → Nat → Int32} {L : Nat → Nat → Int64} {X : Nat × (Nat → Int32)} {Q : PQ} {res : Int32 × (Nat → Nat → Int32) × (Nat → Nat → Int64)}  (g : Q (some (.int res.1)) (HS res.2.1 res.2.2 X)) (q : FO_M_byteAt fu p0 I L = some res) : Ev (d + 1) m_M_byteAt [.ref 331, .int p0] (HS I L X) Q := by
  unfold FO_M_byteAt at q
  refine ev_start (d := d + 0) rfl rfl rfl (Nat.le_of_ble_eq_true rfl) ?_
  show Wp (Ev (d + 0)) cd_M_byteAt (0, 0) (some .int) _ _ Q 0 [(0, .ref 331), (1, .int p0)] [] (HS I L X)
  refine w_iload_n (Ev.cm _) rfl rfl ?_
  refine w_aload_n (Ev.cm _) rfl rfl ?_
  refine w_getI (Ev.cm _) rfl (Nat.le_of_ble_eq_true rfl) rfl ?_
  refine w_icmp_ge (Ev.cm _) rfl (fun c1 => ?_) (fun c1 => ?_)
  · have c1 : I 331 4 ≤ p0 := c1
    rw [if_pos c1] at q
    refine w_iconst (Ev.cm _) rfl ?_
    refine w_ireturn (Ev.cm _) rfl trivial rf0 ?_
    cases q
    exact g
  · have c1 : ¬ (I 331 4 ≤ p0) := c1
    rw [if_neg c1] at q
    refine w_aload_n (Ev.cm _) rfl rfl ?_
    refine w_getR (q := 335) (Ev.cm _) rfl (Nat.le_of_ble_eq_true rfl) rfl rfl ?_
    refine w_iload_n (Ev.cm _) rfl rfl ?_
    obtain ⟨b1, q⟩ := ois q
    refine w_iald (Ev.cm _) rfl (Nat.le_of_ble_eq_true rfl) rfl (show vp_in p0 300 from vpI 300 (by decide) b1.1 b1.2) ?_
    refine w_goto (Ev.cm _) rfl ?_
    refine w_ireturn (Ev.cm _) rfl trivial rf0 ?_
    cases q
    exact g
def FO_M_isLetterByte (fu : Nat) (p0 : Int32) (I : Nat → Nat → Int32) (L : Nat → Nat → Int64) : Option (Int32 × (Nat → Nat → Int32) × (Nat → Nat → Int64)) := if p0 < 97 then (if p0 < 65 then (some (0, I, L)) else (if 90 < p0 then (some (0, I, L)) else (some (1, I, L)))) else (if p0 ≤ 122 then (some (1, I, L)) else (if p0 < 65 then (some (0, I, L)) else (if 90 < p0 then (some (0, I, L)) else (some (1, I, L)))))
set_option maxHeartbeats 20000000 in
set_option maxRecDepth 20000 in
theorem eo_M_isLetterByte {d fu : Nat} {p0 : Int32} {I : Nat → Nat → Int32} {L : Nat → Nat → Int64} {X : Nat × (Nat → Int32)} {Q : PQ} {res : Int32 × (Nat → Nat → Int32) × (Nat → Nat → Int64)}  (g : Q (some (.int res.1)) (HS res.2.1 res.2.2 X)) (q : FO_M_isLetterByte fu p0 I L = some res) : Ev (d + 1) m_M_isLetterByte [.int p0] (HS I L X) Q := by
  unfold FO_M_isLetterByte at q
  refine ev_start (d := d + 0) rfl rfl rfl (Nat.le_of_ble_eq_true rfl) ?_
  show Wp (Ev (d + 0)) cd_M_isLetterByte (0, 0) (some .boolean) _ _ Q 0 [(0, .int p0)] [] (HS I L X)
  refine w_iload_n (Ev.cm _) rfl rfl ?_
  refine w_bipush (Ev.cm _) rfl ?_
  refine w_icmp_lt (Ev.cm _) rfl (fun c1 => ?_) (fun c1 => ?_)
  · have c1 : p0 < 97 := c1
    rw [if_pos c1] at q
    refine w_iload_n (Ev.cm _) rfl rfl ?_
    refine w_bipush (Ev.cm _) rfl ?_
    refine w_icmp_lt (Ev.cm _) rfl (fun c2 => ?_) (fun c2 => ?_)
    · have c2 : p0 < 65 := c2
      rw [if_pos c2] at q
      refine w_iconst (Ev.cm _) rfl ?_
      refine w_ireturn (Ev.cm _) rfl (by first | exact rok_0 | exact rok_1 | exact rok_b) rf0 ?_
      cases q
      exact g
    · have c2 : ¬ (p0 < 65) := c2
      rw [if_neg c2] at q
      refine w_iload_n (Ev.cm _) rfl rfl ?_
      refine w_bipush (Ev.cm _) rfl ?_
      refine w_icmp_gt (Ev.cm _) rfl (fun c3 => ?_) (fun c3 => ?_)
      · have c3 : 90 < p0 := c3
        rw [if_pos c3] at q
        refine w_iconst (Ev.cm _) rfl ?_
        refine w_ireturn (Ev.cm _) rfl (by first | exact rok_0 | exact rok_1 | exact rok_b) rf0 ?_
        cases q
        exact g
      · have c3 : ¬ (90 < p0) := c3
        rw [if_neg c3] at q
        refine w_iconst (Ev.cm _) rfl ?_
        refine w_goto (Ev.cm _) rfl ?_
        refine w_ireturn (Ev.cm _) rfl (by first | exact rok_0 | exact rok_1 | exact rok_b) rf0 ?_
        cases q
        exact g
  · have c1 : ¬ (p0 < 97) := c1
    rw [if_neg c1] at q
    refine w_iload_n (Ev.cm _) rfl rfl ?_
    refine w_bipush (Ev.cm _) rfl ?_
    refine w_icmp_le (Ev.cm _) rfl (fun c4 => ?_) (fun c4 => ?_)
    · have c4 : p0 ≤ 122 := c4
      rw [if_pos c4] at q
      refine w_iconst (Ev.cm _) rfl ?_
      refine w_goto (Ev.cm _) rfl ?_
      refine w_ireturn (Ev.cm _) rfl (by first | exact rok_0 | exact rok_1 | exact rok_b) rf0 ?_
      cases q
      exact g
    · have c4 : ¬ (p0 ≤ 122) := c4
      rw [if_neg c4] at q
      refine w_iload_n (Ev.cm _) rfl rfl ?_
      refine w_bipush (Ev.cm _) rfl ?_
      refine w_icmp_lt (Ev.cm _) rfl (fun c5 => ?_) (fun c5 => ?_)
      · have c5 : p0 < 65 := c5
        rw [if_pos c5] at q
        refine w_iconst (Ev.cm _) rfl ?_
        refine w_ireturn (Ev.cm _) rfl (by first | exact rok_0 | exact rok_1 | exact rok_b) rf0 ?_
        cases q
        exact g
      · have c5 : ¬ (p0 < 65) := c5
        rw [if_neg c5] at q
        refine w_iload_n (Ev.cm _) rfl rfl ?_
        refine w_bipush (Ev.cm _) rfl ?_
        refine w_icmp_gt (Ev.cm _) rfl (fun c6 => ?_) (fun c6 => ?_)
        · have c6 : 90 < p0 := c6
          rw [if_pos c6] at q
          refine w_iconst (Ev.cm _) rfl ?_
          refine w_ireturn (Ev.cm _) rfl (by first | exact rok_0 | exact rok_1 | exact rok_b) rf0 ?_
          cases q
          exact g
        · have c6 : ¬ (90 < p0) := c6
          rw [if_neg c6] at q
          refine w_iconst (Ev.cm _) rfl ?_
          refine w_goto (Ev.cm _) rfl ?_
          refine w_ireturn (Ev.cm _) rfl (by first | exact rok_0 | exact rok_1 | exact rok_b) rf0 ?_
          cases q
          exact g
def FO_M_isFigure (fu : Nat) (p0 : Int32) (I : Nat → Nat → Int32) (L : Nat → Nat → Int64) : Option (Int32 × (Nat → Nat → Int32) × (Nat → Nat → Int64)) := if p0 < 48 then (some (0, I, L)) else (if 57 < p0 then (some (0, I, L)) else (some (1, I, L)))
set_option maxHeartbeats 20000000 in
set_option maxRecDepth 20000 in
theorem eo_M_isFigure {d fu : Nat} {p0 : Int32} {I : Nat → Nat → Int32} {L : Nat → Nat → Int64} {X : Nat × (Nat → Int32)} {Q : PQ} {res : Int32 × (Nat → Nat → Int32) × (Nat → Nat → Int64)}  (g : Q (some (.int res.1)) (HS res.2.1 res.2.2 X)) (q : FO_M_isFigure fu p0 I L = some res) : Ev (d + 1) m_M_isFigure [.int p0] (HS I L X) Q := by
  unfold FO_M_isFigure at q
  refine ev_start (d := d + 0) rfl rfl rfl (Nat.le_of_ble_eq_true rfl) ?_
  show Wp (Ev (d + 0)) cd_M_isFigure (0, 0) (some .boolean) _ _ Q 0 [(0, .int p0)] [] (HS I L X)
  refine w_iload_n (Ev.cm _) rfl rfl ?_
  refine w_bipush (Ev.cm _) rfl ?_
  refine w_icmp_lt (Ev.cm _) rfl (fun c1 => ?_) (fun c1 => ?_)
  · have c1 : p0 < 48 := c1
    rw [if_pos c1] at q
    refine w_iconst (Ev.cm _) rfl ?_
    refine w_ireturn (Ev.cm _) rfl (by first | exact rok_0 | exact rok_1 | exact rok_b) rf0 ?_
    cases q
    exact g
  · have c1 : ¬ (p0 < 48) := c1
    rw [if_neg c1] at q
    refine w_iload_n (Ev.cm _) rfl rfl ?_
    refine w_bipush (Ev.cm _) rfl ?_
    refine w_icmp_gt (Ev.cm _) rfl (fun c2 => ?_) (fun c2 => ?_)
    · have c2 : 57 < p0 := c2
      rw [if_pos c2] at q
      refine w_iconst (Ev.cm _) rfl ?_
      refine w_ireturn (Ev.cm _) rfl (by first | exact rok_0 | exact rok_1 | exact rok_b) rf0 ?_
      cases q
      exact g
    · have c2 : ¬ (57 < p0) := c2
      rw [if_neg c2] at q
      refine w_iconst (Ev.cm _) rfl ?_
      refine w_goto (Ev.cm _) rfl ?_
      refine w_ireturn (Ev.cm _) rfl (by first | exact rok_0 | exact rok_1 | exact rok_b) rf0 ?_
      cases q
      exact g
def FO_M_isSign (fu : Nat) (p0 : Int32) (I : Nat → Nat → Int32) (L : Nat → Nat → Int64) : Option (Int32 × (Nat → Nat → Int32) × (Nat → Nat → Int64)) := if p0 = 35 then (some (1, I, L)) else (if p0 = 40 then (some (1, I, L)) else (if p0 = 41 then (some (1, I, L)) else (if p0 = 42 then (some (1, I, L)) else (if p0 = 43 then (some (1, I, L)) else (if p0 = 45 then (some (1, I, L)) else (if p0 = 47 then (some (1, I, L)) else (if p0 = 58 then (some (1, I, L)) else (if p0 = 59 then (some (1, I, L)) else (if p0 = 60 then (some (1, I, L)) else (if p0 = 61 then (some (1, I, L)) else (if p0 = 62 then (some (1, I, L)) else (some (0, I, L)))))))))))))
set_option maxHeartbeats 20000000 in
set_option maxRecDepth 20000 in
theorem eo_M_isSign {d fu : Nat} {p0 : Int32} {I : Nat → Nat → Int32} {L : Nat → Nat → Int64} {X : Nat × (Nat → Int32)} {Q : PQ} {res : Int32 × (Nat → Nat → Int32) × (Nat → Nat → Int64)}  (g : Q (some (.int res.1)) (HS res.2.1 res.2.2 X)) (q : FO_M_isSign fu p0 I L = some res) : Ev (d + 1) m_M_isSign [.int p0] (HS I L X) Q := by
  unfold FO_M_isSign at q
  refine ev_start (d := d + 0) rfl rfl rfl (Nat.le_of_ble_eq_true rfl) ?_
  show Wp (Ev (d + 0)) cd_M_isSign (0, 0) (some .boolean) _ _ Q 0 [(0, .int p0)] [] (HS I L X)
  refine w_iload_n (Ev.cm _) rfl rfl ?_
  refine w_tswL (Ev.cm _) [(35, 127), (40, 127), (41, 127), (42, 127), (43, 127), (45, 127), (47, 127), (58, 127), (59, 127), (60, 127), (61, 127), (62, 127)] rfl (by decide +kernel) (by decide +kernel) ?_
  refine ⟨fun c1 => ?_, fun c1_0 => ⟨fun c1 => ?_, fun c1_1 => ⟨fun c1 => ?_, fun c1_2 => ⟨fun c1 => ?_, fun c1_3 => ⟨fun c1 => ?_, fun c1_4 => ⟨fun c1 => ?_, fun c1_5 => ⟨fun c1 => ?_, fun c1_6 => ⟨fun c1 => ?_, fun c1_7 => ⟨fun c1 => ?_, fun c1_8 => ⟨fun c1 => ?_, fun c1_9 => ⟨fun c1 => ?_, fun c1_10 => ⟨fun c1 => ?_, fun c1_11 => ?_⟩⟩⟩⟩⟩⟩⟩⟩⟩⟩⟩⟩
  · have c1 : p0 = 35 := sw_v c1 (by decide)
    rw [if_pos c1] at q
    show Wp _ _ _ _ _ _ _ 128 [(0, .int p0)] [] (HS I L X)
    refine w_iconst (Ev.cm _) rfl ?_
    refine w_ireturn (Ev.cm _) rfl (by first | exact rok_0 | exact rok_1 | exact rok_b) rf0 ?_
    cases q
    exact g
  · have c1_0 : ¬ p0 = 35 := sw_w c1_0 (by decide)
    have c1 : p0 = 40 := sw_v c1 (by decide)
    rw [if_neg c1_0, if_pos c1] at q
    show Wp _ _ _ _ _ _ _ 128 [(0, .int p0)] [] (HS I L X)
    refine w_iconst (Ev.cm _) rfl ?_
    refine w_ireturn (Ev.cm _) rfl (by first | exact rok_0 | exact rok_1 | exact rok_b) rf0 ?_
    cases q
    exact g
  · have c1_0 : ¬ p0 = 35 := sw_w c1_0 (by decide)
    have c1_1 : ¬ p0 = 40 := sw_w c1_1 (by decide)
    have c1 : p0 = 41 := sw_v c1 (by decide)
    rw [if_neg c1_0, if_neg c1_1, if_pos c1] at q
    show Wp _ _ _ _ _ _ _ 128 [(0, .int p0)] [] (HS I L X)
    refine w_iconst (Ev.cm _) rfl ?_
    refine w_ireturn (Ev.cm _) rfl (by first | exact rok_0 | exact rok_1 | exact rok_b) rf0 ?_
    cases q
    exact g
  · have c1_0 : ¬ p0 = 35 := sw_w c1_0 (by decide)
    have c1_1 : ¬ p0 = 40 := sw_w c1_1 (by decide)
    have c1_2 : ¬ p0 = 41 := sw_w c1_2 (by decide)
    have c1 : p0 = 42 := sw_v c1 (by decide)
    rw [if_neg c1_0, if_neg c1_1, if_neg c1_2, if_pos c1] at q
    show Wp _ _ _ _ _ _ _ 128 [(0, .int p0)] [] (HS I L X)
    refine w_iconst (Ev.cm _) rfl ?_
    refine w_ireturn (Ev.cm _) rfl (by first | exact rok_0 | exact rok_1 | exact rok_b) rf0 ?_
    cases q
    exact g
  · have c1_0 : ¬ p0 = 35 := sw_w c1_0 (by decide)
    have c1_1 : ¬ p0 = 40 := sw_w c1_1 (by decide)
    have c1_2 : ¬ p0 = 41 := sw_w c1_2 (by decide)
    have c1_3 : ¬ p0 = 42 := sw_w c1_3 (by decide)
    have c1 : p0 = 43 := sw_v c1 (by decide)
    rw [if_neg c1_0, if_neg c1_1, if_neg c1_2, if_neg c1_3, if_pos c1] at q
    show Wp _ _ _ _ _ _ _ 128 [(0, .int p0)] [] (HS I L X)
    refine w_iconst (Ev.cm _) rfl ?_
    refine w_ireturn (Ev.cm _) rfl (by first | exact rok_0 | exact rok_1 | exact rok_b) rf0 ?_
    cases q
    exact g
  · have c1_0 : ¬ p0 = 35 := sw_w c1_0 (by decide)
    have c1_1 : ¬ p0 = 40 := sw_w c1_1 (by decide)
    have c1_2 : ¬ p0 = 41 := sw_w c1_2 (by decide)
    have c1_3 : ¬ p0 = 42 := sw_w c1_3 (by decide)
    have c1_4 : ¬ p0 = 43 := sw_w c1_4 (by decide)
    have c1 : p0 = 45 := sw_v c1 (by decide)
    rw [if_neg c1_0, if_neg c1_1, if_neg c1_2, if_neg c1_3, if_neg c1_4, if_pos c1] at q
    show Wp _ _ _ _ _ _ _ 128 [(0, .int p0)] [] (HS I L X)
    refine w_iconst (Ev.cm _) rfl ?_
    refine w_ireturn (Ev.cm _) rfl (by first | exact rok_0 | exact rok_1 | exact rok_b) rf0 ?_
    cases q
    exact g
  · have c1_0 : ¬ p0 = 35 := sw_w c1_0 (by decide)
    have c1_1 : ¬ p0 = 40 := sw_w c1_1 (by decide)
    have c1_2 : ¬ p0 = 41 := sw_w c1_2 (by decide)
    have c1_3 : ¬ p0 = 42 := sw_w c1_3 (by decide)
    have c1_4 : ¬ p0 = 43 := sw_w c1_4 (by decide)
    have c1_5 : ¬ p0 = 45 := sw_w c1_5 (by decide)
    have c1 : p0 = 47 := sw_v c1 (by decide)
    rw [if_neg c1_0, if_neg c1_1, if_neg c1_2, if_neg c1_3, if_neg c1_4, if_neg c1_5, if_pos c1] at q
    show Wp _ _ _ _ _ _ _ 128 [(0, .int p0)] [] (HS I L X)
    refine w_iconst (Ev.cm _) rfl ?_
    refine w_ireturn (Ev.cm _) rfl (by first | exact rok_0 | exact rok_1 | exact rok_b) rf0 ?_
    cases q
    exact g
  · have c1_0 : ¬ p0 = 35 := sw_w c1_0 (by decide)
    have c1_1 : ¬ p0 = 40 := sw_w c1_1 (by decide)
    have c1_2 : ¬ p0 = 41 := sw_w c1_2 (by decide)
    have c1_3 : ¬ p0 = 42 := sw_w c1_3 (by decide)
    have c1_4 : ¬ p0 = 43 := sw_w c1_4 (by decide)
    have c1_5 : ¬ p0 = 45 := sw_w c1_5 (by decide)
    have c1_6 : ¬ p0 = 47 := sw_w c1_6 (by decide)
    have c1 : p0 = 58 := sw_v c1 (by decide)
    rw [if_neg c1_0, if_neg c1_1, if_neg c1_2, if_neg c1_3, if_neg c1_4, if_neg c1_5, if_neg c1_6, if_pos c1] at q
    show Wp _ _ _ _ _ _ _ 128 [(0, .int p0)] [] (HS I L X)
    refine w_iconst (Ev.cm _) rfl ?_
    refine w_ireturn (Ev.cm _) rfl (by first | exact rok_0 | exact rok_1 | exact rok_b) rf0 ?_
    cases q
    exact g
  · have c1_0 : ¬ p0 = 35 := sw_w c1_0 (by decide)
    have c1_1 : ¬ p0 = 40 := sw_w c1_1 (by decide)
    have c1_2 : ¬ p0 = 41 := sw_w c1_2 (by decide)
    have c1_3 : ¬ p0 = 42 := sw_w c1_3 (by decide)
    have c1_4 : ¬ p0 = 43 := sw_w c1_4 (by decide)
    have c1_5 : ¬ p0 = 45 := sw_w c1_5 (by decide)
    have c1_6 : ¬ p0 = 47 := sw_w c1_6 (by decide)
    have c1_7 : ¬ p0 = 58 := sw_w c1_7 (by decide)
    have c1 : p0 = 59 := sw_v c1 (by decide)
    rw [if_neg c1_0, if_neg c1_1, if_neg c1_2, if_neg c1_3, if_neg c1_4, if_neg c1_5, if_neg c1_6, if_neg c1_7, if_pos c1] at q
    show Wp _ _ _ _ _ _ _ 128 [(0, .int p0)] [] (HS I L X)
    refine w_iconst (Ev.cm _) rfl ?_
    refine w_ireturn (Ev.cm _) rfl (by first | exact rok_0 | exact rok_1 | exact rok_b) rf0 ?_
    cases q
    exact g
  · have c1_0 : ¬ p0 = 35 := sw_w c1_0 (by decide)
    have c1_1 : ¬ p0 = 40 := sw_w c1_1 (by decide)
    have c1_2 : ¬ p0 = 41 := sw_w c1_2 (by decide)
    have c1_3 : ¬ p0 = 42 := sw_w c1_3 (by decide)
    have c1_4 : ¬ p0 = 43 := sw_w c1_4 (by decide)
    have c1_5 : ¬ p0 = 45 := sw_w c1_5 (by decide)
    have c1_6 : ¬ p0 = 47 := sw_w c1_6 (by decide)
    have c1_7 : ¬ p0 = 58 := sw_w c1_7 (by decide)
    have c1_8 : ¬ p0 = 59 := sw_w c1_8 (by decide)
    have c1 : p0 = 60 := sw_v c1 (by decide)
    rw [if_neg c1_0, if_neg c1_1, if_neg c1_2, if_neg c1_3, if_neg c1_4, if_neg c1_5, if_neg c1_6, if_neg c1_7, if_neg c1_8, if_pos c1] at q
    show Wp _ _ _ _ _ _ _ 128 [(0, .int p0)] [] (HS I L X)
    refine w_iconst (Ev.cm _) rfl ?_
    refine w_ireturn (Ev.cm _) rfl (by first | exact rok_0 | exact rok_1 | exact rok_b) rf0 ?_
    cases q
    exact g
  · have c1_0 : ¬ p0 = 35 := sw_w c1_0 (by decide)
    have c1_1 : ¬ p0 = 40 := sw_w c1_1 (by decide)
    have c1_2 : ¬ p0 = 41 := sw_w c1_2 (by decide)
    have c1_3 : ¬ p0 = 42 := sw_w c1_3 (by decide)
    have c1_4 : ¬ p0 = 43 := sw_w c1_4 (by decide)
    have c1_5 : ¬ p0 = 45 := sw_w c1_5 (by decide)
    have c1_6 : ¬ p0 = 47 := sw_w c1_6 (by decide)
    have c1_7 : ¬ p0 = 58 := sw_w c1_7 (by decide)
    have c1_8 : ¬ p0 = 59 := sw_w c1_8 (by decide)
    have c1_9 : ¬ p0 = 60 := sw_w c1_9 (by decide)
    have c1 : p0 = 61 := sw_v c1 (by decide)
    rw [if_neg c1_0, if_neg c1_1, if_neg c1_2, if_neg c1_3, if_neg c1_4, if_neg c1_5, if_neg c1_6, if_neg c1_7, if_neg c1_8, if_neg c1_9, if_pos c1] at q
    show Wp _ _ _ _ _ _ _ 128 [(0, .int p0)] [] (HS I L X)
    refine w_iconst (Ev.cm _) rfl ?_
    refine w_ireturn (Ev.cm _) rfl (by first | exact rok_0 | exact rok_1 | exact rok_b) rf0 ?_
    cases q
    exact g
  · have c1_0 : ¬ p0 = 35 := sw_w c1_0 (by decide)
    have c1_1 : ¬ p0 = 40 := sw_w c1_1 (by decide)
    have c1_2 : ¬ p0 = 41 := sw_w c1_2 (by decide)
    have c1_3 : ¬ p0 = 42 := sw_w c1_3 (by decide)
    have c1_4 : ¬ p0 = 43 := sw_w c1_4 (by decide)
    have c1_5 : ¬ p0 = 45 := sw_w c1_5 (by decide)
    have c1_6 : ¬ p0 = 47 := sw_w c1_6 (by decide)
    have c1_7 : ¬ p0 = 58 := sw_w c1_7 (by decide)
    have c1_8 : ¬ p0 = 59 := sw_w c1_8 (by decide)
    have c1_9 : ¬ p0 = 60 := sw_w c1_9 (by decide)
    have c1_10 : ¬ p0 = 61 := sw_w c1_10 (by decide)
    have c1 : p0 = 62 := sw_v c1 (by decide)
    rw [if_neg c1_0, if_neg c1_1, if_neg c1_2, if_neg c1_3, if_neg c1_4, if_neg c1_5, if_neg c1_6, if_neg c1_7, if_neg c1_8, if_neg c1_9, if_neg c1_10, if_pos c1] at q
    show Wp _ _ _ _ _ _ _ 128 [(0, .int p0)] [] (HS I L X)
    refine w_iconst (Ev.cm _) rfl ?_
    refine w_ireturn (Ev.cm _) rfl (by first | exact rok_0 | exact rok_1 | exact rok_b) rf0 ?_
    cases q
    exact g
  · have c1_0 : ¬ p0 = 35 := sw_w c1_0 (by decide)
    have c1_1 : ¬ p0 = 40 := sw_w c1_1 (by decide)
    have c1_2 : ¬ p0 = 41 := sw_w c1_2 (by decide)
    have c1_3 : ¬ p0 = 42 := sw_w c1_3 (by decide)
    have c1_4 : ¬ p0 = 43 := sw_w c1_4 (by decide)
    have c1_5 : ¬ p0 = 45 := sw_w c1_5 (by decide)
    have c1_6 : ¬ p0 = 47 := sw_w c1_6 (by decide)
    have c1_7 : ¬ p0 = 58 := sw_w c1_7 (by decide)
    have c1_8 : ¬ p0 = 59 := sw_w c1_8 (by decide)
    have c1_9 : ¬ p0 = 60 := sw_w c1_9 (by decide)
    have c1_10 : ¬ p0 = 61 := sw_w c1_10 (by decide)
    have c1_11 : ¬ p0 = 62 := sw_w c1_11 (by decide)
    rw [if_neg c1_0, if_neg c1_1, if_neg c1_2, if_neg c1_3, if_neg c1_4, if_neg c1_5, if_neg c1_6, if_neg c1_7, if_neg c1_8, if_neg c1_9, if_neg c1_10, if_neg c1_11] at q
    show Wp _ _ _ _ _ _ _ 130 [(0, .int p0)] [] (HS I L X)
    refine w_iconst (Ev.cm _) rfl ?_
    refine w_ireturn (Ev.cm _) rfl (by first | exact rok_0 | exact rok_1 | exact rok_b) rf0 ?_
    cases q
    exact g
