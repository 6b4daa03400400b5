/-! methods, read back by program -/
def LO_M_summedUp_38 (fu : Nat) : Nat → Int32 → Int32 → Int32 → Int32 → Int32 → Int32 → Int32 → (Nat → Nat → Int32) → (Nat → Nat → Int64) → Option (Int64 × (Nat → Nat → Int32) × (Nat → Nat → Int64))
  | 0, _, _, _, _, _, _, _, _, _ => none
  | n + 1, x1, x2, x3, x4, x5, x6, x7, I, L => if 0 ≤ x3 + 2 ∧ x3 + 2 < 2724 then (if I 334 ((x3 + 2).toNatClampNeg) ≤ x7 then (some (L 338 0, I, L)) else (if 0 ≤ x4 + ((2 : Int32) * x7) ∧ x4 + ((2 : Int32) * x7) < 2724 then (if 0 ≤ (x4 + ((2 : Int32) * x7)) + 1 ∧ (x4 + ((2 : Int32) * x7)) + 1 < 2724 then (if 1 < I 334 ((x4 + ((2 : Int32) * x7)).toNatClampNeg) then (if I 334 ((x4 + ((2 : Int32) * x7)).toNatClampNeg) = 3 then (if 0 ≤ x6 + (-1) ∧ x6 + (-1) < 330 then (if I 339 ((x6 + (-1)).toNatClampNeg) = 0 then (if 0 ≤ x5 + (-1) ∧ x5 + (-1) < 330 then (if 0 ≤ (x5 + (-1)) - 1 ∧ (x5 + (-1)) - 1 < 330 then (LO_M_summedUp_38 fu n x1 x2 x3 x4 (x5 + (-1)) (x6 + (-1)) (x7 + 1) I (sL L 338 (((x5 + (-1)) - 1).toNatClampNeg) (L 338 ((x5 + (-1)).toNatClampNeg)))) else none) else none) else (LO_M_summedUp_38 fu n x1 x2 x3 x4 (x5 + (-1)) (x6 + (-1)) (x7 + 1) I L)) else none) else (if I 334 ((x4 + ((2 : Int32) * x7)).toNatClampNeg) = 5 then (if I 334 ((x4 + ((2 : Int32) * x7)).toNatClampNeg) = 5 then (if 0 ≤ x5 - 1 ∧ x5 - 1 < 330 then (if 0 ≤ x5 - 1 ∧ x5 - 1 < 330 then (LO_M_summedUp_38 fu n x1 x2 x3 x4 x5 x6 (x7 + 1) I (sL L 338 ((x5 - 1).toNatClampNeg) (-(L 338 ((x5 - 1).toNatClampNeg))))) else none) else none) else (if 0 ≤ x5 - 1 ∧ x5 - 1 < 330 then ((FO_M_cupOf fu (L 338 ((x5 - 1).toNatClampNeg)) I L).bind (fun u5 => let r5 := u5.1; let I5 := u5.2.1; let L5 := u5.2.2; if 0 ≤ x5 - 1 ∧ x5 - 1 < 330 then (LO_M_summedUp_38 fu n x1 x2 x3 x4 x5 x6 (x7 + 1) I5 (sL L5 338 ((x5 - 1).toNatClampNeg) r5)) else none)) else none)) else (if I 334 ((x4 + ((2 : Int32) * x7)).toNatClampNeg) = 2 then (if I 334 ((x4 + ((2 : Int32) * x7)).toNatClampNeg) = 5 then (if 0 ≤ x5 - 1 ∧ x5 - 1 < 330 then (if 0 ≤ x5 - 1 ∧ x5 - 1 < 330 then (LO_M_summedUp_38 fu n x1 x2 x3 x4 x5 x6 (x7 + 1) I (sL L 338 ((x5 - 1).toNatClampNeg) (-(L 338 ((x5 - 1).toNatClampNeg))))) else none) else none) else (if 0 ≤ x5 - 1 ∧ x5 - 1 < 330 then ((FO_M_cupOf fu (L 338 ((x5 - 1).toNatClampNeg)) I L).bind (fun u31 => let r31 := u31.1; let I31 := u31.2.1; let L31 := u31.2.2; if 0 ≤ x5 - 1 ∧ x5 - 1 < 330 then (LO_M_summedUp_38 fu n x1 x2 x3 x4 x5 x6 (x7 + 1) I31 (sL L31 338 ((x5 - 1).toNatClampNeg) r31)) else none)) else none)) else (if 10 ≤ I 334 ((x4 + ((2 : Int32) * x7)).toNatClampNeg) then (if 20 ≤ I 334 ((x4 + ((2 : Int32) * x7)).toNatClampNeg) then (if I 334 ((x4 + ((2 : Int32) * x7)).toNatClampNeg) = 20 then (if 0 ≤ x6 - 1 ∧ x6 - 1 < 330 then (if I 339 ((x6 - 1).toNatClampNeg) = 0 then (if 0 ≤ x6 - 1 ∧ x6 - 1 < 330 then (LO_M_summedUp_38 fu n x1 x2 x3 x4 x5 x6 (x7 + 1) (sI I 339 ((x6 - 1).toNatClampNeg) 1) L) else none) else (if 0 ≤ x6 - 1 ∧ x6 - 1 < 330 then (LO_M_summedUp_38 fu n x1 x2 x3 x4 x5 x6 (x7 + 1) (sI I 339 ((x6 - 1).toNatClampNeg) 0) L) else none)) else none) else (if 0 ≤ (x6 + (-1)) - 1 ∧ (x6 + (-1)) - 1 < 330 then (if 0 ≤ x6 + (-1) ∧ x6 + (-1) < 330 then ((FO_M_joined fu (I 334 ((x4 + ((2 : Int32) * x7)).toNatClampNeg)) (I 339 (((x6 + (-1)) - 1).toNatClampNeg)) (I 339 ((x6 + (-1)).toNatClampNeg)) I L).bind (fun u11 => let r11 := u11.1; let I11 := u11.2.1; let L11 := u11.2.2; if 0 ≤ (x6 + (-1)) - 1 ∧ (x6 + (-1)) - 1 < 330 then (if r11 = 0 ∨ r11 = 1 then (LO_M_summedUp_38 fu n x1 x2 x3 x4 x5 (x6 + (-1)) (x7 + 1) (sI I11 339 (((x6 + (-1)) - 1).toNatClampNeg) r11) L11) else none) else none)) else none) else none)) else (if 0 ≤ x5 + (-2) ∧ x5 + (-2) < 330 then (if 0 ≤ (x5 + (-2)) + 1 ∧ (x5 + (-2)) + 1 < 330 then ((FO_M_isAsked fu (I 334 ((x4 + ((2 : Int32) * x7)).toNatClampNeg)) (L 338 ((x5 + (-2)).toNatClampNeg)) (L 338 (((x5 + (-2)) + 1).toNatClampNeg)) I L).bind (fun u19 => let r19 := u19.1; let I19 := u19.2.1; let L19 := u19.2.2; if 0 ≤ x6 ∧ x6 < 330 then (if r19 = 0 ∨ r19 = 1 then (LO_M_summedUp_38 fu n x1 x2 x3 x4 (x5 + (-2)) (x6 + 1) (x7 + 1) (sI I19 339 x6.toNatClampNeg r19) L19) else none) else none)) else none) else none)) else (if I 334 ((x4 + ((2 : Int32) * x7)).toNatClampNeg) = 4 then (if 0 ≤ (x5 + (-1)) - 1 ∧ (x5 + (-1)) - 1 < 330 then (if 0 ≤ x5 + (-1) ∧ x5 + (-1) < 330 then ((FO_M_nearOf fu (L 338 (((x5 + (-1)) - 1).toNatClampNeg)) (L 338 ((x5 + (-1)).toNatClampNeg)) I L).bind (fun u28 => let r28 := u28.1; let I28 := u28.2.1; let L28 := u28.2.2; if 0 ≤ (x5 + (-1)) - 1 ∧ (x5 + (-1)) - 1 < 330 then (LO_M_summedUp_38 fu n x1 x2 x3 x4 (x5 + (-1)) x6 (x7 + 1) I28 (sL L28 338 (((x5 + (-1)) - 1).toNatClampNeg) r28)) else none)) else none) else none) else (if 0 ≤ (x5 + (-1)) - 1 ∧ (x5 + (-1)) - 1 < 330 then (if 0 ≤ x5 + (-1) ∧ x5 + (-1) < 330 then ((FO_M_two fu (I 334 ((x4 + ((2 : Int32) * x7)).toNatClampNeg)) (L 338 (((x5 + (-1)) - 1).toNatClampNeg)) (L 338 ((x5 + (-1)).toNatClampNeg)) I L).bind (fun u24 => let r24 := u24.1; let I24 := u24.2.1; let L24 := u24.2.2; if 0 ≤ (x5 + (-1)) - 1 ∧ (x5 + (-1)) - 1 < 330 then (LO_M_summedUp_38 fu n x1 x2 x3 x4 (x5 + (-1)) x6 (x7 + 1) I24 (sL L24 338 (((x5 + (-1)) - 1).toNatClampNeg) r24)) else none)) else none) else none)))))) else (if I 334 ((x4 + ((2 : Int32) * x7)).toNatClampNeg) = 0 then (if 0 ≤ x5 ∧ x5 < 330 then (LO_M_summedUp_38 fu n x1 x2 x3 x4 (x5 + 1) x6 (x7 + 1) I (sL L 338 x5.toNatClampNeg (((I 334 (((x4 + ((2 : Int32) * x7)) + 1).toNatClampNeg)) : Int32).toInt64))) else none) else (if 0 ≤ I 334 (((x4 + ((2 : Int32) * x7)) + 1).toNatClampNeg) ∧ I 334 (((x4 + ((2 : Int32) * x7)) + 1).toNatClampNeg) < 8 then (if 0 ≤ x5 ∧ x5 < 330 then (LO_M_summedUp_38 fu n x1 x2 x3 x4 (x5 + 1) x6 (x7 + 1) I (sL L 338 x5.toNatClampNeg (((I 337 ((I 334 (((x4 + ((2 : Int32) * x7)) + 1).toNatClampNeg)).toNatClampNeg)) : Int32).toInt64))) else none) else none))) else none) else none)) else none
set_option maxHeartbeats 20000000 in
set_option maxRecDepth 20000 in
theorem lo_M_summedUp_38 {d fu n0 s0 : Nat} {X : Nat × (Nat → Int32)} {Q : PQ} {res : Int64 × (Nat → Nat → Int32) × (Nat → Nat → Int64)}  (g : Q (some (.long res.1)) (HS res.2.1 res.2.2 X)) : ∀ (n : Nat) (x1 : Int32) (x2 : Int32) (x3 : Int32) (x4 : Int32) (x5 : Int32) (x6 : Int32) (x7 : Int32) (I : Nat → Nat → Int32) (L : Nat → Nat → Int64), LO_M_summedUp_38 fu n x1 x2 x3 x4 x5 x6 x7 I L = some res → Wp (Ev (d + 4)) cd_M_summedUp (0, 0) (some .long) n0 s0 Q 38 [(0, .ref 331), (1, .int x1), (2, .int x2), (3, .int x3), (4, .int x4), (5, .int x5), (6, .int x6), (7, .int x7)] [] (HS I L X) := by
  intro n
  induction n with
  | zero => intro _ _ _ _ _ _ _ _ _ q; cases q
  | succ n ih =>
    intro x1 x2 x3 x4 x5 x6 x7 I L q
    unfold LO_M_summedUp_38 at q
    refine w_iload (Ev.cm _) rfl rfl ?_
    refine w_aload_n (Ev.cm _) rfl rfl ?_
    refine w_getR (q := 334) (Ev.cm _) rfl (Nat.le_of_ble_eq_true rfl) rfl rfl ?_
    refine w_iload_n (Ev.cm _) rfl rfl ?_
    refine w_iconst (Ev.cm _) rfl ?_
    refine w_iadd (Ev.cm _) rfl ?_
    obtain ⟨b1, q⟩ := ois q
    refine w_iald (Ev.cm _) rfl (Nat.le_of_ble_eq_true rfl) rfl (show vp_in (x3 + 2) 2724 from vpI 2724 (by decide) b1.1 b1.2) ?_
    refine w_icmp_ge (Ev.cm _) rfl (fun c1 => ?_) (fun c1 => ?_)
    · have c1 : I 334 ((x3 + 2).toNatClampNeg) ≤ x7 := c1
      rw [if_pos c1] at q
      refine w_aload_n (Ev.cm _) rfl rfl ?_
      refine w_getR (q := 338) (Ev.cm _) rfl (Nat.le_of_ble_eq_true rfl) rfl rfl ?_
      refine w_iconst (Ev.cm _) rfl ?_
      refine w_lald (Ev.cm _) rfl (Nat.le_of_ble_eq_true rfl) rfl (show vp_in 0 330 from vpI 330 (by decide) (by decide) (by decide)) ?_
      refine w_lreturn (Ev.cm _) rfl rfl rf0 ?_
      cases q
      exact g
    · have c1 : ¬ (I 334 ((x3 + 2).toNatClampNeg) ≤ x7) := c1
      rw [if_neg c1] at q
      refine w_aload_n (Ev.cm _) rfl rfl ?_
      refine w_getR (q := 334) (Ev.cm _) rfl (Nat.le_of_ble_eq_true rfl) rfl rfl ?_
      refine w_iload (Ev.cm _) rfl rfl ?_
      refine w_iconst (Ev.cm _) rfl ?_
      refine w_iload (Ev.cm _) rfl rfl ?_
      refine w_imul (Ev.cm _) rfl ?_
      refine w_iadd (Ev.cm _) rfl ?_
      obtain ⟨b2, q⟩ := ois q
      refine w_iald (Ev.cm _) rfl (Nat.le_of_ble_eq_true rfl) rfl (show vp_in (x4 + ((2 : Int32) * x7)) 2724 from vpI 2724 (by decide) b2.1 b2.2) ?_
      refine w_istore (ls2 := [(0, .ref 331), (1, .int x1), (2, .int x2), (3, .int x3), (4, .int x4), (5, .int x5), (6, .int x6), (7, .int x7), (8, .int (I 334 ((x4 + ((2 : Int32) * x7)).toNatClampNeg)))]) (Ev.cm _) rfl rfl ?_
      refine w_aload_n (Ev.cm _) rfl rfl ?_
      refine w_getR (q := 334) (Ev.cm _) rfl (Nat.le_of_ble_eq_true rfl) rfl rfl ?_
      refine w_iload (Ev.cm _) rfl rfl ?_
      refine w_iconst (Ev.cm _) rfl ?_
      refine w_iload (Ev.cm _) rfl rfl ?_
      refine w_imul (Ev.cm _) rfl ?_
      refine w_iadd (Ev.cm _) rfl ?_
      refine w_iconst (Ev.cm _) rfl ?_
      refine w_iadd (Ev.cm _) rfl ?_
      obtain ⟨b3, q⟩ := ois q
      refine w_iald (Ev.cm _) rfl (Nat.le_of_ble_eq_true rfl) rfl (show vp_in ((x4 + ((2 : Int32) * x7)) + 1) 2724 from vpI 2724 (by decide) b3.1 b3.2) ?_
      refine w_istore (ls2 := [(0, .ref 331), (1, .int x1), (2, .int x2), (3, .int x3), (4, .int x4), (5, .int x5), (6, .int x6), (7, .int x7), (8, .int (I 334 ((x4 + ((2 : Int32) * x7)).toNatClampNeg))), (9, .int (I 334 (((x4 + ((2 : Int32) * x7)) + 1).toNatClampNeg)))]) (Ev.cm _) rfl rfl ?_
      refine w_iload (Ev.cm _) rfl rfl ?_
      refine w_iconst (Ev.cm _) rfl ?_
      refine w_icmp_gt (Ev.cm _) rfl (fun c2 => ?_) (fun c2 => ?_)
      · have c2 : 1 < I 334 ((x4 + ((2 : Int32) * x7)).toNatClampNeg) := c2
        rw [if_pos c2] at q
        refine w_iload (Ev.cm _) rfl rfl ?_
        refine w_iconst (Ev.cm _) rfl ?_
        refine w_icmp_ne (Ev.cm _) rfl (fun c3 => ?_) (fun c3 => ?_)
        · have c3 : ¬ (I 334 ((x4 + ((2 : Int32) * x7)).toNatClampNeg) = 3) := c3
          rw [if_neg c3] at q
          refine w_iload (Ev.cm _) rfl rfl ?_
          refine w_iconst (Ev.cm _) rfl ?_
          refine w_icmp_eq (Ev.cm _) rfl (fun c4 => ?_) (fun c4 => ?_)
          · have c4 : I 334 ((x4 + ((2 : Int32) * x7)).toNatClampNeg) = 5 := c4
            rw [if_pos c4] at q
            refine w_aload_n (Ev.cm _) rfl rfl ?_
            refine w_getR (q := 338) (Ev.cm _) rfl (Nat.le_of_ble_eq_true rfl) rfl rfl ?_
            refine w_iload (Ev.cm _) rfl rfl ?_
            refine w_iconst (Ev.cm _) rfl ?_
            refine w_isub (Ev.cm _) rfl ?_
            refine w_iload (Ev.cm _) rfl rfl ?_
            refine w_iconst (Ev.cm _) rfl ?_
            refine w_icmp_ne (Ev.cm _) rfl (fun c5 => ?_) (fun c5 => ?_)
            · have c5 : ¬ (I 334 ((x4 + ((2 : Int32) * x7)).toNatClampNeg) = 5) := c5
              rw [if_neg c5] at q
              refine w_aload_n (Ev.cm _) rfl rfl ?_
              refine w_aload_n (Ev.cm _) rfl rfl ?_
              refine w_getR (q := 338) (Ev.cm _) rfl (Nat.le_of_ble_eq_true rfl) rfl rfl ?_
              refine w_iload (Ev.cm _) rfl rfl ?_
              refine w_iconst (Ev.cm _) rfl ?_
              refine w_isub (Ev.cm _) rfl ?_
              obtain ⟨b4, q⟩ := ois q
              refine w_lald (Ev.cm _) rfl (Nat.le_of_ble_eq_true rfl) rfl (show vp_in (x5 - 1) 330 from vpI 330 (by decide) b4.1 b4.2) ?_
              obtain ⟨⟨r5, I5, L5⟩, e5, q⟩ := obs q
              dsimp only at q
              refine w_cvirt (o := 331) (as := [.long (L 338 ((x5 - 1).toNatClampNeg))]) (st := [.int (x5 - 1), .ref 338]) (Ev.cm _) rfl rfl rfl (Nat.le_of_ble_eq_true rfl) (Nat.le_of_ble_eq_true rfl) rfl (Nat.le_of_ble_eq_true rfl) (eo_M_cupOf (g := ?_) e5)
              show Wp _ _ _ _ _ _ _ 212 [(0, .ref 331), (1, .int x1), (2, .int x2), (3, .int x3), (4, .int x4), (5, .int x5), (6, .int x6), (7, .int x7), (8, .int (I 334 ((x4 + ((2 : Int32) * x7)).toNatClampNeg))), (9, .int (I 334 (((x4 + ((2 : Int32) * x7)) + 1).toNatClampNeg)))] [.long r5, .int (x5 - 1), .ref 338] (HS I5 L5 X)
              obtain ⟨b6, q⟩ := ois q
              refine w_last (Ev.cm _) rfl (Nat.le_of_ble_eq_true rfl) rfl (show vp_in (x5 - 1) 330 from vpI 330 (by decide) b6.1 b6.2) ?_
              refine w_goto (Ev.cm _) rfl ?_
              refine w_iinc (ls2 := [(0, .ref 331), (1, .int x1), (2, .int x2), (3, .int x3), (4, .int x4), (5, .int x5), (6, .int x6), (7, .int (x7 + 1)), (8, .int (I 334 ((x4 + ((2 : Int32) * x7)).toNatClampNeg))), (9, .int (I 334 (((x4 + ((2 : Int32) * x7)) + 1).toNatClampNeg)))]) (Ev.cm _) rfl rfl rfl ?_
              refine w_goto (Ev.cm _) rfl ?_
              show Wp _ _ _ _ _ _ _ 38 [(0, .ref 331), (1, .int x1), (2, .int x2), (3, .int x3), (4, .int x4), (5, .int x5), (6, .int x6), (7, .int (x7 + 1)), (8, .int (I 334 ((x4 + ((2 : Int32) * x7)).toNatClampNeg))), (9, .int (I 334 (((x4 + ((2 : Int32) * x7)) + 1).toNatClampNeg)))] [] (HS I5 (sL L5 338 ((x5 - 1).toNatClampNeg) r5) X)
              refine Wp.sub [0, 1, 2, 3, 4, 5, 6, 7] (ls2 := [(0, .ref 331), (1, .int x1), (2, .int x2), (3, .int x3), (4, .int x4), (5, .int x5), (6, .int x6), (7, .int (x7 + 1))]) rfl ?_
              exact ih _ _ _ _ _ _ _ _ _ q
            · have c5 : I 334 ((x4 + ((2 : Int32) * x7)).toNatClampNeg) = 5 := c5
              rw [if_pos c5] at q
              refine w_aload_n (Ev.cm _) rfl rfl ?_
              refine w_getR (q := 338) (Ev.cm _) rfl (Nat.le_of_ble_eq_true rfl) rfl rfl ?_
              refine w_iload (Ev.cm _) rfl rfl ?_
              refine w_iconst (Ev.cm _) rfl ?_
              refine w_isub (Ev.cm _) rfl ?_
              obtain ⟨b7, q⟩ := ois q
              refine w_lald (Ev.cm _) rfl (Nat.le_of_ble_eq_true rfl) rfl (show vp_in (x5 - 1) 330 from vpI 330 (by decide) b7.1 b7.2) ?_
              refine w_lneg (Ev.cm _) rfl ?_
              refine w_goto (Ev.cm _) rfl ?_
              obtain ⟨b8, q⟩ := ois q
              refine w_last (Ev.cm _) rfl (Nat.le_of_ble_eq_true rfl) rfl (show vp_in (x5 - 1) 330 from vpI 330 (by decide) b8.1 b8.2) ?_
              refine w_goto (Ev.cm _) rfl ?_
              refine w_iinc (ls2 := [(0, .ref 331), (1, .int x1), (2, .int x2), (3, .int x3), (4, .int x4), (5, .int x5), (6, .int x6), (7, .int (x7 + 1)), (8, .int (I 334 ((x4 + ((2 : Int32) * x7)).toNatClampNeg))), (9, .int (I 334 (((x4 + ((2 : Int32) * x7)) + 1).toNatClampNeg)))]) (Ev.cm _) rfl rfl rfl ?_
              refine w_goto (Ev.cm _) rfl ?_
              show Wp _ _ _ _ _ _ _ 38 [(0, .ref 331), (1, .int x1), (2, .int x2), (3, .int x3), (4, .int x4), (5, .int x5), (6, .int x6), (7, .int (x7 + 1)), (8, .int (I 334 ((x4 + ((2 : Int32) * x7)).toNatClampNeg))), (9, .int (I 334 (((x4 + ((2 : Int32) * x7)) + 1).toNatClampNeg)))] [] (HS I (sL L 338 ((x5 - 1).toNatClampNeg) (-(L 338 ((x5 - 1).toNatClampNeg)))) X)
              refine Wp.sub [0, 1, 2, 3, 4, 5, 6, 7] (ls2 := [(0, .ref 331), (1, .int x1), (2, .int x2), (3, .int x3), (4, .int x4), (5, .int x5), (6, .int x6), (7, .int (x7 + 1))]) rfl ?_
              exact ih _ _ _ _ _ _ _ _ _ q
          · have c4 : ¬ (I 334 ((x4 + ((2 : Int32) * x7)).toNatClampNeg) = 5) := c4
            rw [if_neg c4] at q
            refine w_iload (Ev.cm _) rfl rfl ?_
            refine w_iconst (Ev.cm _) rfl ?_
            refine w_icmp_ne (Ev.cm _) rfl (fun c6 => ?_) (fun c6 => ?_)
            · have c6 : ¬ (I 334 ((x4 + ((2 : Int32) * x7)).toNatClampNeg) = 2) := c6
              rw [if_neg c6] at q
              refine w_iload (Ev.cm _) rfl rfl ?_
              refine w_bipush (Ev.cm _) rfl ?_
              refine w_icmp_ge (Ev.cm _) rfl (fun c7 => ?_) (fun c7 => ?_)
              · have c7 : 10 ≤ I 334 ((x4 + ((2 : Int32) * x7)).toNatClampNeg) := c7
                rw [if_pos c7] at q
                refine w_iload (Ev.cm _) rfl rfl ?_
                refine w_bipush (Ev.cm _) rfl ?_
                refine w_icmp_ge (Ev.cm _) rfl (fun c8 => ?_) (fun c8 => ?_)
                · have c8 : 20 ≤ I 334 ((x4 + ((2 : Int32) * x7)).toNatClampNeg) := c8
                  rw [if_pos c8] at q
                  refine w_iload (Ev.cm _) rfl rfl ?_
                  refine w_bipush (Ev.cm _) rfl ?_
                  refine w_icmp_ne (Ev.cm _) rfl (fun c9 => ?_) (fun c9 => ?_)
                  · have c9 : ¬ (I 334 ((x4 + ((2 : Int32) * x7)).toNatClampNeg) = 20) := c9
                    rw [if_neg c9] at q
                    refine w_iinc (ls2 := [(0, .ref 331), (1, .int x1), (2, .int x2), (3, .int x3), (4, .int x4), (5, .int x5), (6, .int (x6 + (-1))), (7, .int x7), (8, .int (I 334 ((x4 + ((2 : Int32) * x7)).toNatClampNeg))), (9, .int (I 334 (((x4 + ((2 : Int32) * x7)) + 1).toNatClampNeg)))]) (Ev.cm _) rfl rfl rfl ?_
                    refine w_aload_n (Ev.cm _) rfl rfl ?_
                    refine w_getR (q := 339) (Ev.cm _) rfl (Nat.le_of_ble_eq_true rfl) rfl rfl ?_
                    refine w_iload (Ev.cm _) rfl rfl ?_
                    refine w_iconst (Ev.cm _) rfl ?_
                    refine w_isub (Ev.cm _) rfl ?_
                    refine w_iload (Ev.cm _) rfl rfl ?_
                    refine w_aload_n (Ev.cm _) rfl rfl ?_
                    refine w_getR (q := 339) (Ev.cm _) rfl (Nat.le_of_ble_eq_true rfl) rfl rfl ?_
                    refine w_iload (Ev.cm _) rfl rfl ?_
                    refine w_iconst (Ev.cm _) rfl ?_
                    refine w_isub (Ev.cm _) rfl ?_
                    obtain ⟨b9, q⟩ := ois q
                    refine w_bald (Ev.cm _) rfl (Nat.le_of_ble_eq_true rfl) rfl (show vp_in ((x6 + (-1)) - 1) 330 from vpI 330 (by decide) b9.1 b9.2) ?_
                    refine w_aload_n (Ev.cm _) rfl rfl ?_
                    refine w_getR (q := 339) (Ev.cm _) rfl (Nat.le_of_ble_eq_true rfl) rfl rfl ?_
                    refine w_iload (Ev.cm _) rfl rfl ?_
                    obtain ⟨b10, q⟩ := ois q
                    refine w_bald (Ev.cm _) rfl (Nat.le_of_ble_eq_true rfl) rfl (show vp_in (x6 + (-1)) 330 from vpI 330 (by decide) b10.1 b10.2) ?_
                    obtain ⟨⟨r11, I11, L11⟩, e11, q⟩ := obs q
                    dsimp only at q
                    refine w_cstat (as := [.int (I 334 ((x4 + ((2 : Int32) * x7)).toNatClampNeg)), .int (I 339 (((x6 + (-1)) - 1).toNatClampNeg)), .int (I 339 ((x6 + (-1)).toNatClampNeg))]) (st := [.int ((x6 + (-1)) - 1), .ref 339]) (Ev.cm _) rfl rfl rfl (Nat.le_of_ble_eq_true rfl) (Nat.le_of_ble_eq_true rfl) (eo_M_joined (g := ?_) e11)
                    show Wp _ _ _ _ _ _ _ 399 [(0, .ref 331), (1, .int x1), (2, .int x2), (3, .int x3), (4, .int x4), (5, .int x5), (6, .int (x6 + (-1))), (7, .int x7), (8, .int (I 334 ((x4 + ((2 : Int32) * x7)).toNatClampNeg))), (9, .int (I 334 (((x4 + ((2 : Int32) * x7)) + 1).toNatClampNeg)))] [.int r11, .int ((x6 + (-1)) - 1), .ref 339] (HS I11 L11 X)
                    obtain ⟨b12, q⟩ := ois q
                    obtain ⟨b13, q⟩ := ois q
                    refine w_bast (Ev.cm _) rfl (Nat.le_of_ble_eq_true rfl) rfl (show vp_in ((x6 + (-1)) - 1) 330 from vpI 330 (by decide) b12.1 b12.2) b13 ?_
                    refine w_iinc (ls2 := [(0, .ref 331), (1, .int x1), (2, .int x2), (3, .int x3), (4, .int x4), (5, .int x5), (6, .int (x6 + (-1))), (7, .int (x7 + 1)), (8, .int (I 334 ((x4 + ((2 : Int32) * x7)).toNatClampNeg))), (9, .int (I 334 (((x4 + ((2 : Int32) * x7)) + 1).toNatClampNeg)))]) (Ev.cm _) rfl rfl rfl ?_
                    refine w_goto (Ev.cm _) rfl ?_
                    show Wp _ _ _ _ _ _ _ 38 [(0, .ref 331), (1, .int x1), (2, .int x2), (3, .int x3), (4, .int x4), (5, .int x5), (6, .int (x6 + (-1))), (7, .int (x7 + 1)), (8, .int (I 334 ((x4 + ((2 : Int32) * x7)).toNatClampNeg))), (9, .int (I 334 (((x4 + ((2 : Int32) * x7)) + 1).toNatClampNeg)))] [] (HS (sI I11 339 (((x6 + (-1)) - 1).toNatClampNeg) r11) L11 X)
                    refine Wp.sub [0, 1, 2, 3, 4, 5, 6, 7] (ls2 := [(0, .ref 331), (1, .int x1), (2, .int x2), (3, .int x3), (4, .int x4), (5, .int x5), (6, .int (x6 + (-1))), (7, .int (x7 + 1))]) rfl ?_
                    exact ih _ _ _ _ _ _ _ _ _ q
                  · have c9 : I 334 ((x4 + ((2 : Int32) * x7)).toNatClampNeg) = 20 := c9
                    rw [if_pos c9] at q
                    refine w_aload_n (Ev.cm _) rfl rfl ?_
                    refine w_getR (q := 339) (Ev.cm _) rfl (Nat.le_of_ble_eq_true rfl) rfl rfl ?_
                    refine w_iload (Ev.cm _) rfl rfl ?_
                    refine w_iconst (Ev.cm _) rfl ?_
                    refine w_isub (Ev.cm _) rfl ?_
                    refine w_aload_n (Ev.cm _) rfl rfl ?_
                    refine w_getR (q := 339) (Ev.cm _) rfl (Nat.le_of_ble_eq_true rfl) rfl rfl ?_
                    refine w_iload (Ev.cm _) rfl rfl ?_
                    refine w_iconst (Ev.cm _) rfl ?_
                    refine w_isub (Ev.cm _) rfl ?_
                    obtain ⟨b14, q⟩ := ois q
                    refine w_bald (Ev.cm _) rfl (Nat.le_of_ble_eq_true rfl) rfl (show vp_in (x6 - 1) 330 from vpI 330 (by decide) b14.1 b14.2) ?_
                    refine w_if_ne (Ev.cm _) rfl (fun c10 => ?_) (fun c10 => ?_)
                    · have c10 : ¬ (I 339 ((x6 - 1).toNatClampNeg) = 0) := c10
                      rw [if_neg c10] at q
                      refine w_iconst (Ev.cm _) rfl ?_
                      obtain ⟨b15, q⟩ := ois q
                      refine w_bast (Ev.cm _) rfl (Nat.le_of_ble_eq_true rfl) rfl (show vp_in (x6 - 1) 330 from vpI 330 (by decide) b15.1 b15.2) (by first | decide | exact bI_b) ?_
                      refine w_goto (Ev.cm _) rfl ?_
                      refine w_iinc (ls2 := [(0, .ref 331), (1, .int x1), (2, .int x2), (3, .int x3), (4, .int x4), (5, .int x5), (6, .int x6), (7, .int (x7 + 1)), (8, .int (I 334 ((x4 + ((2 : Int32) * x7)).toNatClampNeg))), (9, .int (I 334 (((x4 + ((2 : Int32) * x7)) + 1).toNatClampNeg)))]) (Ev.cm _) rfl rfl rfl ?_
                      refine w_goto (Ev.cm _) rfl ?_
                      show Wp _ _ _ _ _ _ _ 38 [(0, .ref 331), (1, .int x1), (2, .int x2), (3, .int x3), (4, .int x4), (5, .int x5), (6, .int x6), (7, .int (x7 + 1)), (8, .int (I 334 ((x4 + ((2 : Int32) * x7)).toNatClampNeg))), (9, .int (I 334 (((x4 + ((2 : Int32) * x7)) + 1).toNatClampNeg)))] [] (HS (sI I 339 ((x6 - 1).toNatClampNeg) 0) L X)
                      refine Wp.sub [0, 1, 2, 3, 4, 5, 6, 7] (ls2 := [(0, .ref 331), (1, .int x1), (2, .int x2), (3, .int x3), (4, .int x4), (5, .int x5), (6, .int x6), (7, .int (x7 + 1))]) rfl ?_
                      exact ih _ _ _ _ _ _ _ _ _ q
                    · have c10 : I 339 ((x6 - 1).toNatClampNeg) = 0 := c10
                      rw [if_pos c10] at q
                      refine w_iconst (Ev.cm _) rfl ?_
                      refine w_goto (Ev.cm _) rfl ?_
                      obtain ⟨b16, q⟩ := ois q
                      refine w_bast (Ev.cm _) rfl (Nat.le_of_ble_eq_true rfl) rfl (show vp_in (x6 - 1) 330 from vpI 330 (by decide) b16.1 b16.2) (by first | decide | exact bI_b) ?_
                      refine w_goto (Ev.cm _) rfl ?_
                      refine w_iinc (ls2 := [(0, .ref 331), (1, .int x1), (2, .int x2), (3, .int x3), (4, .int x4), (5, .int x5), (6, .int x6), (7, .int (x7 + 1)), (8, .int (I 334 ((x4 + ((2 : Int32) * x7)).toNatClampNeg))), (9, .int (I 334 (((x4 + ((2 : Int32) * x7)) + 1).toNatClampNeg)))]) (Ev.cm _) rfl rfl rfl ?_
                      refine w_goto (Ev.cm _) rfl ?_
                      show Wp _ _ _ _ _ _ _ 38 [(0, .ref 331), (1, .int x1), (2, .int x2), (3, .int x3), (4, .int x4), (5, .int x5), (6, .int x6), (7, .int (x7 + 1)), (8, .int (I 334 ((x4 + ((2 : Int32) * x7)).toNatClampNeg))), (9, .int (I 334 (((x4 + ((2 : Int32) * x7)) + 1).toNatClampNeg)))] [] (HS (sI I 339 ((x6 - 1).toNatClampNeg) 1) L X)
                      refine Wp.sub [0, 1, 2, 3, 4, 5, 6, 7] (ls2 := [(0, .ref 331), (1, .int x1), (2, .int x2), (3, .int x3), (4, .int x4), (5, .int x5), (6, .int x6), (7, .int (x7 + 1))]) rfl ?_
                      exact ih _ _ _ _ _ _ _ _ _ q
                · have c8 : ¬ (20 ≤ I 334 ((x4 + ((2 : Int32) * x7)).toNatClampNeg)) := c8
                  rw [if_neg c8] at q
                  refine w_iinc (ls2 := [(0, .ref 331), (1, .int x1), (2, .int x2), (3, .int x3), (4, .int x4), (5, .int (x5 + (-2))), (6, .int x6), (7, .int x7), (8, .int (I 334 ((x4 + ((2 : Int32) * x7)).toNatClampNeg))), (9, .int (I 334 (((x4 + ((2 : Int32) * x7)) + 1).toNatClampNeg)))]) (Ev.cm _) rfl rfl rfl ?_
                  refine w_aload_n (Ev.cm _) rfl rfl ?_
                  refine w_getR (q := 339) (Ev.cm _) rfl (Nat.le_of_ble_eq_true rfl) rfl rfl ?_
                  refine w_iload (Ev.cm _) rfl rfl ?_
                  refine w_iload (Ev.cm _) rfl rfl ?_
                  refine w_aload_n (Ev.cm _) rfl rfl ?_
                  refine w_getR (q := 338) (Ev.cm _) rfl (Nat.le_of_ble_eq_true rfl) rfl rfl ?_
                  refine w_iload (Ev.cm _) rfl rfl ?_
                  obtain ⟨b17, q⟩ := ois q
                  refine w_lald (Ev.cm _) rfl (Nat.le_of_ble_eq_true rfl) rfl (show vp_in (x5 + (-2)) 330 from vpI 330 (by decide) b17.1 b17.2) ?_
                  refine w_aload_n (Ev.cm _) rfl rfl ?_
                  refine w_getR (q := 338) (Ev.cm _) rfl (Nat.le_of_ble_eq_true rfl) rfl rfl ?_
                  refine w_iload (Ev.cm _) rfl rfl ?_
                  refine w_iconst (Ev.cm _) rfl ?_
                  refine w_iadd (Ev.cm _) rfl ?_
                  obtain ⟨b18, q⟩ := ois q
                  refine w_lald (Ev.cm _) rfl (Nat.le_of_ble_eq_true rfl) rfl (show vp_in ((x5 + (-2)) + 1) 330 from vpI 330 (by decide) b18.1 b18.2) ?_
                  obtain ⟨⟨r19, I19, L19⟩, e19, q⟩ := obs q
                  dsimp only at q
                  refine w_cstat (as := [.int (I 334 ((x4 + ((2 : Int32) * x7)).toNatClampNeg)), .long (L 338 ((x5 + (-2)).toNatClampNeg)), .long (L 338 (((x5 + (-2)) + 1).toNatClampNeg))]) (st := [.int x6, .ref 339]) (Ev.cm _) rfl rfl rfl (Nat.le_of_ble_eq_true rfl) (Nat.le_of_ble_eq_true rfl) (eo_M_isAsked (g := ?_) e19)
                  show Wp _ _ _ _ _ _ _ 324 [(0, .ref 331), (1, .int x1), (2, .int x2), (3, .int x3), (4, .int x4), (5, .int (x5 + (-2))), (6, .int x6), (7, .int x7), (8, .int (I 334 ((x4 + ((2 : Int32) * x7)).toNatClampNeg))), (9, .int (I 334 (((x4 + ((2 : Int32) * x7)) + 1).toNatClampNeg)))] [.int r19, .int x6, .ref 339] (HS I19 L19 X)
                  obtain ⟨b20, q⟩ := ois q
                  obtain ⟨b21, q⟩ := ois q
                  refine w_bast (Ev.cm _) rfl (Nat.le_of_ble_eq_true rfl) rfl (show vp_in x6 330 from vpI 330 (by decide) b20.1 b20.2) b21 ?_
                  refine w_iinc (ls2 := [(0, .ref 331), (1, .int x1), (2, .int x2), (3, .int x3), (4, .int x4), (5, .int (x5 + (-2))), (6, .int (x6 + 1)), (7, .int x7), (8, .int (I 334 ((x4 + ((2 : Int32) * x7)).toNatClampNeg))), (9, .int (I 334 (((x4 + ((2 : Int32) * x7)) + 1).toNatClampNeg)))]) (Ev.cm _) rfl rfl rfl ?_
                  refine w_goto (Ev.cm _) rfl ?_
                  refine w_iinc (ls2 := [(0, .ref 331), (1, .int x1), (2, .int x2), (3, .int x3), (4, .int x4), (5, .int (x5 + (-2))), (6, .int (x6 + 1)), (7, .int (x7 + 1)), (8, .int (I 334 ((x4 + ((2 : Int32) * x7)).toNatClampNeg))), (9, .int (I 334 (((x4 + ((2 : Int32) * x7)) + 1).toNatClampNeg)))]) (Ev.cm _) rfl rfl rfl ?_
                  refine w_goto (Ev.cm _) rfl ?_
                  show Wp _ _ _ _ _ _ _ 38 [(0, .ref 331), (1, .int x1), (2, .int x2), (3, .int x3), (4, .int x4), (5, .int (x5 + (-2))), (6, .int (x6 + 1)), (7, .int (x7 + 1)), (8, .int (I 334 ((x4 + ((2 : Int32) * x7)).toNatClampNeg))), (9, .int (I 334 (((x4 + ((2 : Int32) * x7)) + 1).toNatClampNeg)))] [] (HS (sI I19 339 x6.toNatClampNeg r19) L19 X)
                  refine Wp.sub [0, 1, 2, 3, 4, 5, 6, 7] (ls2 := [(0, .ref 331), (1, .int x1), (2, .int x2), (3, .int x3), (4, .int x4), (5, .int (x5 + (-2))), (6, .int (x6 + 1)), (7, .int (x7 + 1))]) rfl ?_
                  exact ih _ _ _ _ _ _ _ _ _ q
              · have c7 : ¬ (10 ≤ I 334 ((x4 + ((2 : Int32) * x7)).toNatClampNeg)) := c7
                rw [if_neg c7] at q
                refine w_iinc (ls2 := [(0, .ref 331), (1, .int x1), (2, .int x2), (3, .int x3), (4, .int x4), (5, .int (x5 + (-1))), (6, .int x6), (7, .int x7), (8, .int (I 334 ((x4 + ((2 : Int32) * x7)).toNatClampNeg))), (9, .int (I 334 (((x4 + ((2 : Int32) * x7)) + 1).toNatClampNeg)))]) (Ev.cm _) rfl rfl rfl ?_
                refine w_aload_n (Ev.cm _) rfl rfl ?_
                refine w_getR (q := 338) (Ev.cm _) rfl (Nat.le_of_ble_eq_true rfl) rfl rfl ?_
                refine w_iload (Ev.cm _) rfl rfl ?_
                refine w_iconst (Ev.cm _) rfl ?_
                refine w_isub (Ev.cm _) rfl ?_
                refine w_iload (Ev.cm _) rfl rfl ?_
                refine w_iconst (Ev.cm _) rfl ?_
                refine w_icmp_ne (Ev.cm _) rfl (fun c11 => ?_) (fun c11 => ?_)
                · have c11 : ¬ (I 334 ((x4 + ((2 : Int32) * x7)).toNatClampNeg) = 4) := c11
                  rw [if_neg c11] at q
                  refine w_iload (Ev.cm _) rfl rfl ?_
                  refine w_aload_n (Ev.cm _) rfl rfl ?_
                  refine w_getR (q := 338) (Ev.cm _) rfl (Nat.le_of_ble_eq_true rfl) rfl rfl ?_
                  refine w_iload (Ev.cm _) rfl rfl ?_
                  refine w_iconst (Ev.cm _) rfl ?_
                  refine w_isub (Ev.cm _) rfl ?_
                  obtain ⟨b22, q⟩ := ois q
                  refine w_lald (Ev.cm _) rfl (Nat.le_of_ble_eq_true rfl) rfl (show vp_in ((x5 + (-1)) - 1) 330 from vpI 330 (by decide) b22.1 b22.2) ?_
                  refine w_aload_n (Ev.cm _) rfl rfl ?_
                  refine w_getR (q := 338) (Ev.cm _) rfl (Nat.le_of_ble_eq_true rfl) rfl rfl ?_
                  refine w_iload (Ev.cm _) rfl rfl ?_
                  obtain ⟨b23, q⟩ := ois q
                  refine w_lald (Ev.cm _) rfl (Nat.le_of_ble_eq_true rfl) rfl (show vp_in (x5 + (-1)) 330 from vpI 330 (by decide) b23.1 b23.2) ?_
                  obtain ⟨⟨r24, I24, L24⟩, e24, q⟩ := obs q
                  dsimp only at q
                  refine w_cstat (as := [.int (I 334 ((x4 + ((2 : Int32) * x7)).toNatClampNeg)), .long (L 338 (((x5 + (-1)) - 1).toNatClampNeg)), .long (L 338 ((x5 + (-1)).toNatClampNeg))]) (st := [.int ((x5 + (-1)) - 1), .ref 338]) (Ev.cm _) rfl rfl rfl (Nat.le_of_ble_eq_true rfl) (Nat.le_of_ble_eq_true rfl) (eo_M_two (g := ?_) e24)
                  show Wp _ _ _ _ _ _ _ 283 [(0, .ref 331), (1, .int x1), (2, .int x2), (3, .int x3), (4, .int x4), (5, .int (x5 + (-1))), (6, .int x6), (7, .int x7), (8, .int (I 334 ((x4 + ((2 : Int32) * x7)).toNatClampNeg))), (9, .int (I 334 (((x4 + ((2 : Int32) * x7)) + 1).toNatClampNeg)))] [.long r24, .int ((x5 + (-1)) - 1), .ref 338] (HS I24 L24 X)
                  obtain ⟨b25, q⟩ := ois q
                  refine w_last (Ev.cm _) rfl (Nat.le_of_ble_eq_true rfl) rfl (show vp_in ((x5 + (-1)) - 1) 330 from vpI 330 (by decide) b25.1 b25.2) ?_
                  refine w_goto (Ev.cm _) rfl ?_
                  refine w_iinc (ls2 := [(0, .ref 331), (1, .int x1), (2, .int x2), (3, .int x3), (4, .int x4), (5, .int (x5 + (-1))), (6, .int x6), (7, .int (x7 + 1)), (8, .int (I 334 ((x4 + ((2 : Int32) * x7)).toNatClampNeg))), (9, .int (I 334 (((x4 + ((2 : Int32) * x7)) + 1).toNatClampNeg)))]) (Ev.cm _) rfl rfl rfl ?_
                  refine w_goto (Ev.cm _) rfl ?_
                  show Wp _ _ _ _ _ _ _ 38 [(0, .ref 331), (1, .int x1), (2, .int x2), (3, .int x3), (4, .int x4), (5, .int (x5 + (-1))), (6, .int x6), (7, .int (x7 + 1)), (8, .int (I 334 ((x4 + ((2 : Int32) * x7)).toNatClampNeg))), (9, .int (I 334 (((x4 + ((2 : Int32) * x7)) + 1).toNatClampNeg)))] [] (HS I24 (sL L24 338 (((x5 + (-1)) - 1).toNatClampNeg) r24) X)
                  refine Wp.sub [0, 1, 2, 3, 4, 5, 6, 7] (ls2 := [(0, .ref 331), (1, .int x1), (2, .int x2), (3, .int x3), (4, .int x4), (5, .int (x5 + (-1))), (6, .int x6), (7, .int (x7 + 1))]) rfl ?_
                  exact ih _ _ _ _ _ _ _ _ _ q
                · have c11 : I 334 ((x4 + ((2 : Int32) * x7)).toNatClampNeg) = 4 := c11
                  rw [if_pos c11] at q
                  refine w_aload_n (Ev.cm _) rfl rfl ?_
                  refine w_getR (q := 338) (Ev.cm _) rfl (Nat.le_of_ble_eq_true rfl) rfl rfl ?_
                  refine w_iload (Ev.cm _) rfl rfl ?_
                  refine w_iconst (Ev.cm _) rfl ?_
                  refine w_isub (Ev.cm _) rfl ?_
                  obtain ⟨b26, q⟩ := ois q
                  refine w_lald (Ev.cm _) rfl (Nat.le_of_ble_eq_true rfl) rfl (show vp_in ((x5 + (-1)) - 1) 330 from vpI 330 (by decide) b26.1 b26.2) ?_
                  refine w_aload_n (Ev.cm _) rfl rfl ?_
                  refine w_getR (q := 338) (Ev.cm _) rfl (Nat.le_of_ble_eq_true rfl) rfl rfl ?_
                  refine w_iload (Ev.cm _) rfl rfl ?_
                  obtain ⟨b27, q⟩ := ois q
                  refine w_lald (Ev.cm _) rfl (Nat.le_of_ble_eq_true rfl) rfl (show vp_in (x5 + (-1)) 330 from vpI 330 (by decide) b27.1 b27.2) ?_
                  obtain ⟨⟨r28, I28, L28⟩, e28, q⟩ := obs q
                  dsimp only at q
                  refine w_cstat (as := [.long (L 338 (((x5 + (-1)) - 1).toNatClampNeg)), .long (L 338 ((x5 + (-1)).toNatClampNeg))]) (st := [.int ((x5 + (-1)) - 1), .ref 338]) (Ev.cm _) rfl rfl rfl (Nat.le_of_ble_eq_true rfl) (Nat.le_of_ble_eq_true rfl) (eo_M_nearOf (g := ?_) e28)
                  show Wp _ _ _ _ _ _ _ 259 [(0, .ref 331), (1, .int x1), (2, .int x2), (3, .int x3), (4, .int x4), (5, .int (x5 + (-1))), (6, .int x6), (7, .int x7), (8, .int (I 334 ((x4 + ((2 : Int32) * x7)).toNatClampNeg))), (9, .int (I 334 (((x4 + ((2 : Int32) * x7)) + 1).toNatClampNeg)))] [.long r28, .int ((x5 + (-1)) - 1), .ref 338] (HS I28 L28 X)
                  refine w_goto (Ev.cm _) rfl ?_
                  obtain ⟨b29, q⟩ := ois q
                  refine w_last (Ev.cm _) rfl (Nat.le_of_ble_eq_true rfl) rfl (show vp_in ((x5 + (-1)) - 1) 330 from vpI 330 (by decide) b29.1 b29.2) ?_
                  refine w_goto (Ev.cm _) rfl ?_
                  refine w_iinc (ls2 := [(0, .ref 331), (1, .int x1), (2, .int x2), (3, .int x3), (4, .int x4), (5, .int (x5 + (-1))), (6, .int x6), (7, .int (x7 + 1)), (8, .int (I 334 ((x4 + ((2 : Int32) * x7)).toNatClampNeg))), (9, .int (I 334 (((x4 + ((2 : Int32) * x7)) + 1).toNatClampNeg)))]) (Ev.cm _) rfl rfl rfl ?_
                  refine w_goto (Ev.cm _) rfl ?_
                  show Wp _ _ _ _ _ _ _ 38 [(0, .ref 331), (1, .int x1), (2, .int x2), (3, .int x3), (4, .int x4), (5, .int (x5 + (-1))), (6, .int x6), (7, .int (x7 + 1)), (8, .int (I 334 ((x4 + ((2 : Int32) * x7)).toNatClampNeg))), (9, .int (I 334 (((x4 + ((2 : Int32) * x7)) + 1).toNatClampNeg)))] [] (HS I28 (sL L28 338 (((x5 + (-1)) - 1).toNatClampNeg) r28) X)
                  refine Wp.sub [0, 1, 2, 3, 4, 5, 6, 7] (ls2 := [(0, .ref 331), (1, .int x1), (2, .int x2), (3, .int x3), (4, .int x4), (5, .int (x5 + (-1))), (6, .int x6), (7, .int (x7 + 1))]) rfl ?_
                  exact ih _ _ _ _ _ _ _ _ _ q
            · have c6 : I 334 ((x4 + ((2 : Int32) * x7)).toNatClampNeg) = 2 := c6
              rw [if_pos c6] at q
              refine w_aload_n (Ev.cm _) rfl rfl ?_
              refine w_getR (q := 338) (Ev.cm _) rfl (Nat.le_of_ble_eq_true rfl) rfl rfl ?_
              refine w_iload (Ev.cm _) rfl rfl ?_
              refine w_iconst (Ev.cm _) rfl ?_
              refine w_isub (Ev.cm _) rfl ?_
              refine w_iload (Ev.cm _) rfl rfl ?_
              refine w_iconst (Ev.cm _) rfl ?_
              refine w_icmp_ne (Ev.cm _) rfl (fun c12 => ?_) (fun c12 => ?_)
              · have c12 : ¬ (I 334 ((x4 + ((2 : Int32) * x7)).toNatClampNeg) = 5) := c12
                rw [if_neg c12] at q
                refine w_aload_n (Ev.cm _) rfl rfl ?_
                refine w_aload_n (Ev.cm _) rfl rfl ?_
                refine w_getR (q := 338) (Ev.cm _) rfl (Nat.le_of_ble_eq_true rfl) rfl rfl ?_
                refine w_iload (Ev.cm _) rfl rfl ?_
                refine w_iconst (Ev.cm _) rfl ?_
                refine w_isub (Ev.cm _) rfl ?_
                obtain ⟨b30, q⟩ := ois q
                refine w_lald (Ev.cm _) rfl (Nat.le_of_ble_eq_true rfl) rfl (show vp_in (x5 - 1) 330 from vpI 330 (by decide) b30.1 b30.2) ?_
                obtain ⟨⟨r31, I31, L31⟩, e31, q⟩ := obs q
                dsimp only at q
                refine w_cvirt (o := 331) (as := [.long (L 338 ((x5 - 1).toNatClampNeg))]) (st := [.int (x5 - 1), .ref 338]) (Ev.cm _) rfl rfl rfl (Nat.le_of_ble_eq_true rfl) (Nat.le_of_ble_eq_true rfl) rfl (Nat.le_of_ble_eq_true rfl) (eo_M_cupOf (g := ?_) e31)
                show Wp _ _ _ _ _ _ _ 212 [(0, .ref 331), (1, .int x1), (2, .int x2), (3, .int x3), (4, .int x4), (5, .int x5), (6, .int x6), (7, .int x7), (8, .int (I 334 ((x4 + ((2 : Int32) * x7)).toNatClampNeg))), (9, .int (I 334 (((x4 + ((2 : Int32) * x7)) + 1).toNatClampNeg)))] [.long r31, .int (x5 - 1), .ref 338] (HS I31 L31 X)
                obtain ⟨b32, q⟩ := ois q
                refine w_last (Ev.cm _) rfl (Nat.le_of_ble_eq_true rfl) rfl (show vp_in (x5 - 1) 330 from vpI 330 (by decide) b32.1 b32.2) ?_
                refine w_goto (Ev.cm _) rfl ?_
                refine w_iinc (ls2 := [(0, .ref 331), (1, .int x1), (2, .int x2), (3, .int x3), (4, .int x4), (5, .int x5), (6, .int x6), (7, .int (x7 + 1)), (8, .int (I 334 ((x4 + ((2 : Int32) * x7)).toNatClampNeg))), (9, .int (I 334 (((x4 + ((2 : Int32) * x7)) + 1).toNatClampNeg)))]) (Ev.cm _) rfl rfl rfl ?_
                refine w_goto (Ev.cm _) rfl ?_
                show Wp _ _ _ _ _ _ _ 38 [(0, .ref 331), (1, .int x1), (2, .int x2), (3, .int x3), (4, .int x4), (5, .int x5), (6, .int x6), (7, .int (x7 + 1)), (8, .int (I 334 ((x4 + ((2 : Int32) * x7)).toNatClampNeg))), (9, .int (I 334 (((x4 + ((2 : Int32) * x7)) + 1).toNatClampNeg)))] [] (HS I31 (sL L31 338 ((x5 - 1).toNatClampNeg) r31) X)
                refine Wp.sub [0, 1, 2, 3, 4, 5, 6, 7] (ls2 := [(0, .ref 331), (1, .int x1), (2, .int x2), (3, .int x3), (4, .int x4), (5, .int x5), (6, .int x6), (7, .int (x7 + 1))]) rfl ?_
                exact ih _ _ _ _ _ _ _ _ _ q
              · have c12 : I 334 ((x4 + ((2 : Int32) * x7)).toNatClampNeg) = 5 := c12
                rw [if_pos c12] at q
                refine w_aload_n (Ev.cm _) rfl rfl ?_
                refine w_getR (q := 338) (Ev.cm _) rfl (Nat.le_of_ble_eq_true rfl) rfl rfl ?_
                refine w_iload (Ev.cm _) rfl rfl ?_
                refine w_iconst (Ev.cm _) rfl ?_
                refine w_isub (Ev.cm _) rfl ?_
                obtain ⟨b33, q⟩ := ois q
                refine w_lald (Ev.cm _) rfl (Nat.le_of_ble_eq_true rfl) rfl (show vp_in (x5 - 1) 330 from vpI 330 (by decide) b33.1 b33.2) ?_
                refine w_lneg (Ev.cm _) rfl ?_
                refine w_goto (Ev.cm _) rfl ?_
                obtain ⟨b34, q⟩ := ois q
                refine w_last (Ev.cm _) rfl (Nat.le_of_ble_eq_true rfl) rfl (show vp_in (x5 - 1) 330 from vpI 330 (by decide) b34.1 b34.2) ?_
                refine w_goto (Ev.cm _) rfl ?_
                refine w_iinc (ls2 := [(0, .ref 331), (1, .int x1), (2, .int x2), (3, .int x3), (4, .int x4), (5, .int x5), (6, .int x6), (7, .int (x7 + 1)), (8, .int (I 334 ((x4 + ((2 : Int32) * x7)).toNatClampNeg))), (9, .int (I 334 (((x4 + ((2 : Int32) * x7)) + 1).toNatClampNeg)))]) (Ev.cm _) rfl rfl rfl ?_
                refine w_goto (Ev.cm _) rfl ?_
                show Wp _ _ _ _ _ _ _ 38 [(0, .ref 331), (1, .int x1), (2, .int x2), (3, .int x3), (4, .int x4), (5, .int x5), (6, .int x6), (7, .int (x7 + 1)), (8, .int (I 334 ((x4 + ((2 : Int32) * x7)).toNatClampNeg))), (9, .int (I 334 (((x4 + ((2 : Int32) * x7)) + 1).toNatClampNeg)))] [] (HS I (sL L 338 ((x5 - 1).toNatClampNeg) (-(L 338 ((x5 - 1).toNatClampNeg)))) X)
                refine Wp.sub [0, 1, 2, 3, 4, 5, 6, 7] (ls2 := [(0, .ref 331), (1, .int x1), (2, .int x2), (3, .int x3), (4, .int x4), (5, .int x5), (6, .int x6), (7, .int (x7 + 1))]) rfl ?_
                exact ih _ _ _ _ _ _ _ _ _ q
        · have c3 : I 334 ((x4 + ((2 : Int32) * x7)).toNatClampNeg) = 3 := c3
          rw [if_pos c3] at q
          refine w_iinc (ls2 := [(0, .ref 331), (1, .int x1), (2, .int x2), (3, .int x3), (4, .int x4), (5, .int (x5 + (-1))), (6, .int x6), (7, .int x7), (8, .int (I 334 ((x4 + ((2 : Int32) * x7)).toNatClampNeg))), (9, .int (I 334 (((x4 + ((2 : Int32) * x7)) + 1).toNatClampNeg)))]) (Ev.cm _) rfl rfl rfl ?_
          refine w_iinc (ls2 := [(0, .ref 331), (1, .int x1), (2, .int x2), (3, .int x3), (4, .int x4), (5, .int (x5 + (-1))), (6, .int (x6 + (-1))), (7, .int x7), (8, .int (I 334 ((x4 + ((2 : Int32) * x7)).toNatClampNeg))), (9, .int (I 334 (((x4 + ((2 : Int32) * x7)) + 1).toNatClampNeg)))]) (Ev.cm _) rfl rfl rfl ?_
          refine w_aload_n (Ev.cm _) rfl rfl ?_
          refine w_getR (q := 339) (Ev.cm _) rfl (Nat.le_of_ble_eq_true rfl) rfl rfl ?_
          refine w_iload (Ev.cm _) rfl rfl ?_
          obtain ⟨b35, q⟩ := ois q
          refine w_bald (Ev.cm _) rfl (Nat.le_of_ble_eq_true rfl) rfl (show vp_in (x6 + (-1)) 330 from vpI 330 (by decide) b35.1 b35.2) ?_
          refine w_if_ne (Ev.cm _) rfl (fun c13 => ?_) (fun c13 => ?_)
          · have c13 : ¬ (I 339 ((x6 + (-1)).toNatClampNeg) = 0) := c13
            rw [if_neg c13] at q
            refine w_iinc (ls2 := [(0, .ref 331), (1, .int x1), (2, .int x2), (3, .int x3), (4, .int x4), (5, .int (x5 + (-1))), (6, .int (x6 + (-1))), (7, .int (x7 + 1)), (8, .int (I 334 ((x4 + ((2 : Int32) * x7)).toNatClampNeg))), (9, .int (I 334 (((x4 + ((2 : Int32) * x7)) + 1).toNatClampNeg)))]) (Ev.cm _) rfl rfl rfl ?_
            refine w_goto (Ev.cm _) rfl ?_
            show Wp _ _ _ _ _ _ _ 38 [(0, .ref 331), (1, .int x1), (2, .int x2), (3, .int x3), (4, .int x4), (5, .int (x5 + (-1))), (6, .int (x6 + (-1))), (7, .int (x7 + 1)), (8, .int (I 334 ((x4 + ((2 : Int32) * x7)).toNatClampNeg))), (9, .int (I 334 (((x4 + ((2 : Int32) * x7)) + 1).toNatClampNeg)))] [] (HS I L X)
            refine Wp.sub [0, 1, 2, 3, 4, 5, 6, 7] (ls2 := [(0, .ref 331), (1, .int x1), (2, .int x2), (3, .int x3), (4, .int x4), (5, .int (x5 + (-1))), (6, .int (x6 + (-1))), (7, .int (x7 + 1))]) rfl ?_
            exact ih _ _ _ _ _ _ _ _ _ q
          · have c13 : I 339 ((x6 + (-1)).toNatClampNeg) = 0 := c13
            rw [if_pos c13] at q
            refine w_aload_n (Ev.cm _) rfl rfl ?_
            refine w_getR (q := 338) (Ev.cm _) rfl (Nat.le_of_ble_eq_true rfl) rfl rfl ?_
            refine w_iload (Ev.cm _) rfl rfl ?_
            refine w_iconst (Ev.cm _) rfl ?_
            refine w_isub (Ev.cm _) rfl ?_
            refine w_aload_n (Ev.cm _) rfl rfl ?_
            refine w_getR (q := 338) (Ev.cm _) rfl (Nat.le_of_ble_eq_true rfl) rfl rfl ?_
            refine w_iload (Ev.cm _) rfl rfl ?_
            obtain ⟨b36, q⟩ := ois q
            refine w_lald (Ev.cm _) rfl (Nat.le_of_ble_eq_true rfl) rfl (show vp_in (x5 + (-1)) 330 from vpI 330 (by decide) b36.1 b36.2) ?_
            obtain ⟨b37, q⟩ := ois q
            refine w_last (Ev.cm _) rfl (Nat.le_of_ble_eq_true rfl) rfl (show vp_in ((x5 + (-1)) - 1) 330 from vpI 330 (by decide) b37.1 b37.2) ?_
            refine w_goto (Ev.cm _) rfl ?_
            refine w_iinc (ls2 := [(0, .ref 331), (1, .int x1), (2, .int x2), (3, .int x3), (4, .int x4), (5, .int (x5 + (-1))), (6, .int (x6 + (-1))), (7, .int (x7 + 1)), (8, .int (I 334 ((x4 + ((2 : Int32) * x7)).toNatClampNeg))), (9, .int (I 334 (((x4 + ((2 : Int32) * x7)) + 1).toNatClampNeg)))]) (Ev.cm _) rfl rfl rfl ?_
            refine w_goto (Ev.cm _) rfl ?_
            show Wp _ _ _ _ _ _ _ 38 [(0, .ref 331), (1, .int x1), (2, .int x2), (3, .int x3), (4, .int x4), (5, .int (x5 + (-1))), (6, .int (x6 + (-1))), (7, .int (x7 + 1)), (8, .int (I 334 ((x4 + ((2 : Int32) * x7)).toNatClampNeg))), (9, .int (I 334 (((x4 + ((2 : Int32) * x7)) + 1).toNatClampNeg)))] [] (HS I (sL L 338 (((x5 + (-1)) - 1).toNatClampNeg) (L 338 ((x5 + (-1)).toNatClampNeg))) X)
            refine Wp.sub [0, 1, 2, 3, 4, 5, 6, 7] (ls2 := [(0, .ref 331), (1, .int x1), (2, .int x2), (3, .int x3), (4, .int x4), (5, .int (x5 + (-1))), (6, .int (x6 + (-1))), (7, .int (x7 + 1))]) rfl ?_
            exact ih _ _ _ _ _ _ _ _ _ q
      · have c2 : ¬ (1 < I 334 ((x4 + ((2 : Int32) * x7)).toNatClampNeg)) := c2
        rw [if_neg c2] at q
        refine w_aload_n (Ev.cm _) rfl rfl ?_
        refine w_getR (q := 338) (Ev.cm _) rfl (Nat.le_of_ble_eq_true rfl) rfl rfl ?_
        refine w_iload (Ev.cm _) rfl rfl ?_
        refine w_iload (Ev.cm _) rfl rfl ?_
        refine w_if_ne (Ev.cm _) rfl (fun c14 => ?_) (fun c14 => ?_)
        · have c14 : ¬ (I 334 ((x4 + ((2 : Int32) * x7)).toNatClampNeg) = 0) := c14
          rw [if_neg c14] at q
          refine w_aload_n (Ev.cm _) rfl rfl ?_
          refine w_getR (q := 337) (Ev.cm _) rfl (Nat.le_of_ble_eq_true rfl) rfl rfl ?_
          refine w_iload (Ev.cm _) rfl rfl ?_
          obtain ⟨b38, q⟩ := ois q
          refine w_iald (Ev.cm _) rfl (Nat.le_of_ble_eq_true rfl) rfl (show vp_in (I 334 (((x4 + ((2 : Int32) * x7)) + 1).toNatClampNeg)) 8 from vpI 8 (by decide) b38.1 b38.2) ?_
          refine w_i2l (Ev.cm _) rfl ?_
          obtain ⟨b39, q⟩ := ois q
          refine w_last (Ev.cm _) rfl (Nat.le_of_ble_eq_true rfl) rfl (show vp_in x5 330 from vpI 330 (by decide) b39.1 b39.2) ?_
          refine w_iinc (ls2 := [(0, .ref 331), (1, .int x1), (2, .int x2), (3, .int x3), (4, .int x4), (5, .int (x5 + 1)), (6, .int x6), (7, .int x7), (8, .int (I 334 ((x4 + ((2 : Int32) * x7)).toNatClampNeg))), (9, .int (I 334 (((x4 + ((2 : Int32) * x7)) + 1).toNatClampNeg)))]) (Ev.cm _) rfl rfl rfl ?_
          refine w_goto (Ev.cm _) rfl ?_
          refine w_iinc (ls2 := [(0, .ref 331), (1, .int x1), (2, .int x2), (3, .int x3), (4, .int x4), (5, .int (x5 + 1)), (6, .int x6), (7, .int (x7 + 1)), (8, .int (I 334 ((x4 + ((2 : Int32) * x7)).toNatClampNeg))), (9, .int (I 334 (((x4 + ((2 : Int32) * x7)) + 1).toNatClampNeg)))]) (Ev.cm _) rfl rfl rfl ?_
          refine w_goto (Ev.cm _) rfl ?_
          show Wp _ _ _ _ _ _ _ 38 [(0, .ref 331), (1, .int x1), (2, .int x2), (3, .int x3), (4, .int x4), (5, .int (x5 + 1)), (6, .int x6), (7, .int (x7 + 1)), (8, .int (I 334 ((x4 + ((2 : Int32) * x7)).toNatClampNeg))), (9, .int (I 334 (((x4 + ((2 : Int32) * x7)) + 1).toNatClampNeg)))] [] (HS I (sL L 338 x5.toNatClampNeg (((I 337 ((I 334 (((x4 + ((2 : Int32) * x7)) + 1).toNatClampNeg)).toNatClampNeg)) : Int32).toInt64)) X)
          refine Wp.sub [0, 1, 2, 3, 4, 5, 6, 7] (ls2 := [(0, .ref 331), (1, .int x1), (2, .int x2), (3, .int x3), (4, .int x4), (5, .int (x5 + 1)), (6, .int x6), (7, .int (x7 + 1))]) rfl ?_
          exact ih _ _ _ _ _ _ _ _ _ q
        · have c14 : I 334 ((x4 + ((2 : Int32) * x7)).toNatClampNeg) = 0 := c14
          rw [if_pos c14] at q
          refine w_iload (Ev.cm _) rfl rfl ?_
          refine w_i2l (Ev.cm _) rfl ?_
          refine w_goto (Ev.cm _) rfl ?_
          obtain ⟨b40, q⟩ := ois q
          refine w_last (Ev.cm _) rfl (Nat.le_of_ble_eq_true rfl) rfl (show vp_in x5 330 from vpI 330 (by decide) b40.1 b40.2) ?_
          refine w_iinc (ls2 := [(0, .ref 331), (1, .int x1), (2, .int x2), (3, .int x3), (4, .int x4), (5, .int (x5 + 1)), (6, .int x6), (7, .int x7), (8, .int (I 334 ((x4 + ((2 : Int32) * x7)).toNatClampNeg))), (9, .int (I 334 (((x4 + ((2 : Int32) * x7)) + 1).toNatClampNeg)))]) (Ev.cm _) rfl rfl rfl ?_
          refine w_goto (Ev.cm _) rfl ?_
          refine w_iinc (ls2 := [(0, .ref 331), (1, .int x1), (2, .int x2), (3, .int x3), (4, .int x4), (5, .int (x5 + 1)), (6, .int x6), (7, .int (x7 + 1)), (8, .int (I 334 ((x4 + ((2 : Int32) * x7)).toNatClampNeg))), (9, .int (I 334 (((x4 + ((2 : Int32) * x7)) + 1).toNatClampNeg)))]) (Ev.cm _) rfl rfl rfl ?_
          refine w_goto (Ev.cm _) rfl ?_
          show Wp _ _ _ _ _ _ _ 38 [(0, .ref 331), (1, .int x1), (2, .int x2), (3, .int x3), (4, .int x4), (5, .int (x5 + 1)), (6, .int x6), (7, .int (x7 + 1)), (8, .int (I 334 ((x4 + ((2 : Int32) * x7)).toNatClampNeg))), (9, .int (I 334 (((x4 + ((2 : Int32) * x7)) + 1).toNatClampNeg)))] [] (HS I (sL L 338 x5.toNatClampNeg (((I 334 (((x4 + ((2 : Int32) * x7)) + 1).toNatClampNeg)) : Int32).toInt64)) X)
          refine Wp.sub [0, 1, 2, 3, 4, 5, 6, 7] (ls2 := [(0, .ref 331), (1, .int x1), (2, .int x2), (3, .int x3), (4, .int x4), (5, .int (x5 + 1)), (6, .int x6), (7, .int (x7 + 1))]) rfl ?_
          exact ih _ _ _ _ _ _ _ _ _ q
def FO_M_summedUp (fu : Nat) (p0 : Int32) (p1 : Int32) (I : Nat → Nat → Int32) (L : Nat → Nat → Int64) : Option (Int64 × (Nat → Nat → Int32) × (Nat → Nat → Int64)) := if 0 ≤ ((((681 : Int32) * p0) + 1) + ((3 : Int32) * p1)) + 1 ∧ ((((681 : Int32) * p0) + 1) + ((3 : Int32) * p1)) + 1 < 2724 then (LO_M_summedUp_38 fu fu p0 p1 ((((681 : Int32) * p0) + 1) + ((3 : Int32) * p1)) (((681 : Int32) * p0) + 73) 0 0 (I 334 ((((((681 : Int32) * p0) + 1) + ((3 : Int32) * p1)) + 1).toNatClampNeg)) I L) else none
set_option maxHeartbeats 20000000 in
set_option maxRecDepth 20000 in
theorem eo_M_summedUp {d fu : Nat} {p0 : Int32} {p1 : Int32} {I : Nat → Nat → Int32} {L : Nat → Nat → Int64} {X : Nat × (Nat → Int32)} {Q : PQ} {res : Int64 × (Nat → Nat → Int32) × (Nat → Nat → Int64)}  (g : Q (some (.long res.1)) (HS res.2.1 res.2.2 X)) (q : FO_M_summedUp fu p0 p1 I L = some res) : Ev (d + 5) m_M_summedUp [.ref 331, .int p0, .int p1] (HS I L X) Q := by
  unfold FO_M_summedUp at q
  refine ev_start (d := d + 4) rfl rfl rfl (Nat.le_of_ble_eq_true rfl) ?_
  show Wp (Ev (d + 4)) cd_M_summedUp (0, 0) (some .long) _ _ Q 0 [(0, .ref 331), (1, .int p0), (2, .int p1)] [] (HS I L X)
  refine w_sipush (Ev.cm _) rfl ?_
  refine w_iload_n (Ev.cm _) rfl rfl ?_
  refine w_imul (Ev.cm _) rfl ?_
  refine w_iconst (Ev.cm _) rfl ?_
  refine w_iadd (Ev.cm _) rfl ?_
  refine w_iconst (Ev.cm _) rfl ?_
  refine w_iload_n (Ev.cm _) rfl rfl ?_
  refine w_imul (Ev.cm _) rfl ?_
  refine w_iadd (Ev.cm _) rfl ?_
  refine w_istore_n (ls2 := [(0, .ref 331), (1, .int p0), (2, .int p1), (3, .int ((((681 : Int32) * p0) + 1) + ((3 : Int32) * p1)))]) (Ev.cm _) rfl rfl ?_
  refine w_sipush (Ev.cm _) rfl ?_
  refine w_iload_n (Ev.cm _) rfl rfl ?_
  refine w_imul (Ev.cm _) rfl ?_
  refine w_bipush (Ev.cm _) rfl ?_
  refine w_iadd (Ev.cm _) rfl ?_
  refine w_istore (ls2 := [(0, .ref 331), (1, .int p0), (2, .int p1), (3, .int ((((681 : Int32) * p0) + 1) + ((3 : Int32) * p1))), (4, .int (((681 : Int32) * p0) + 73))]) (Ev.cm _) rfl rfl ?_
  refine w_iconst (Ev.cm _) rfl ?_
  refine w_istore (ls2 := [(0, .ref 331), (1, .int p0), (2, .int p1), (3, .int ((((681 : Int32) * p0) + 1) + ((3 : Int32) * p1))), (4, .int (((681 : Int32) * p0) + 73)), (5, .int 0)]) (Ev.cm _) rfl rfl ?_
  refine w_iconst (Ev.cm _) rfl ?_
  refine w_istore (ls2 := [(0, .ref 331), (1, .int p0), (2, .int p1), (3, .int ((((681 : Int32) * p0) + 1) + ((3 : Int32) * p1))), (4, .int (((681 : Int32) * p0) + 73)), (5, .int 0), (6, .int 0)]) (Ev.cm _) rfl rfl ?_
  refine w_aload_n (Ev.cm _) rfl rfl ?_
  refine w_getR (q := 334) (Ev.cm _) rfl (Nat.le_of_ble_eq_true rfl) rfl rfl ?_
  refine w_iload_n (Ev.cm _) rfl rfl ?_
  refine w_iconst (Ev.cm _) rfl ?_
  refine w_iadd (Ev.cm _) rfl ?_
  obtain ⟨b1, q⟩ := ois q
  refine w_iald (Ev.cm _) rfl (Nat.le_of_ble_eq_true rfl) rfl (show vp_in (((((681 : Int32) * p0) + 1) + ((3 : Int32) * p1)) + 1) 2724 from vpI 2724 (by decide) b1.1 b1.2) ?_
  refine w_istore (ls2 := [(0, .ref 331), (1, .int p0), (2, .int p1), (3, .int ((((681 : Int32) * p0) + 1) + ((3 : Int32) * p1))), (4, .int (((681 : Int32) * p0) + 73)), (5, .int 0), (6, .int 0), (7, .int (I 334 ((((((681 : Int32) * p0) + 1) + ((3 : Int32) * p1)) + 1).toNatClampNeg)))]) (Ev.cm _) rfl rfl ?_
  show Wp _ _ _ _ _ _ _ 38 [(0, .ref 331), (1, .int p0), (2, .int p1), (3, .int ((((681 : Int32) * p0) + 1) + ((3 : Int32) * p1))), (4, .int (((681 : Int32) * p0) + 73)), (5, .int 0), (6, .int 0), (7, .int (I 334 ((((((681 : Int32) * p0) + 1) + ((3 : Int32) * p1)) + 1).toNatClampNeg)))] [] (HS I L X)
  refine Wp.sub [0, 1, 2, 3, 4, 5, 6, 7] (ls2 := [(0, .ref 331), (1, .int p0), (2, .int p1), (3, .int ((((681 : Int32) * p0) + 1) + ((3 : Int32) * p1))), (4, .int (((681 : Int32) * p0) + 73)), (5, .int 0), (6, .int 0), (7, .int (I 334 ((((((681 : Int32) * p0) + 1) + ((3 : Int32) * p1)) + 1).toNatClampNeg)))]) rfl ?_
  exact lo_M_summedUp_38 g fu _ _ _ _ _ _ _ _ _ q
def LO_M_says_3 (fu : Nat) : Nat → Int32 → Int32 → Int32 → Int32 → (Nat → Nat → Int32) → (Nat → Nat → Int64) → Option (Int32 × (Nat → Nat → Int32) × (Nat → Nat → Int64))
  | 0, _, _, _, _, _, _ => none
  | n + 1, x1, x2, x3, x4, I, L => if x1 < 0 then (some (x3, I, L)) else (if 0 ≤ (681 : Int32) * x1 ∧ (681 : Int32) * x1 < 2724 then (if I 334 (((681 : Int32) * x1).toNatClampNeg) ≤ x4 then (some (x3, I, L)) else (if 0 ≤ (((681 : Int32) * x1) + 1) + ((3 : Int32) * x4) ∧ (((681 : Int32) * x1) + 1) + ((3 : Int32) * x4) < 2724 then (if I 334 (((((681 : Int32) * x1) + 1) + ((3 : Int32) * x4)).toNatClampNeg) = x2 then ((FO_M_summedUp fu x1 x4 I L).bind (fun u3 => let r3 := u3.1; let I3 := u3.2.1; let L3 := u3.2.2; (FO_M_cut fu r3 0 99 I3 L3).bind (fun u4 => let r4 := u4.1; let I4 := u4.2.1; let L4 := u4.2.2; some (r4, I4, L4)))) else (LO_M_says_3 fu n x1 x2 x3 (x4 + 1) I L)) else none)) else none)
set_option maxHeartbeats 20000000 in
set_option maxRecDepth 20000 in
theorem lo_M_says_3 {d fu n0 s0 : Nat} {X : Nat × (Nat → Int32)} {Q : PQ} {res : Int32 × (Nat → Nat → Int32) × (Nat → Nat → Int64)}  (g : Q (some (.int res.1)) (HS res.2.1 res.2.2 X)) : ∀ (n : Nat) (x1 : Int32) (x2 : Int32) (x3 : Int32) (x4 : Int32) (I : Nat → Nat → Int32) (L : Nat → Nat → Int64), LO_M_says_3 fu n x1 x2 x3 x4 I L = some res → Wp (Ev (d + 5)) cd_M_says (0, 0) (some .int) n0 s0 Q 3 [(0, .ref 331), (1, .int x1), (2, .int x2), (3, .int x3), (4, .int x4)] [] (HS I L X) := by
  intro n
  induction n with
  | zero => intro _ _ _ _ _ _ q; cases q
  | succ n ih =>
    intro x1 x2 x3 x4 I L q
    unfold LO_M_says_3 at q
    refine w_iload_n (Ev.cm _) rfl rfl ?_
    refine w_if_lt (Ev.cm _) rfl (fun c1 => ?_) (fun c1 => ?_)
    · have c1 : x1 < 0 := c1
      rw [if_pos c1] at q
      refine w_iload_n (Ev.cm _) rfl rfl ?_
      refine w_ireturn (Ev.cm _) rfl trivial rf0 ?_
      cases q
      exact g
    · have c1 : ¬ (x1 < 0) := c1
      rw [if_neg c1] at q
      refine w_iload (Ev.cm _) rfl rfl ?_
      refine w_aload_n (Ev.cm _) rfl rfl ?_
      refine w_getR (q := 334) (Ev.cm _) rfl (Nat.le_of_ble_eq_true rfl) rfl rfl ?_
      refine w_sipush (Ev.cm _) rfl ?_
      refine w_iload_n (Ev.cm _) rfl rfl ?_
      refine w_imul (Ev.cm _) rfl ?_
      obtain ⟨b1, q⟩ := ois q
      refine w_iald (Ev.cm _) rfl (Nat.le_of_ble_eq_true rfl) rfl (show vp_in ((681 : Int32) * x1) 2724 from vpI 2724 (by decide) b1.1 b1.2) ?_
      refine w_icmp_ge (Ev.cm _) rfl (fun c2 => ?_) (fun c2 => ?_)
      · have c2 : I 334 (((681 : Int32) * x1).toNatClampNeg) ≤ x4 := c2
        rw [if_pos c2] at q
        refine w_iload_n (Ev.cm _) rfl rfl ?_
        refine w_ireturn (Ev.cm _) rfl trivial rf0 ?_
        cases q
        exact g
      · have c2 : ¬ (I 334 (((681 : Int32) * x1).toNatClampNeg) ≤ x4) := c2
        rw [if_neg c2] at q
        refine w_aload_n (Ev.cm _) rfl rfl ?_
        refine w_getR (q := 334) (Ev.cm _) rfl (Nat.le_of_ble_eq_true rfl) rfl rfl ?_
        refine w_sipush (Ev.cm _) rfl ?_
        refine w_iload_n (Ev.cm _) rfl rfl ?_
        refine w_imul (Ev.cm _) rfl ?_
        refine w_iconst (Ev.cm _) rfl ?_
        refine w_iadd (Ev.cm _) rfl ?_
        refine w_iconst (Ev.cm _) rfl ?_
        refine w_iload (Ev.cm _) rfl rfl ?_
        refine w_imul (Ev.cm _) rfl ?_
        refine w_iadd (Ev.cm _) rfl ?_
        obtain ⟨b2, q⟩ := ois q
        refine w_iald (Ev.cm _) rfl (Nat.le_of_ble_eq_true rfl) rfl (show vp_in ((((681 : Int32) * x1) + 1) + ((3 : Int32) * x4)) 2724 from vpI 2724 (by decide) b2.1 b2.2) ?_
        refine w_iload_n (Ev.cm _) rfl rfl ?_
        refine w_icmp_ne (Ev.cm _) rfl (fun c3 => ?_) (fun c3 => ?_)
        · have c3 : ¬ (I 334 (((((681 : Int32) * x1) + 1) + ((3 : Int32) * x4)).toNatClampNeg) = x2) := c3
          rw [if_neg c3] at q
          refine w_iinc (ls2 := [(0, .ref 331), (1, .int x1), (2, .int x2), (3, .int x3), (4, .int (x4 + 1))]) (Ev.cm _) rfl rfl rfl ?_
          refine w_goto (Ev.cm _) rfl ?_
          show Wp _ _ _ _ _ _ _ 3 [(0, .ref 331), (1, .int x1), (2, .int x2), (3, .int x3), (4, .int (x4 + 1))] [] (HS I L X)
          refine Wp.sub [0, 1, 2, 3, 4] (ls2 := [(0, .ref 331), (1, .int x1), (2, .int x2), (3, .int x3), (4, .int (x4 + 1))]) rfl ?_
          exact ih _ _ _ _ _ _ q
        · have c3 : I 334 (((((681 : Int32) * x1) + 1) + ((3 : Int32) * x4)).toNatClampNeg) = x2 := c3
          rw [if_pos c3] at q
          refine w_aload_n (Ev.cm _) rfl rfl ?_
          refine w_iload_n (Ev.cm _) rfl rfl ?_
          refine w_iload (Ev.cm _) rfl rfl ?_
          obtain ⟨⟨r3, I3, L3⟩, e3, q⟩ := obs q
          dsimp only at q
          refine w_cvirt (o := 331) (as := [.int x1, .int x4]) (st := []) (Ev.cm _) rfl rfl rfl (Nat.le_of_ble_eq_true rfl) (Nat.le_of_ble_eq_true rfl) rfl (Nat.le_of_ble_eq_true rfl) (eo_M_summedUp (g := ?_) e3)
          show Wp _ _ _ _ _ _ _ 50 [(0, .ref 331), (1, .int x1), (2, .int x2), (3, .int x3), (4, .int x4)] [.long r3] (HS I3 L3 X)
          refine w_iconst (Ev.cm _) rfl ?_
          refine w_bipush (Ev.cm _) rfl ?_
          obtain ⟨⟨r4, I4, L4⟩, e4, q⟩ := obs q
          dsimp only at q
          refine w_cstat (as := [.long r3, .int 0, .int 99]) (st := []) (Ev.cm _) rfl rfl rfl (Nat.le_of_ble_eq_true rfl) (Nat.le_of_ble_eq_true rfl) (eo_M_cut (g := ?_) e4)
          show Wp _ _ _ _ _ _ _ 56 [(0, .ref 331), (1, .int x1), (2, .int x2), (3, .int x3), (4, .int x4)] [.int r4] (HS I4 L4 X)
          refine w_ireturn (Ev.cm _) rfl trivial rf0 ?_
          cases q
          exact g
def FO_M_says (fu : Nat) (p0 : Int32) (p1 : Int32) (p2 : Int32) (I : Nat → Nat → Int32) (L : Nat → Nat → Int64) : Option (Int32 × (Nat → Nat → Int32) × (Nat → Nat → Int64)) := LO_M_says_3 fu fu p0 p1 p2 0 I L
set_option maxHeartbeats 20000000 in
set_option maxRecDepth 20000 in
theorem eo_M_says {d fu : Nat} {p0 : Int32} {p1 : Int32} {p2 : Int32} {I : Nat → Nat → Int32} {L : Nat → Nat → Int64} {X : Nat × (Nat → Int32)} {Q : PQ} {res : Int32 × (Nat → Nat → Int32) × (Nat → Nat → Int64)}  (g : Q (some (.int res.1)) (HS res.2.1 res.2.2 X)) (q : FO_M_says fu p0 p1 p2 I L = some res) : Ev (d + 6) m_M_says [.ref 331, .int p0, .int p1, .int p2] (HS I L X) Q := by
  unfold FO_M_says at q
  refine ev_start (d := d + 5) rfl rfl rfl (Nat.le_of_ble_eq_true rfl) ?_
  show Wp (Ev (d + 5)) cd_M_says (0, 0) (some .int) _ _ Q 0 [(0, .ref 331), (1, .int p0), (2, .int p1), (3, .int p2)] [] (HS I L X)
  refine w_iconst (Ev.cm _) rfl ?_
  refine w_istore (ls2 := [(0, .ref 331), (1, .int p0), (2, .int p1), (3, .int p2), (4, .int 0)]) (Ev.cm _) rfl rfl ?_
  show Wp _ _ _ _ _ _ _ 3 [(0, .ref 331), (1, .int p0), (2, .int p1), (3, .int p2), (4, .int 0)] [] (HS I L X)
  refine Wp.sub [0, 1, 2, 3, 4] (ls2 := [(0, .ref 331), (1, .int p0), (2, .int p1), (3, .int p2), (4, .int 0)]) rfl ?_
  exact lo_M_says_3 g fu _ _ _ _ _ _ q
def FO_M_name (fu : Nat) (p0 : Int32) (I : Nat → Nat → Int32) (L : Nat → Nat → Int64) : Option (Unit × (Nat → Nat → Int32) × (Nat → Nat → Int64)) := some ((), sI (sI (sI I 337 0 (I 332 7)) 337 1 (I 332 9)) 337 2 p0, L)
set_option maxHeartbeats 20000000 in
set_option maxRecDepth 20000 in
theorem eo_M_name {d fu : Nat} {p0 : Int32} {I : Nat → Nat → Int32} {L : Nat → Nat → Int64} {X : Nat × (Nat → Int32)} {Q : PQ} {res : Unit × (Nat → Nat → Int32) × (Nat → Nat → Int64)}  (g : Q none (HS res.2.1 res.2.2 X)) (q : FO_M_name fu p0 I L = some res) : Ev (d + 1) m_M_name [.ref 331, .int p0] (HS I L X) Q := by
  unfold FO_M_name at q
  refine ev_start (d := d + 0) rfl rfl rfl (Nat.le_of_ble_eq_true rfl) ?_
  show Wp (Ev (d + 0)) cd_M_name (0, 0) none _ _ Q 0 [(0, .ref 331), (1, .int p0)] [] (HS I L X)
  refine w_aload_n (Ev.cm _) rfl rfl ?_
  refine w_getR (q := 337) (Ev.cm _) rfl (Nat.le_of_ble_eq_true rfl) rfl rfl ?_
  refine w_iconst (Ev.cm _) rfl ?_
  refine w_aload_n (Ev.cm _) rfl rfl ?_
  refine w_getR (q := 332) (Ev.cm _) rfl (Nat.le_of_ble_eq_true rfl) rfl rfl ?_
  refine w_bipush (Ev.cm _) rfl ?_
  refine w_iald (Ev.cm _) rfl (Nat.le_of_ble_eq_true rfl) rfl (show vp_in 7 1541 from vpI 1541 (by decide) (by decide) (by decide)) ?_
  refine w_iast (Ev.cm _) rfl (Nat.le_of_ble_eq_true rfl) rfl (show vp_in 0 8 from vpI 8 (by decide) (by decide) (by decide)) ?_
  refine w_aload_n (Ev.cm _) rfl rfl ?_
  refine w_getR (q := 337) (Ev.cm _) rfl (Nat.le_of_ble_eq_true rfl) rfl rfl ?_
  refine w_iconst (Ev.cm _) rfl ?_
  refine w_aload_n (Ev.cm _) rfl rfl ?_
  refine w_getR (q := 332) (Ev.cm _) rfl (Nat.le_of_ble_eq_true rfl) rfl rfl ?_
  refine w_bipush (Ev.cm _) rfl ?_
  refine w_iald (Ev.cm _) rfl (Nat.le_of_ble_eq_true rfl) rfl (show vp_in 9 1541 from vpI 1541 (by decide) (by decide) (by decide)) ?_
  refine w_iast (Ev.cm _) rfl (Nat.le_of_ble_eq_true rfl) rfl (show vp_in 1 8 from vpI 8 (by decide) (by decide) (by decide)) ?_
  refine w_aload_n (Ev.cm _) rfl rfl ?_
  refine w_getR (q := 337) (Ev.cm _) rfl (Nat.le_of_ble_eq_true rfl) rfl rfl ?_
  refine w_iconst (Ev.cm _) rfl ?_
  refine w_iload_n (Ev.cm _) rfl rfl ?_
  refine w_iast (Ev.cm _) rfl (Nat.le_of_ble_eq_true rfl) rfl (show vp_in 2 8 from vpI 8 (by decide) (by decide) (by decide)) ?_
  refine w_return (Ev.cm _) rfl rfl rf0 ?_
  cases q
  exact g
def FO_M_ticksOf (fu : Nat) (p0 : Int32) (p1 : Int32) (p2 : Int32) (p3 : Int32) (I : Nat → Nat → Int32) (L : Nat → Nat → Int64) : Option (Int32 × (Nat → Nat → Int32) × (Nat → Nat → Int64)) := (FO_M_name fu p2 I L).bind (fun u1 => let r1 := u1.1; let I1 := u1.2.1; let L1 := u1.2.2; if 0 ≤ (24 : Int32) + p1 ∧ (24 : Int32) + p1 < 1541 then (if 0 ≤ (30 : Int32) + p1 ∧ (30 : Int32) + p1 < 1541 then ((FO_M_trod fu p1 (sI (sI (sI I1 337 3 (I1 332 (((24 : Int32) + p1).toNatClampNeg))) 337 4 (I1 332 (((30 : Int32) + p1).toNatClampNeg))) 337 5 p1) L1).bind (fun u4 => let r4 := u4.1; let I4 := u4.2.1; let L4 := u4.2.2; if p3 = 0 then (if 0 ≤ (24 : Int32) + p1 ∧ (24 : Int32) + p1 < 1541 then ((FO_M_says fu p0 0 ((I4 332 (((24 : Int32) + p1).toNatClampNeg)) + (I4 332 9)) (sI (sI I4 337 6 r4) 337 7 0) L4).bind (fun u6 => let r6 := u6.1; let I6 := u6.2.1; let L6 := u6.2.2; some (r6, I6, L6))) else none) else (if 0 ≤ (24 : Int32) + p1 ∧ (24 : Int32) + p1 < 1541 then ((FO_M_says fu p0 0 ((I4 332 (((24 : Int32) + p1).toNatClampNeg)) + (I4 332 9)) (sI (sI I4 337 6 r4) 337 7 1) L4).bind (fun u8 => let r8 := u8.1; let I8 := u8.2.1; let L8 := u8.2.2; some (r8, I8, L8))) else none))) else none) else none)
set_option maxHeartbeats 20000000 in
set_option maxRecDepth 20000 in
theorem eo_M_ticksOf {d fu : Nat} {p0 : Int32} {p1 : Int32} {p2 : Int32} {p3 : Int32} {I : Nat → Nat → Int32} {L : Nat → Nat → Int64} {X : Nat × (Nat → Int32)} {Q : PQ} {res : Int32 × (Nat → Nat → Int32) × (Nat → Nat → Int64)}  (g : Q (some (.int res.1)) (HS res.2.1 res.2.2 X)) (q : FO_M_ticksOf fu p0 p1 p2 p3 I L = some res) : Ev (d + 7) m_M_ticksOf [.ref 331, .int p0, .int p1, .int p2, .int p3] (HS I L X) Q := by
  unfold FO_M_ticksOf at q
  refine ev_start (d := d + 6) rfl rfl rfl (Nat.le_of_ble_eq_true rfl) ?_
  show Wp (Ev (d + 6)) cd_M_ticksOf (0, 0) (some .int) _ _ Q 0 [(0, .ref 331), (1, .int p0), (2, .int p1), (3, .int p2), (4, .int p3)] [] (HS I L X)
  refine w_aload_n (Ev.cm _) rfl rfl ?_
  refine w_iload_n (Ev.cm _) rfl rfl ?_
  obtain ⟨⟨r1, I1, L1⟩, e1, q⟩ := obs q
  dsimp only at q
  refine w_cvirt (o := 331) (as := [.int p2]) (st := []) (Ev.cm _) rfl rfl rfl (Nat.le_of_ble_eq_true rfl) (Nat.le_of_ble_eq_true rfl) rfl (Nat.le_of_ble_eq_true rfl) (eo_M_name (g := ?_) e1)
  show Wp _ _ _ _ _ _ _ 5 [(0, .ref 331), (1, .int p0), (2, .int p1), (3, .int p2), (4, .int p3)] [] (HS I1 L1 X)
  refine w_aload_n (Ev.cm _) rfl rfl ?_
  refine w_getR (q := 337) (Ev.cm _) rfl (Nat.le_of_ble_eq_true rfl) rfl rfl ?_
  refine w_iconst (Ev.cm _) rfl ?_
  refine w_aload_n (Ev.cm _) rfl rfl ?_
  refine w_getR (q := 332) (Ev.cm _) rfl (Nat.le_of_ble_eq_true rfl) rfl rfl ?_
  refine w_bipush (Ev.cm _) rfl ?_
  refine w_iload_n (Ev.cm _) rfl rfl ?_
  refine w_iadd (Ev.cm _) rfl ?_
  obtain ⟨b2, q⟩ := ois q
  refine w_iald (Ev.cm _) rfl (Nat.le_of_ble_eq_true rfl) rfl (show vp_in ((24 : Int32) + p1) 1541 from vpI 1541 (by decide) b2.1 b2.2) ?_
  refine w_iast (Ev.cm _) rfl (Nat.le_of_ble_eq_true rfl) rfl (show vp_in 3 8 from vpI 8 (by decide) (by decide) (by decide)) ?_
  refine w_aload_n (Ev.cm _) rfl rfl ?_
  refine w_getR (q := 337) (Ev.cm _) rfl (Nat.le_of_ble_eq_true rfl) rfl rfl ?_
  refine w_iconst (Ev.cm _) rfl ?_
  refine w_aload_n (Ev.cm _) rfl rfl ?_
  refine w_getR (q := 332) (Ev.cm _) rfl (Nat.le_of_ble_eq_true rfl) rfl rfl ?_
  refine w_bipush (Ev.cm _) rfl ?_
  refine w_iload_n (Ev.cm _) rfl rfl ?_
  refine w_iadd (Ev.cm _) rfl ?_
  obtain ⟨b3, q⟩ := ois q
  refine w_iald (Ev.cm _) rfl (Nat.le_of_ble_eq_true rfl) rfl (show vp_in ((30 : Int32) + p1) 1541 from vpI 1541 (by decide) b3.1 b3.2) ?_
  refine w_iast (Ev.cm _) rfl (Nat.le_of_ble_eq_true rfl) rfl (show vp_in 4 8 from vpI 8 (by decide) (by decide) (by decide)) ?_
  refine w_aload_n (Ev.cm _) rfl rfl ?_
  refine w_getR (q := 337) (Ev.cm _) rfl (Nat.le_of_ble_eq_true rfl) rfl rfl ?_
  refine w_iconst (Ev.cm _) rfl ?_
  refine w_iload_n (Ev.cm _) rfl rfl ?_
  refine w_iast (Ev.cm _) rfl (Nat.le_of_ble_eq_true rfl) rfl (show vp_in 5 8 from vpI 8 (by decide) (by decide) (by decide)) ?_
  refine w_aload_n (Ev.cm _) rfl rfl ?_
  refine w_getR (q := 337) (Ev.cm _) rfl (Nat.le_of_ble_eq_true rfl) rfl rfl ?_
  refine w_bipush (Ev.cm _) rfl ?_
  refine w_aload_n (Ev.cm _) rfl rfl ?_
  refine w_iload_n (Ev.cm _) rfl rfl ?_
  obtain ⟨⟨r4, I4, L4⟩, e4, q⟩ := obs q
  dsimp only at q
  refine w_cvirt (o := 331) (as := [.int p1]) (st := [.int 6, .ref 337]) (Ev.cm _) rfl rfl rfl (Nat.le_of_ble_eq_true rfl) (Nat.le_of_ble_eq_true rfl) rfl (Nat.le_of_ble_eq_true rfl) (eo_M_trod (g := ?_) e4)
  show Wp _ _ _ _ _ _ _ 53 [(0, .ref 331), (1, .int p0), (2, .int p1), (3, .int p2), (4, .int p3)] [.int r4, .int 6, .ref 337] (HS I4 L4 X)
  refine w_iast (Ev.cm _) rfl (Nat.le_of_ble_eq_true rfl) rfl (show vp_in 6 8 from vpI 8 (by decide) (by decide) (by decide)) ?_
  refine w_aload_n (Ev.cm _) rfl rfl ?_
  refine w_getR (q := 337) (Ev.cm _) rfl (Nat.le_of_ble_eq_true rfl) rfl rfl ?_
  refine w_bipush (Ev.cm _) rfl ?_
  refine w_iload (Ev.cm _) rfl rfl ?_
  refine w_if_eq (Ev.cm _) rfl (fun c1 => ?_) (fun c1 => ?_)
  · have c1 : p3 = 0 := c1
    rw [if_pos c1] at q
    refine w_iconst (Ev.cm _) rfl ?_
    refine w_iast (Ev.cm _) rfl (Nat.le_of_ble_eq_true rfl) rfl (show vp_in 7 8 from vpI 8 (by decide) (by decide) (by decide)) ?_
    refine w_aload_n (Ev.cm _) rfl rfl ?_
    refine w_iload_n (Ev.cm _) rfl rfl ?_
    refine w_iconst (Ev.cm _) rfl ?_
    refine w_aload_n (Ev.cm _) rfl rfl ?_
    refine w_getR (q := 332) (Ev.cm _) rfl (Nat.le_of_ble_eq_true rfl) rfl rfl ?_
    refine w_bipush (Ev.cm _) rfl ?_
    refine w_iload_n (Ev.cm _) rfl rfl ?_
    refine w_iadd (Ev.cm _) rfl ?_
    obtain ⟨b5, q⟩ := ois q
    refine w_iald (Ev.cm _) rfl (Nat.le_of_ble_eq_true rfl) rfl (show vp_in ((24 : Int32) + p1) 1541 from vpI 1541 (by decide) b5.1 b5.2) ?_
    refine w_aload_n (Ev.cm _) rfl rfl ?_
    refine w_getR (q := 332) (Ev.cm _) rfl (Nat.le_of_ble_eq_true rfl) rfl rfl ?_
    refine w_bipush (Ev.cm _) rfl ?_
    refine w_iald (Ev.cm _) rfl (Nat.le_of_ble_eq_true rfl) rfl (show vp_in 9 1541 from vpI 1541 (by decide) (by decide) (by decide)) ?_
    refine w_iadd (Ev.cm _) rfl ?_
    obtain ⟨⟨r6, I6, L6⟩, e6, q⟩ := obs q
    dsimp only at q
    refine w_cvirt (o := 331) (as := [.int p0, .int 0, .int ((I4 332 (((24 : Int32) + p1).toNatClampNeg)) + (I4 332 9))]) (st := []) (Ev.cm _) rfl rfl rfl (Nat.le_of_ble_eq_true rfl) (Nat.le_of_ble_eq_true rfl) rfl (Nat.le_of_ble_eq_true rfl) (eo_M_says (g := ?_) e6)
    show Wp _ _ _ _ _ _ _ 94 [(0, .ref 331), (1, .int p0), (2, .int p1), (3, .int p2), (4, .int p3)] [.int r6] (HS I6 L6 X)
    refine w_ireturn (Ev.cm _) rfl trivial rf0 ?_
    cases q
    exact g
  · have c1 : ¬ (p3 = 0) := c1
    rw [if_neg c1] at q
    refine w_iconst (Ev.cm _) rfl ?_
    refine w_goto (Ev.cm _) rfl ?_
    refine w_iast (Ev.cm _) rfl (Nat.le_of_ble_eq_true rfl) rfl (show vp_in 7 8 from vpI 8 (by decide) (by decide) (by decide)) ?_
    refine w_aload_n (Ev.cm _) rfl rfl ?_
    refine w_iload_n (Ev.cm _) rfl rfl ?_
    refine w_iconst (Ev.cm _) rfl ?_
    refine w_aload_n (Ev.cm _) rfl rfl ?_
    refine w_getR (q := 332) (Ev.cm _) rfl (Nat.le_of_ble_eq_true rfl) rfl rfl ?_
    refine w_bipush (Ev.cm _) rfl ?_
    refine w_iload_n (Ev.cm _) rfl rfl ?_
    refine w_iadd (Ev.cm _) rfl ?_
    obtain ⟨b7, q⟩ := ois q
    refine w_iald (Ev.cm _) rfl (Nat.le_of_ble_eq_true rfl) rfl (show vp_in ((24 : Int32) + p1) 1541 from vpI 1541 (by decide) b7.1 b7.2) ?_
    refine w_aload_n (Ev.cm _) rfl rfl ?_
    refine w_getR (q := 332) (Ev.cm _) rfl (Nat.le_of_ble_eq_true rfl) rfl rfl ?_
    refine w_bipush (Ev.cm _) rfl ?_
    refine w_iald (Ev.cm _) rfl (Nat.le_of_ble_eq_true rfl) rfl (show vp_in 9 1541 from vpI 1541 (by decide) (by decide) (by decide)) ?_
    refine w_iadd (Ev.cm _) rfl ?_
    obtain ⟨⟨r8, I8, L8⟩, e8, q⟩ := obs q
    dsimp only at q
    refine w_cvirt (o := 331) (as := [.int p0, .int 0, .int ((I4 332 (((24 : Int32) + p1).toNatClampNeg)) + (I4 332 9))]) (st := []) (Ev.cm _) rfl rfl rfl (Nat.le_of_ble_eq_true rfl) (Nat.le_of_ble_eq_true rfl) rfl (Nat.le_of_ble_eq_true rfl) (eo_M_says (g := ?_) e8)
    show Wp _ _ _ _ _ _ _ 94 [(0, .ref 331), (1, .int p0), (2, .int p1), (3, .int p2), (4, .int p3)] [.int r8] (HS I8 L8 X)
    refine w_ireturn (Ev.cm _) rfl trivial rf0 ?_
    cases q
    exact g
def FO_M_hearsOf (fu : Nat) (p0 : Int32) (I : Nat → Nat → Int32) (L : Nat → Nat → Int64) : Option (Int32 × (Nat → Nat → Int32) × (Nat → Nat → Int64)) := (FO_M_name fu p0 I L).bind (fun u1 => let r1 := u1.1; let I1 := u1.2.1; let L1 := u1.2.2; (FO_M_says fu (I1 332 2) 1 8 I1 L1).bind (fun u2 => let r2 := u2.1; let I2 := u2.2.1; let L2 := u2.2.2; some (r2, I2, L2)))
set_option maxHeartbeats 20000000 in
set_option maxRecDepth 20000 in
theorem eo_M_hearsOf {d fu : Nat} {p0 : Int32} {I : Nat → Nat → Int32} {L : Nat → Nat → Int64} {X : Nat × (Nat → Int32)} {Q : PQ} {res : Int32 × (Nat → Nat → Int32) × (Nat → Nat → Int64)}  (g : Q (some (.int res.1)) (HS res.2.1 res.2.2 X)) (q : FO_M_hearsOf fu p0 I L = some res) : Ev (d + 7) m_M_hearsOf [.ref 331, .int p0] (HS I L X) Q := by
  unfold FO_M_hearsOf at q
  refine ev_start (d := d + 6) rfl rfl rfl (Nat.le_of_ble_eq_true rfl) ?_
  show Wp (Ev (d + 6)) cd_M_hearsOf (0, 0) (some .int) _ _ Q 0 [(0, .ref 331), (1, .int p0)] [] (HS I L X)
  refine w_aload_n (Ev.cm _) rfl rfl ?_
  refine w_iload_n (Ev.cm _) rfl rfl ?_
  obtain ⟨⟨r1, I1, L1⟩, e1, q⟩ := obs q
  dsimp only at q
  refine w_cvirt (o := 331) (as := [.int p0]) (st := []) (Ev.cm _) rfl rfl rfl (Nat.le_of_ble_eq_true rfl) (Nat.le_of_ble_eq_true rfl) rfl (Nat.le_of_ble_eq_true rfl) (eo_M_name (g := ?_) e1)
  show Wp _ _ _ _ _ _ _ 5 [(0, .ref 331), (1, .int p0)] [] (HS I1 L1 X)
  refine w_aload_n (Ev.cm _) rfl rfl ?_
  refine w_aload_n (Ev.cm _) rfl rfl ?_
  refine w_getR (q := 332) (Ev.cm _) rfl (Nat.le_of_ble_eq_true rfl) rfl rfl ?_
  refine w_iconst (Ev.cm _) rfl ?_
  refine w_iald (Ev.cm _) rfl (Nat.le_of_ble_eq_true rfl) rfl (show vp_in 2 1541 from vpI 1541 (by decide) (by decide) (by decide)) ?_
  refine w_iconst (Ev.cm _) rfl ?_
  refine w_bipush (Ev.cm _) rfl ?_
  obtain ⟨⟨r2, I2, L2⟩, e2, q⟩ := obs q
  dsimp only at q
  refine w_cvirt (o := 331) (as := [.int (I1 332 2), .int 1, .int 8]) (st := []) (Ev.cm _) rfl rfl rfl (Nat.le_of_ble_eq_true rfl) (Nat.le_of_ble_eq_true rfl) rfl (Nat.le_of_ble_eq_true rfl) (eo_M_says (g := ?_) e2)
  show Wp _ _ _ _ _ _ _ 18 [(0, .ref 331), (1, .int p0)] [.int r2] (HS I2 L2 X)
  refine w_ireturn (Ev.cm _) rfl trivial rf0 ?_
  cases q
  exact g
def FO_M_heardAt (fu : Nat) (p0 : Int32) (p1 : Int32) (p2 : Int32) (I : Nat → Nat → Int32) (L : Nat → Nat → Int64) : Option (Int32 × (Nat → Nat → Int32) × (Nat → Nat → Int64)) := (FO_M_hasCup fu p1 I L).bind (fun u1 => let r1 := u1.1; let I1 := u1.2.1; let L1 := u1.2.2; if r1 = 0 then (some (0, I1, L1)) else ((FO_M_ticksOf fu (I1 332 2) p0 p1 p2 I1 L1).bind (fun u2 => let r2 := u2.1; let I2 := u2.2.1; let L2 := u2.2.2; (FO_M_hearsOf fu p1 I2 L2).bind (fun u3 => let r3 := u3.1; let I3 := u3.2.1; let L3 := u3.2.2; if r2 < r3 then (some (0, I3, L3)) else (some (r2, I3, L3))))))
set_option maxHeartbeats 20000000 in
set_option maxRecDepth 20000 in
theorem eo_M_heardAt {d fu : Nat} {p0 : Int32} {p1 : Int32} {p2 : Int32} {I : Nat → Nat → Int32} {L : Nat → Nat → Int64} {X : Nat × (Nat → Int32)} {Q : PQ} {res : Int32 × (Nat → Nat → Int32) × (Nat → Nat → Int64)}  (g : Q (some (.int res.1)) (HS res.2.1 res.2.2 X)) (q : FO_M_heardAt fu p0 p1 p2 I L = some res) : Ev (d + 8) m_M_heardAt [.ref 331, .int p0, .int p1, .int p2] (HS I L X) Q := by
  unfold FO_M_heardAt at q
  refine ev_start (d := d + 7) rfl rfl rfl (Nat.le_of_ble_eq_true rfl) ?_
  show Wp (Ev (d + 7)) cd_M_heardAt (0, 0) (some .int) _ _ Q 0 [(0, .ref 331), (1, .int p0), (2, .int p1), (3, .int p2)] [] (HS I L X)
  refine w_aload_n (Ev.cm _) rfl rfl ?_
  refine w_iload_n (Ev.cm _) rfl rfl ?_
  obtain ⟨⟨r1, I1, L1⟩, e1, q⟩ := obs q
  dsimp only at q
  refine w_cvirt (o := 331) (as := [.int p1]) (st := []) (Ev.cm _) rfl rfl rfl (Nat.le_of_ble_eq_true rfl) (Nat.le_of_ble_eq_true rfl) rfl (Nat.le_of_ble_eq_true rfl) (eo_M_hasCup (g := ?_) e1)
  show Wp _ _ _ _ _ _ _ 5 [(0, .ref 331), (1, .int p0), (2, .int p1), (3, .int p2)] [.int r1] (HS I1 L1 X)
  refine w_if_ne (Ev.cm _) rfl (fun c1 => ?_) (fun c1 => ?_)
  · have c1 : ¬ (r1 = 0) := c1
    rw [if_neg c1] at q
    refine w_aload_n (Ev.cm _) rfl rfl ?_
    refine w_aload_n (Ev.cm _) rfl rfl ?_
    refine w_getR (q := 332) (Ev.cm _) rfl (Nat.le_of_ble_eq_true rfl) rfl rfl ?_
    refine w_iconst (Ev.cm _) rfl ?_
    refine w_iald (Ev.cm _) rfl (Nat.le_of_ble_eq_true rfl) rfl (show vp_in 2 1541 from vpI 1541 (by decide) (by decide) (by decide)) ?_
    refine w_iload_n (Ev.cm _) rfl rfl ?_
    refine w_iload_n (Ev.cm _) rfl rfl ?_
    refine w_iload_n (Ev.cm _) rfl rfl ?_
    obtain ⟨⟨r2, I2, L2⟩, e2, q⟩ := obs q
    dsimp only at q
    refine w_cvirt (o := 331) (as := [.int (I1 332 2), .int p0, .int p1, .int p2]) (st := []) (Ev.cm _) rfl rfl rfl (Nat.le_of_ble_eq_true rfl) (Nat.le_of_ble_eq_true rfl) rfl (Nat.le_of_ble_eq_true rfl) (eo_M_ticksOf (g := ?_) e2)
    show Wp _ _ _ _ _ _ _ 23 [(0, .ref 331), (1, .int p0), (2, .int p1), (3, .int p2)] [.int r2] (HS I2 L2 X)
    refine w_istore (ls2 := [(0, .ref 331), (1, .int p0), (2, .int p1), (3, .int p2), (4, .int r2)]) (Ev.cm _) rfl rfl ?_
    refine w_iload (Ev.cm _) rfl rfl ?_
    refine w_aload_n (Ev.cm _) rfl rfl ?_
    refine w_iload_n (Ev.cm _) rfl rfl ?_
    obtain ⟨⟨r3, I3, L3⟩, e3, q⟩ := obs q
    dsimp only at q
    refine w_cvirt (o := 331) (as := [.int p1]) (st := [.int r2]) (Ev.cm _) rfl rfl rfl (Nat.le_of_ble_eq_true rfl) (Nat.le_of_ble_eq_true rfl) rfl (Nat.le_of_ble_eq_true rfl) (eo_M_hearsOf (g := ?_) e3)
    show Wp _ _ _ _ _ _ _ 32 [(0, .ref 331), (1, .int p0), (2, .int p1), (3, .int p2), (4, .int r2)] [.int r3, .int r2] (HS I3 L3 X)
    refine w_icmp_lt (Ev.cm _) rfl (fun c2 => ?_) (fun c2 => ?_)
    · have c2 : r2 < r3 := c2
      rw [if_pos c2] at q
      refine w_iconst (Ev.cm _) rfl ?_
      refine w_ireturn (Ev.cm _) rfl trivial rf0 ?_
      cases q
      exact g
    · have c2 : ¬ (r2 < r3) := c2
      rw [if_neg c2] at q
      refine w_iload (Ev.cm _) rfl rfl ?_
      refine w_goto (Ev.cm _) rfl ?_
      refine w_ireturn (Ev.cm _) rfl trivial rf0 ?_
      cases q
      exact g
  · have c1 : r1 = 0 := c1
    rw [if_pos c1] at q
    refine w_iconst (Ev.cm _) rfl ?_
    refine w_ireturn (Ev.cm _) rfl trivial rf0 ?_
    cases q
    exact g
def LO_M_write_32 (fu : Nat) : Nat → Int32 → Int32 → Int32 → (Nat → Nat → Int32) → (Nat → Nat → Int64) → Option (Unit × (Nat → Nat → Int32) × (Nat → Nat → Int64))
  | 0, _, _, _, _, _ => none
  | n + 1, x1, x2, x3, I, L => if 30 ≤ x3 then (if 0 ≤ (1511 : Int32) + ((I 332 11) - 1) ∧ (1511 : Int32) + ((I 332 11) - 1) < 1541 then (some ((), sI (sI (sI I 332 11 ((I 332 11) - 1)) 332 (((1511 : Int32) + ((I 332 11) - 1)).toNatClampNeg) (((((I 332 7) * 13) + x1) * 100) + x2)) 332 11 (((sI (sI I 332 11 ((I 332 11) - 1)) 332 (((1511 : Int32) + ((I 332 11) - 1)).toNatClampNeg) (((((I 332 7) * 13) + x1) * 100) + x2)) 332 11) + 1), L)) else none) else (if 0 ≤ (1511 : Int32) + x3 ∧ (1511 : Int32) + x3 < 1541 then (if 0 ≤ ((1511 : Int32) + x3) - 1 ∧ ((1511 : Int32) + x3) - 1 < 1541 then (LO_M_write_32 fu n x1 x2 (x3 + 1) (sI I 332 ((((1511 : Int32) + x3) - 1).toNatClampNeg) (I 332 (((1511 : Int32) + x3).toNatClampNeg))) L) else none) else none)
set_option maxHeartbeats 20000000 in
set_option maxRecDepth 20000 in
theorem lo_M_write_32 {d fu n0 s0 : Nat} {X : Nat × (Nat → Int32)} {Q : PQ} {res : Unit × (Nat → Nat → Int32) × (Nat → Nat → Int64)}  (g : Q none (HS res.2.1 res.2.2 X)) : ∀ (n : Nat) (x1 : Int32) (x2 : Int32) (x3 : Int32) (I : Nat → Nat → Int32) (L : Nat → Nat → Int64), LO_M_write_32 fu n x1 x2 x3 I L = some res → Wp (Ev (d + 0)) cd_M_write (0, 0) none n0 s0 Q 32 [(0, .ref 331), (1, .int x1), (2, .int x2), (3, .int x3)] [] (HS I L X) := by
  intro n
  induction n with
  | zero => intro _ _ _ _ _ q; cases q
  | succ n ih =>
    intro x1 x2 x3 I L q
    unfold LO_M_write_32 at q
    refine w_iload_n (Ev.cm _) rfl rfl ?_
    refine w_bipush (Ev.cm _) rfl ?_
    refine w_icmp_ge (Ev.cm _) rfl (fun c1 => ?_) (fun c1 => ?_)
    · have c1 : 30 ≤ x3 := c1
      rw [if_pos c1] at q
      refine w_aload_n (Ev.cm _) rfl rfl ?_
      refine w_getR (q := 332) (Ev.cm _) rfl (Nat.le_of_ble_eq_true rfl) rfl rfl ?_
      refine w_bipush (Ev.cm _) rfl ?_
      refine w_dup2 (Ev.cm _) rfl rfl rfl ?_
      refine w_iald (Ev.cm _) rfl (Nat.le_of_ble_eq_true rfl) rfl (show vp_in 11 1541 from vpI 1541 (by decide) (by decide) (by decide)) ?_
      refine w_iconst (Ev.cm _) rfl ?_
      refine w_isub (Ev.cm _) rfl ?_
      refine w_iast (Ev.cm _) rfl (Nat.le_of_ble_eq_true rfl) rfl (show vp_in 11 1541 from vpI 1541 (by decide) (by decide) (by decide)) ?_
      refine w_aload_n (Ev.cm _) rfl rfl ?_
      refine w_getR (q := 332) (Ev.cm _) rfl (Nat.le_of_ble_eq_true rfl) rfl rfl ?_
      refine w_sipush (Ev.cm _) rfl ?_
      refine w_aload_n (Ev.cm _) rfl rfl ?_
      refine w_getR (q := 332) (Ev.cm _) rfl (Nat.le_of_ble_eq_true rfl) rfl rfl ?_
      refine w_bipush (Ev.cm _) rfl ?_
      refine w_iald (Ev.cm _) rfl (Nat.le_of_ble_eq_true rfl) rfl (show vp_in 11 1541 from vpI 1541 (by decide) (by decide) (by decide)) ?_
      refine w_iadd (Ev.cm _) rfl ?_
      refine w_aload_n (Ev.cm _) rfl rfl ?_
      refine w_getR (q := 332) (Ev.cm _) rfl (Nat.le_of_ble_eq_true rfl) rfl rfl ?_
      refine w_bipush (Ev.cm _) rfl ?_
      refine w_iald (Ev.cm _) rfl (Nat.le_of_ble_eq_true rfl) rfl (show vp_in 7 1541 from vpI 1541 (by decide) (by decide) (by decide)) ?_
      refine w_bipush (Ev.cm _) rfl ?_
      refine w_imul (Ev.cm _) rfl ?_
      refine w_iload_n (Ev.cm _) rfl rfl ?_
      refine w_iadd (Ev.cm _) rfl ?_
      refine w_bipush (Ev.cm _) rfl ?_
      refine w_imul (Ev.cm _) rfl ?_
      refine w_iload_n (Ev.cm _) rfl rfl ?_
      refine w_iadd (Ev.cm _) rfl ?_
      obtain ⟨b1, q⟩ := ois q
      refine w_iast (Ev.cm _) rfl (Nat.le_of_ble_eq_true rfl) rfl (show vp_in ((1511 : Int32) + ((I 332 11) - 1)) 1541 from vpI 1541 (by decide) b1.1 b1.2) ?_
      refine w_aload_n (Ev.cm _) rfl rfl ?_
      refine w_getR (q := 332) (Ev.cm _) rfl (Nat.le_of_ble_eq_true rfl) rfl rfl ?_
      refine w_bipush (Ev.cm _) rfl ?_
      refine w_dup2 (Ev.cm _) rfl rfl rfl ?_
      refine w_iald (Ev.cm _) rfl (Nat.le_of_ble_eq_true rfl) rfl (show vp_in 11 1541 from vpI 1541 (by decide) (by decide) (by decide)) ?_
      refine w_iconst (Ev.cm _) rfl ?_
      refine w_iadd (Ev.cm _) rfl ?_
      refine w_iast (Ev.cm _) rfl (Nat.le_of_ble_eq_true rfl) rfl (show vp_in 11 1541 from vpI 1541 (by decide) (by decide) (by decide)) ?_
      refine w_return (Ev.cm _) rfl rfl rf0 ?_
      cases q
      exact g
    · have c1 : ¬ (30 ≤ x3) := c1
      rw [if_neg c1] at q
      refine w_aload_n (Ev.cm _) rfl rfl ?_
      refine w_getR (q := 332) (Ev.cm _) rfl (Nat.le_of_ble_eq_true rfl) rfl rfl ?_
      refine w_sipush (Ev.cm _) rfl ?_
      refine w_iload_n (Ev.cm _) rfl rfl ?_
      refine w_iadd (Ev.cm _) rfl ?_
      refine w_iconst (Ev.cm _) rfl ?_
      refine w_isub (Ev.cm _) rfl ?_
      refine w_aload_n (Ev.cm _) rfl rfl ?_
      refine w_getR (q := 332) (Ev.cm _) rfl (Nat.le_of_ble_eq_true rfl) rfl rfl ?_
      refine w_sipush (Ev.cm _) rfl ?_
      refine w_iload_n (Ev.cm _) rfl rfl ?_
      refine w_iadd (Ev.cm _) rfl ?_
      obtain ⟨b2, q⟩ := ois q
      refine w_iald (Ev.cm _) rfl (Nat.le_of_ble_eq_true rfl) rfl (show vp_in ((1511 : Int32) + x3) 1541 from vpI 1541 (by decide) b2.1 b2.2) ?_
      obtain ⟨b3, q⟩ := ois q
      refine w_iast (Ev.cm _) rfl (Nat.le_of_ble_eq_true rfl) rfl (show vp_in (((1511 : Int32) + x3) - 1) 1541 from vpI 1541 (by decide) b3.1 b3.2) ?_
      refine w_iinc (ls2 := [(0, .ref 331), (1, .int x1), (2, .int x2), (3, .int (x3 + 1))]) (Ev.cm _) rfl rfl rfl ?_
      refine w_goto (Ev.cm _) rfl ?_
      show Wp _ _ _ _ _ _ _ 32 [(0, .ref 331), (1, .int x1), (2, .int x2), (3, .int (x3 + 1))] [] (HS (sI I 332 ((((1511 : Int32) + x3) - 1).toNatClampNeg) (I 332 (((1511 : Int32) + x3).toNatClampNeg))) L X)
      refine Wp.sub [0, 1, 2, 3] (ls2 := [(0, .ref 331), (1, .int x1), (2, .int x2), (3, .int (x3 + 1))]) rfl ?_
      exact ih _ _ _ _ _ q
def FO_M_write (fu : Nat) (p0 : Int32) (p1 : Int32) (I : Nat → Nat → Int32) (L : Nat → Nat → Int64) : Option (Unit × (Nat → Nat → Int32) × (Nat → Nat → Int64)) := if I 331 23 = 0 then (some ((), sI I 331 24 ((I 331 24) + 1), L)) else (if I 332 11 = 30 then (LO_M_write_32 fu fu p0 p1 1 (sI I 331 24 ((I 331 24) + 1)) L) else (if 0 ≤ (1511 : Int32) + (I 332 11) ∧ (1511 : Int32) + (I 332 11) < 1541 then (some ((), sI (sI (sI I 331 24 ((I 331 24) + 1)) 332 (((1511 : Int32) + (I 332 11)).toNatClampNeg) (((((I 332 7) * 13) + p0) * 100) + p1)) 332 11 (((sI (sI I 331 24 ((I 331 24) + 1)) 332 (((1511 : Int32) + (I 332 11)).toNatClampNeg) (((((I 332 7) * 13) + p0) * 100) + p1)) 332 11) + 1), L)) else none))
set_option maxHeartbeats 20000000 in
set_option maxRecDepth 20000 in
theorem eo_M_write {d fu : Nat} {p0 : Int32} {p1 : Int32} {I : Nat → Nat → Int32} {L : Nat → Nat → Int64} {X : Nat × (Nat → Int32)} {Q : PQ} {res : Unit × (Nat → Nat → Int32) × (Nat → Nat → Int64)}  (g : Q none (HS res.2.1 res.2.2 X)) (q : FO_M_write fu p0 p1 I L = some res) : Ev (d + 1) m_M_write [.ref 331, .int p0, .int p1] (HS I L X) Q := by
  unfold FO_M_write at q
  refine ev_start (d := d + 0) rfl rfl rfl (Nat.le_of_ble_eq_true rfl) ?_
  show Wp (Ev (d + 0)) cd_M_write (0, 0) none _ _ Q 0 [(0, .ref 331), (1, .int p0), (2, .int p1)] [] (HS I L X)
  refine w_aload_n (Ev.cm _) rfl rfl ?_
  refine w_dup (Ev.cm _) rfl rfl ?_
  refine w_getI (Ev.cm _) rfl (Nat.le_of_ble_eq_true rfl) rfl ?_
  refine w_iconst (Ev.cm _) rfl ?_
  refine w_iadd (Ev.cm _) rfl ?_
  refine w_putI (Ev.cm _) rfl (Nat.le_of_ble_eq_true rfl) rfl ?_
  refine w_aload_n (Ev.cm _) rfl rfl ?_
  refine w_getI (Ev.cm _) rfl (Nat.le_of_ble_eq_true rfl) rfl ?_
  refine w_if_ne (Ev.cm _) rfl (fun c1 => ?_) (fun c1 => ?_)
  · have c1 : ¬ (I 331 23 = 0) := c1
    rw [if_neg c1] at q
    refine w_aload_n (Ev.cm _) rfl rfl ?_
    refine w_getR (q := 332) (Ev.cm _) rfl (Nat.le_of_ble_eq_true rfl) rfl rfl ?_
    refine w_bipush (Ev.cm _) rfl ?_
    refine w_iald (Ev.cm _) rfl (Nat.le_of_ble_eq_true rfl) rfl (show vp_in 11 1541 from vpI 1541 (by decide) (by decide) (by decide)) ?_
    refine w_bipush (Ev.cm _) rfl ?_
    refine w_icmp_ne (Ev.cm _) rfl (fun c2 => ?_) (fun c2 => ?_)
    · have c2 : ¬ (I 332 11 = 30) := c2
      rw [if_neg c2] at q
      refine w_aload_n (Ev.cm _) rfl rfl ?_
      refine w_getR (q := 332) (Ev.cm _) rfl (Nat.le_of_ble_eq_true rfl) rfl rfl ?_
      refine w_sipush (Ev.cm _) rfl ?_
      refine w_aload_n (Ev.cm _) rfl rfl ?_
      refine w_getR (q := 332) (Ev.cm _) rfl (Nat.le_of_ble_eq_true rfl) rfl rfl ?_
      refine w_bipush (Ev.cm _) rfl ?_
      refine w_iald (Ev.cm _) rfl (Nat.le_of_ble_eq_true rfl) rfl (show vp_in 11 1541 from vpI 1541 (by decide) (by decide) (by decide)) ?_
      refine w_iadd (Ev.cm _) rfl ?_
      refine w_aload_n (Ev.cm _) rfl rfl ?_
      refine w_getR (q := 332) (Ev.cm _) rfl (Nat.le_of_ble_eq_true rfl) rfl rfl ?_
      refine w_bipush (Ev.cm _) rfl ?_
      refine w_iald (Ev.cm _) rfl (Nat.le_of_ble_eq_true rfl) rfl (show vp_in 7 1541 from vpI 1541 (by decide) (by decide) (by decide)) ?_
      refine w_bipush (Ev.cm _) rfl ?_
      refine w_imul (Ev.cm _) rfl ?_
      refine w_iload_n (Ev.cm _) rfl rfl ?_
      refine w_iadd (Ev.cm _) rfl ?_
      refine w_bipush (Ev.cm _) rfl ?_
      refine w_imul (Ev.cm _) rfl ?_
      refine w_iload_n (Ev.cm _) rfl rfl ?_
      refine w_iadd (Ev.cm _) rfl ?_
      obtain ⟨b1, q⟩ := ois q
      refine w_iast (Ev.cm _) rfl (Nat.le_of_ble_eq_true rfl) rfl (show vp_in ((1511 : Int32) + (I 332 11)) 1541 from vpI 1541 (by decide) b1.1 b1.2) ?_
      refine w_aload_n (Ev.cm _) rfl rfl ?_
      refine w_getR (q := 332) (Ev.cm _) rfl (Nat.le_of_ble_eq_true rfl) rfl rfl ?_
      refine w_bipush (Ev.cm _) rfl ?_
      refine w_dup2 (Ev.cm _) rfl rfl rfl ?_
      refine w_iald (Ev.cm _) rfl (Nat.le_of_ble_eq_true rfl) rfl (show vp_in 11 1541 from vpI 1541 (by decide) (by decide) (by decide)) ?_
      refine w_iconst (Ev.cm _) rfl ?_
      refine w_iadd (Ev.cm _) rfl ?_
      refine w_iast (Ev.cm _) rfl (Nat.le_of_ble_eq_true rfl) rfl (show vp_in 11 1541 from vpI 1541 (by decide) (by decide) (by decide)) ?_
      refine w_return (Ev.cm _) rfl rfl rf0 ?_
      cases q
      exact g
    · have c2 : I 332 11 = 30 := c2
      rw [if_pos c2] at q
      refine w_iconst (Ev.cm _) rfl ?_
      refine w_istore_n (ls2 := [(0, .ref 331), (1, .int p0), (2, .int p1), (3, .int 1)]) (Ev.cm _) rfl rfl ?_
      show Wp _ _ _ _ _ _ _ 32 [(0, .ref 331), (1, .int p0), (2, .int p1), (3, .int 1)] [] (HS (sI I 331 24 ((I 331 24) + 1)) L X)
      refine Wp.sub [0, 1, 2, 3] (ls2 := [(0, .ref 331), (1, .int p0), (2, .int p1), (3, .int 1)]) rfl ?_
      exact lo_M_write_32 g fu _ _ _ _ _ q
  · have c1 : I 331 23 = 0 := c1
    rw [if_pos c1] at q
    refine w_return (Ev.cm _) rfl rfl rf0 ?_
    cases q
    exact g
def FO_M_anew (fu : Nat) (I : Nat → Nat → Int32) (L : Nat → Nat → Int64) : Option (Unit × (Nat → Nat → Int32) × (Nat → Nat → Int64)) := some ((), sI I 332 8 (((lR (((((I 332 8) : Int32).toInt64) * 557) + 431) 30763) : Int64).toInt32), L)
set_option maxHeartbeats 20000000 in
set_option maxRecDepth 20000 in
theorem eo_M_anew {d fu : Nat} {I : Nat → Nat → Int32} {L : Nat → Nat → Int64} {X : Nat × (Nat → Int32)} {Q : PQ} {res : Unit × (Nat → Nat → Int32) × (Nat → Nat → Int64)}  (g : Q none (HS res.2.1 res.2.2 X)) (q : FO_M_anew fu  I L = some res) : Ev (d + 1) m_M_anew [.ref 331] (HS I L X) Q := by
  unfold FO_M_anew at q
  refine ev_start (d := d + 0) rfl rfl rfl (Nat.le_of_ble_eq_true rfl) ?_
  show Wp (Ev (d + 0)) cd_M_anew (0, 0) none _ _ Q 0 [(0, .ref 331)] [] (HS I L X)
  refine w_aload_n (Ev.cm _) rfl rfl ?_
  refine w_getR (q := 332) (Ev.cm _) rfl (Nat.le_of_ble_eq_true rfl) rfl rfl ?_
  refine w_bipush (Ev.cm _) rfl ?_
  refine w_aload_n (Ev.cm _) rfl rfl ?_
  refine w_getR (q := 332) (Ev.cm _) rfl (Nat.le_of_ble_eq_true rfl) rfl rfl ?_
  refine w_bipush (Ev.cm _) rfl ?_
  refine w_iald (Ev.cm _) rfl (Nat.le_of_ble_eq_true rfl) rfl (show vp_in 8 1541 from vpI 1541 (by decide) (by decide) (by decide)) ?_
  refine w_i2l (Ev.cm _) rfl ?_
  refine w_ldc2_w (Ev.cm _) rfl ?_
  refine w_lmul (Ev.cm _) rfl ?_
  refine w_ldc2_w (Ev.cm _) rfl ?_
  refine w_ladd (Ev.cm _) rfl ?_
  refine w_ldc2_w (Ev.cm _) rfl ?_
  refine w_lrem (Ev.cm _) rfl (by decide) ?_
  refine w_l2i (Ev.cm _) rfl ?_
  refine w_iast (Ev.cm _) rfl (Nat.le_of_ble_eq_true rfl) rfl (show vp_in 8 1541 from vpI 1541 (by decide) (by decide) (by decide)) ?_
  refine w_return (Ev.cm _) rfl rfl rf0 ?_
  cases q
  exact g
def FO_M_canTread (fu : Nat) (p0 : Int32) (p1 : Int32) (p2 : Int32) (I : Nat → Nat → Int32) (L : Nat → Nat → Int64) : Option (Int32 × (Nat → Nat → Int32) × (Nat → Nat → Int64)) := if F_M_isLodger I p0 = 0 then (some (0, I, L)) else (if (1 : Int32) ≤ p2 ∧ p2 ≤ (3 : Int32) then (if p1 = 0 then ((FO_M_placeOf fu p0 I L).bind (fun u1 => let r1 := u1.1; let I1 := u1.2.1; let L1 := u1.2.2; if 0 ≤ (r1 - p2) ∧ (r1 - p2) ≤ 12 then (some (1, I1, L1)) else (some (0, I1, L1)))) else ((FO_M_placeOf fu p0 I L).bind (fun u2 => let r2 := u2.1; let I2 := u2.2.1; let L2 := u2.2.2; if 0 ≤ (r2 + p2) ∧ (r2 + p2) ≤ 12 then (some (1, I2, L2)) else (some (0, I2, L2))))) else (some (0, I, L)))
set_option maxHeartbeats 20000000 in
set_option maxRecDepth 20000 in
theorem eo_M_canTread {d fu : Nat} {p0 : Int32} {p1 : Int32} {p2 : Int32} {I : Nat → Nat → Int32} {L : Nat → Nat → Int64} {X : Nat × (Nat → Int32)} {Q : PQ} {res : Int32 × (Nat → Nat → Int32) × (Nat → Nat → Int64)}  (g : Q (some (.int res.1)) (HS res.2.1 res.2.2 X)) (q : FO_M_canTread fu p0 p1 p2 I L = some res) : Ev (d + 3) m_M_canTread [.ref 331, .int p0, .int p1, .int p2] (HS I L X) Q := by
  unfold FO_M_canTread at q
  refine ev_start (d := d + 2) rfl rfl rfl (Nat.le_of_ble_eq_true rfl) ?_
  show Wp (Ev (d + 2)) cd_M_canTread (0, 0) (some .boolean) _ _ Q 0 [(0, .ref 331), (1, .int p0), (2, .int p1), (3, .int p2)] [] (HS I L X)
  refine w_aload_n (Ev.cm _) rfl rfl ?_
  refine w_iload_n (Ev.cm _) rfl rfl ?_
  refine w_cvirt (o := 331) (as := [.int p0]) (st := []) (Ev.cm _) rfl rfl rfl (Nat.le_of_ble_eq_true rfl) (Nat.le_of_ble_eq_true rfl) rfl (Nat.le_of_ble_eq_true rfl) (e_M_isLodger ?_)
  show Wp _ _ _ _ _ _ _ 5 [(0, .ref 331), (1, .int p0), (2, .int p1), (3, .int p2)] [.int (F_M_isLodger I p0)] (HS I L X)
  refine w_if_eq (Ev.cm _) rfl (fun c1 => ?_) (fun c1 => ?_)
  · have c1 : F_M_isLodger I p0 = 0 := c1
    rw [if_pos c1] at q
    refine w_iconst (Ev.cm _) rfl ?_
    refine w_ireturn (Ev.cm _) rfl (by first | exact rok_0 | exact rok_1 | exact rok_b) rf0 ?_
    cases q
    exact g
  · have c1 : ¬ (F_M_isLodger I p0 = 0) := c1
    rw [if_neg c1] at q
    refine w_iload_n (Ev.cm _) rfl rfl ?_
    refine w_iconst (Ev.cm _) rfl ?_
    refine w_iconst (Ev.cm _) rfl ?_
    refine w_cstat (as := [.int p2, .int 1, .int 3]) (st := []) (Ev.cm _) rfl rfl rfl (Nat.le_of_ble_eq_true rfl) (Nat.le_of_ble_eq_true rfl) (m_isIn ?_)
    show Wp _ _ _ _ _ _ _ 14 [(0, .ref 331), (1, .int p0), (2, .int p1), (3, .int p2)] [.int (bI ((1 : Int32) ≤ p2 ∧ p2 ≤ (3 : Int32)))] (HS I L X)
    refine w_if_eq (Ev.cm _) rfl (fun c2 => ?_) (fun c2 => ?_)
    · have c2 : ¬ ((1 : Int32) ≤ p2 ∧ p2 ≤ (3 : Int32)) := bI_0.mp c2
      rw [if_neg c2] at q
      refine w_iconst (Ev.cm _) rfl ?_
      refine w_ireturn (Ev.cm _) rfl (by first | exact rok_0 | exact rok_1 | exact rok_b) rf0 ?_
      cases q
      exact g
    · have c2 : (1 : Int32) ≤ p2 ∧ p2 ≤ (3 : Int32) := bI_1.mp c2
      rw [if_pos c2] at q
      refine w_iload_n (Ev.cm _) rfl rfl ?_
      refine w_if_eq (Ev.cm _) rfl (fun c3 => ?_) (fun c3 => ?_)
      · have c3 : p1 = 0 := c3
        rw [if_pos c3] at q
        refine w_aload_n (Ev.cm _) rfl rfl ?_
        refine w_iload_n (Ev.cm _) rfl rfl ?_
        obtain ⟨⟨r1, I1, L1⟩, e1, q⟩ := obs q
        dsimp only at q
        refine w_cvirt (o := 331) (as := [.int p0]) (st := []) (Ev.cm _) rfl rfl rfl (Nat.le_of_ble_eq_true rfl) (Nat.le_of_ble_eq_true rfl) rfl (Nat.le_of_ble_eq_true rfl) (eo_M_placeOf (g := ?_) e1)
        show Wp _ _ _ _ _ _ _ 36 [(0, .ref 331), (1, .int p0), (2, .int p1), (3, .int p2)] [.int r1] (HS I1 L1 X)
        refine w_iload_n (Ev.cm _) rfl rfl ?_
        refine w_isub (Ev.cm _) rfl ?_
        refine w_cstat (as := [.int (r1 - p2)]) (st := []) (Ev.cm _) rfl rfl rfl (Nat.le_of_ble_eq_true rfl) (Nat.le_of_ble_eq_true rfl) (m_isPlace ?_)
        show Wp _ _ _ _ _ _ _ 41 [(0, .ref 331), (1, .int p0), (2, .int p1), (3, .int p2)] [.int (bI (0 ≤ (r1 - p2) ∧ (r1 - p2) ≤ 12))] (HS I1 L1 X)
        refine w_if_eq (Ev.cm _) rfl (fun c4 => ?_) (fun c4 => ?_)
        · have c4 : ¬ (0 ≤ (r1 - p2) ∧ (r1 - p2) ≤ 12) := bI_0.mp c4
          rw [if_neg c4] at q
          refine w_iconst (Ev.cm _) rfl ?_
          refine w_ireturn (Ev.cm _) rfl (by first | exact rok_0 | exact rok_1 | exact rok_b) rf0 ?_
          cases q
          exact g
        · have c4 : 0 ≤ (r1 - p2) ∧ (r1 - p2) ≤ 12 := bI_1.mp c4
          rw [if_pos c4] at q
          refine w_iconst (Ev.cm _) rfl ?_
          refine w_goto (Ev.cm _) rfl ?_
          refine w_ireturn (Ev.cm _) rfl (by first | exact rok_0 | exact rok_1 | exact rok_b) rf0 ?_
          cases q
          exact g
      · have c3 : ¬ (p1 = 0) := c3
        rw [if_neg c3] at q
        refine w_aload_n (Ev.cm _) rfl rfl ?_
        refine w_iload_n (Ev.cm _) rfl rfl ?_
        obtain ⟨⟨r2, I2, L2⟩, e2, q⟩ := obs q
        dsimp only at q
        refine w_cvirt (o := 331) (as := [.int p0]) (st := []) (Ev.cm _) rfl rfl rfl (Nat.le_of_ble_eq_true rfl) (Nat.le_of_ble_eq_true rfl) rfl (Nat.le_of_ble_eq_true rfl) (eo_M_placeOf (g := ?_) e2)
        show Wp _ _ _ _ _ _ _ 26 [(0, .ref 331), (1, .int p0), (2, .int p1), (3, .int p2)] [.int r2] (HS I2 L2 X)
        refine w_iload_n (Ev.cm _) rfl rfl ?_
        refine w_iadd (Ev.cm _) rfl ?_
        refine w_goto (Ev.cm _) rfl ?_
        refine w_cstat (as := [.int (r2 + p2)]) (st := []) (Ev.cm _) rfl rfl rfl (Nat.le_of_ble_eq_true rfl) (Nat.le_of_ble_eq_true rfl) (m_isPlace ?_)
        show Wp _ _ _ _ _ _ _ 41 [(0, .ref 331), (1, .int p0), (2, .int p1), (3, .int p2)] [.int (bI (0 ≤ (r2 + p2) ∧ (r2 + p2) ≤ 12))] (HS I2 L2 X)
        refine w_if_eq (Ev.cm _) rfl (fun c5 => ?_) (fun c5 => ?_)
        · have c5 : ¬ (0 ≤ (r2 + p2) ∧ (r2 + p2) ≤ 12) := bI_0.mp c5
          rw [if_neg c5] at q
          refine w_iconst (Ev.cm _) rfl ?_
          refine w_ireturn (Ev.cm _) rfl (by first | exact rok_0 | exact rok_1 | exact rok_b) rf0 ?_
          cases q
          exact g
        · have c5 : 0 ≤ (r2 + p2) ∧ (r2 + p2) ≤ 12 := bI_1.mp c5
          rw [if_pos c5] at q
          refine w_iconst (Ev.cm _) rfl ?_
          refine w_goto (Ev.cm _) rfl ?_
          refine w_ireturn (Ev.cm _) rfl (by first | exact rok_0 | exact rok_1 | exact rok_b) rf0 ?_
          cases q
          exact g
def FO_M_treadNow (fu : Nat) (p0 : Int32) (p1 : Int32) (p2 : Int32) (I : Nat → Nat → Int32) (L : Nat → Nat → Int64) : Option (Int32 × (Nat → Nat → Int32) × (Nat → Nat → Int64)) := if p1 = 0 then ((FO_M_placeOf fu p0 I L).bind (fun u1 => let r1 := u1.1; let I1 := u1.2.1; let L1 := u1.2.2; (FO_M_heardAt fu p0 (r1 - p2) p1 I1 L1).bind (fun u2 => let r2 := u2.1; let I2 := u2.2.1; let L2 := u2.2.2; if 0 ≤ (12 : Int32) + ((2 : Int32) * p0) ∧ (12 : Int32) + ((2 : Int32) * p0) < 1541 then ((FO_M_trod fu p0 (sI I2 332 (((12 : Int32) + ((2 : Int32) * p0)).toNatClampNeg) (r1 - p2)) L2).bind (fun u4 => let r4 := u4.1; let I4 := u4.2.1; let L4 := u4.2.2; (FO_M_cut fu (((r4 + 1) : Int32).toInt64) 0 9999 I4 L4).bind (fun u5 => let r5 := u5.1; let I5 := u5.2.1; let L5 := u5.2.2; if 0 ≤ ((12 : Int32) + ((2 : Int32) * p0)) + 1 ∧ ((12 : Int32) + ((2 : Int32) * p0)) + 1 < 1541 then (if r2 ≤ 0 then (some (r2, sI I5 332 ((((12 : Int32) + ((2 : Int32) * p0)) + 1).toNatClampNeg) r5, L5)) else ((FO_M_write fu (r1 - p2) r2 (sI I5 332 ((((12 : Int32) + ((2 : Int32) * p0)) + 1).toNatClampNeg) r5) L5).bind (fun u7 => let r7 := u7.1; let I7 := u7.2.1; let L7 := u7.2.2; some (r2, I7, L7)))) else none))) else none))) else ((FO_M_placeOf fu p0 I L).bind (fun u8 => let r8 := u8.1; let I8 := u8.2.1; let L8 := u8.2.2; (FO_M_heardAt fu p0 (r8 + p2) p1 I8 L8).bind (fun u9 => let r9 := u9.1; let I9 := u9.2.1; let L9 := u9.2.2; if 0 ≤ (12 : Int32) + ((2 : Int32) * p0) ∧ (12 : Int32) + ((2 : Int32) * p0) < 1541 then ((FO_M_trod fu p0 (sI I9 332 (((12 : Int32) + ((2 : Int32) * p0)).toNatClampNeg) (r8 + p2)) L9).bind (fun u11 => let r11 := u11.1; let I11 := u11.2.1; let L11 := u11.2.2; (FO_M_cut fu (((r11 + 1) : Int32).toInt64) 0 9999 I11 L11).bind (fun u12 => let r12 := u12.1; let I12 := u12.2.1; let L12 := u12.2.2; if 0 ≤ ((12 : Int32) + ((2 : Int32) * p0)) + 1 ∧ ((12 : Int32) + ((2 : Int32) * p0)) + 1 < 1541 then (if r9 ≤ 0 then (some (r9, sI I12 332 ((((12 : Int32) + ((2 : Int32) * p0)) + 1).toNatClampNeg) r12, L12)) else ((FO_M_write fu (r8 + p2) r9 (sI I12 332 ((((12 : Int32) + ((2 : Int32) * p0)) + 1).toNatClampNeg) r12) L12).bind (fun u14 => let r14 := u14.1; let I14 := u14.2.1; let L14 := u14.2.2; some (r9, I14, L14)))) else none))) else none)))
set_option maxHeartbeats 20000000 in
set_option maxRecDepth 20000 in
theorem eo_M_treadNow {d fu : Nat} {p0 : Int32} {p1 : Int32} {p2 : Int32} {I : Nat → Nat → Int32} {L : Nat → Nat → Int64} {X : Nat × (Nat → Int32)} {Q : PQ} {res : Int32 × (Nat → Nat → Int32) × (Nat → Nat → Int64)}  (g : Q (some (.int res.1)) (HS res.2.1 res.2.2 X)) (q : FO_M_treadNow fu p0 p1 p2 I L = some res) : Ev (d + 9) m_M_treadNow [.ref 331, .int p0, .int p1, .int p2] (HS I L X) Q := by
  unfold FO_M_treadNow at q
  refine ev_start (d := d + 8) rfl rfl rfl (Nat.le_of_ble_eq_true rfl) ?_
  show Wp (Ev (d + 8)) cd_M_treadNow (0, 0) (some .int) _ _ Q 0 [(0, .ref 331), (1, .int p0), (2, .int p1), (3, .int p2)] [] (HS I L X)
  refine w_iload_n (Ev.cm _) rfl rfl ?_
  refine w_if_eq (Ev.cm _) rfl (fun c1 => ?_) (fun c1 => ?_)
  · have c1 : p1 = 0 := c1
    rw [if_pos c1] at q
    refine w_aload_n (Ev.cm _) rfl rfl ?_
    refine w_iload_n (Ev.cm _) rfl rfl ?_
    obtain ⟨⟨r1, I1, L1⟩, e1, q⟩ := obs q
    dsimp only at q
    refine w_cvirt (o := 331) (as := [.int p0]) (st := []) (Ev.cm _) rfl rfl rfl (Nat.le_of_ble_eq_true rfl) (Nat.le_of_ble_eq_true rfl) rfl (Nat.le_of_ble_eq_true rfl) (eo_M_placeOf (g := ?_) e1)
    show Wp _ _ _ _ _ _ _ 19 [(0, .ref 331), (1, .int p0), (2, .int p1), (3, .int p2)] [.int r1] (HS I1 L1 X)
    refine w_iload_n (Ev.cm _) rfl rfl ?_
    refine w_isub (Ev.cm _) rfl ?_
    refine w_istore (ls2 := [(0, .ref 331), (1, .int p0), (2, .int p1), (3, .int p2), (4, .int (r1 - p2))]) (Ev.cm _) rfl rfl ?_
    refine w_aload_n (Ev.cm _) rfl rfl ?_
    refine w_iload_n (Ev.cm _) rfl rfl ?_
    refine w_iload (Ev.cm _) rfl rfl ?_
    refine w_iload_n (Ev.cm _) rfl rfl ?_
    obtain ⟨⟨r2, I2, L2⟩, e2, q⟩ := obs q
    dsimp only at q
    refine w_cvirt (o := 331) (as := [.int p0, .int (r1 - p2), .int p1]) (st := []) (Ev.cm _) rfl rfl rfl (Nat.le_of_ble_eq_true rfl) (Nat.le_of_ble_eq_true rfl) rfl (Nat.le_of_ble_eq_true rfl) (eo_M_heardAt (g := ?_) e2)
    show Wp _ _ _ _ _ _ _ 31 [(0, .ref 331), (1, .int p0), (2, .int p1), (3, .int p2), (4, .int (r1 - p2))] [.int r2] (HS I2 L2 X)
    refine w_istore (ls2 := [(0, .ref 331), (1, .int p0), (2, .int p1), (3, .int p2), (4, .int (r1 - p2)), (5, .int r2)]) (Ev.cm _) rfl rfl ?_
    refine w_aload_n (Ev.cm _) rfl rfl ?_
    refine w_getR (q := 332) (Ev.cm _) rfl (Nat.le_of_ble_eq_true rfl) rfl rfl ?_
    refine w_bipush (Ev.cm _) rfl ?_
    refine w_iconst (Ev.cm _) rfl ?_
    refine w_iload_n (Ev.cm _) rfl rfl ?_
    refine w_imul (Ev.cm _) rfl ?_
    refine w_iadd (Ev.cm _) rfl ?_
    refine w_iload (Ev.cm _) rfl rfl ?_
    obtain ⟨b3, q⟩ := ois q
    refine w_iast (Ev.cm _) rfl (Nat.le_of_ble_eq_true rfl) rfl (show vp_in ((12 : Int32) + ((2 : Int32) * p0)) 1541 from vpI 1541 (by decide) b3.1 b3.2) ?_
    refine w_aload_n (Ev.cm _) rfl rfl ?_
    refine w_getR (q := 332) (Ev.cm _) rfl (Nat.le_of_ble_eq_true rfl) rfl rfl ?_
    refine w_bipush (Ev.cm _) rfl ?_
    refine w_iconst (Ev.cm _) rfl ?_
    refine w_iload_n (Ev.cm _) rfl rfl ?_
    refine w_imul (Ev.cm _) rfl ?_
    refine w_iadd (Ev.cm _) rfl ?_
    refine w_iconst (Ev.cm _) rfl ?_
    refine w_iadd (Ev.cm _) rfl ?_
    refine w_aload_n (Ev.cm _) rfl rfl ?_
    refine w_iload_n (Ev.cm _) rfl rfl ?_
    obtain ⟨⟨r4, I4, L4⟩, e4, q⟩ := obs q
    dsimp only at q
    refine w_cvirt (o := 331) (as := [.int p0]) (st := [.int (((12 : Int32) + ((2 : Int32) * p0)) + 1), .ref 332]) (Ev.cm _) rfl rfl rfl (Nat.le_of_ble_eq_true rfl) (Nat.le_of_ble_eq_true rfl) rfl (Nat.le_of_ble_eq_true rfl) (eo_M_trod (g := ?_) e4)
    show Wp _ _ _ _ _ _ _ 63 [(0, .ref 331), (1, .int p0), (2, .int p1), (3, .int p2), (4, .int (r1 - p2)), (5, .int r2)] [.int r4, .int (((12 : Int32) + ((2 : Int32) * p0)) + 1), .ref 332] (HS I4 L4 X)
    refine w_iconst (Ev.cm _) rfl ?_
    refine w_iadd (Ev.cm _) rfl ?_
    refine w_i2l (Ev.cm _) rfl ?_
    refine w_iconst (Ev.cm _) rfl ?_
    refine w_sipush (Ev.cm _) rfl ?_
    obtain ⟨⟨r5, I5, L5⟩, e5, q⟩ := obs q
    dsimp only at q
    refine w_cstat (as := [.long (((r4 + 1) : Int32).toInt64), .int 0, .int 9999]) (st := [.int (((12 : Int32) + ((2 : Int32) * p0)) + 1), .ref 332]) (Ev.cm _) rfl rfl rfl (Nat.le_of_ble_eq_true rfl) (Nat.le_of_ble_eq_true rfl) (eo_M_cut (g := ?_) e5)
    show Wp _ _ _ _ _ _ _ 73 [(0, .ref 331), (1, .int p0), (2, .int p1), (3, .int p2), (4, .int (r1 - p2)), (5, .int r2)] [.int r5, .int (((12 : Int32) + ((2 : Int32) * p0)) + 1), .ref 332] (HS I5 L5 X)
    obtain ⟨b6, q⟩ := ois q
    refine w_iast (Ev.cm _) rfl (Nat.le_of_ble_eq_true rfl) rfl (show vp_in (((12 : Int32) + ((2 : Int32) * p0)) + 1) 1541 from vpI 1541 (by decide) b6.1 b6.2) ?_
    refine w_iload (Ev.cm _) rfl rfl ?_
    refine w_if_le (Ev.cm _) rfl (fun c2 => ?_) (fun c2 => ?_)
    · have c2 : r2 ≤ 0 := c2
      rw [if_pos c2] at q
      refine w_iload (Ev.cm _) rfl rfl ?_
      refine w_ireturn (Ev.cm _) rfl trivial rf0 ?_
      cases q
      exact g
    · have c2 : ¬ (r2 ≤ 0) := c2
      rw [if_neg c2] at q
      refine w_aload_n (Ev.cm _) rfl rfl ?_
      refine w_iload (Ev.cm _) rfl rfl ?_
      refine w_iload (Ev.cm _) rfl rfl ?_
      obtain ⟨⟨r7, I7, L7⟩, e7, q⟩ := obs q
      dsimp only at q
      refine w_cvirt (o := 331) (as := [.int (r1 - p2), .int r2]) (st := []) (Ev.cm _) rfl rfl rfl (Nat.le_of_ble_eq_true rfl) (Nat.le_of_ble_eq_true rfl) rfl (Nat.le_of_ble_eq_true rfl) (eo_M_write (g := ?_) e7)
      show Wp _ _ _ _ _ _ _ 87 [(0, .ref 331), (1, .int p0), (2, .int p1), (3, .int p2), (4, .int (r1 - p2)), (5, .int r2)] [] (HS I7 L7 X)
      refine w_iload (Ev.cm _) rfl rfl ?_
      refine w_ireturn (Ev.cm _) rfl trivial rf0 ?_
      cases q
      exact g
  · have c1 : ¬ (p1 = 0) := c1
    rw [if_neg c1] at q
    refine w_aload_n (Ev.cm _) rfl rfl ?_
    refine w_iload_n (Ev.cm _) rfl rfl ?_
    obtain ⟨⟨r8, I8, L8⟩, e8, q⟩ := obs q
    dsimp only at q
    refine w_cvirt (o := 331) (as := [.int p0]) (st := []) (Ev.cm _) rfl rfl rfl (Nat.le_of_ble_eq_true rfl) (Nat.le_of_ble_eq_true rfl) rfl (Nat.le_of_ble_eq_true rfl) (eo_M_placeOf (g := ?_) e8)
    show Wp _ _ _ _ _ _ _ 9 [(0, .ref 331), (1, .int p0), (2, .int p1), (3, .int p2)] [.int r8] (HS I8 L8 X)
    refine w_iload_n (Ev.cm _) rfl rfl ?_
    refine w_iadd (Ev.cm _) rfl ?_
    refine w_goto (Ev.cm _) rfl ?_
    refine w_istore (ls2 := [(0, .ref 331), (1, .int p0), (2, .int p1), (3, .int p2), (4, .int (r8 + p2))]) (Ev.cm _) rfl rfl ?_
    refine w_aload_n (Ev.cm _) rfl rfl ?_
    refine w_iload_n (Ev.cm _) rfl rfl ?_
    refine w_iload (Ev.cm _) rfl rfl ?_
    refine w_iload_n (Ev.cm _) rfl rfl ?_
    obtain ⟨⟨r9, I9, L9⟩, e9, q⟩ := obs q
    dsimp only at q
    refine w_cvirt (o := 331) (as := [.int p0, .int (r8 + p2), .int p1]) (st := []) (Ev.cm _) rfl rfl rfl (Nat.le_of_ble_eq_true rfl) (Nat.le_of_ble_eq_true rfl) rfl (Nat.le_of_ble_eq_true rfl) (eo_M_heardAt (g := ?_) e9)
    show Wp _ _ _ _ _ _ _ 31 [(0, .ref 331), (1, .int p0), (2, .int p1), (3, .int p2), (4, .int (r8 + p2))] [.int r9] (HS I9 L9 X)
    refine w_istore (ls2 := [(0, .ref 331), (1, .int p0), (2, .int p1), (3, .int p2), (4, .int (r8 + p2)), (5, .int r9)]) (Ev.cm _) rfl rfl ?_
    refine w_aload_n (Ev.cm _) rfl rfl ?_
    refine w_getR (q := 332) (Ev.cm _) rfl (Nat.le_of_ble_eq_true rfl) rfl rfl ?_
    refine w_bipush (Ev.cm _) rfl ?_
    refine w_iconst (Ev.cm _) rfl ?_
    refine w_iload_n (Ev.cm _) rfl rfl ?_
    refine w_imul (Ev.cm _) rfl ?_
    refine w_iadd (Ev.cm _) rfl ?_
    refine w_iload (Ev.cm _) rfl rfl ?_
    obtain ⟨b10, q⟩ := ois q
    refine w_iast (Ev.cm _) rfl (Nat.le_of_ble_eq_true rfl) rfl (show vp_in ((12 : Int32) + ((2 : Int32) * p0)) 1541 from vpI 1541 (by decide) b10.1 b10.2) ?_
    refine w_aload_n (Ev.cm _) rfl rfl ?_
    refine w_getR (q := 332) (Ev.cm _) rfl (Nat.le_of_ble_eq_true rfl) rfl rfl ?_
    refine w_bipush (Ev.cm _) rfl ?_
    refine w_iconst (Ev.cm _) rfl ?_
    refine w_iload_n (Ev.cm _) rfl rfl ?_
    refine w_imul (Ev.cm _) rfl ?_
    refine w_iadd (Ev.cm _) rfl ?_
    refine w_iconst (Ev.cm _) rfl ?_
    refine w_iadd (Ev.cm _) rfl ?_
    refine w_aload_n (Ev.cm _) rfl rfl ?_
    refine w_iload_n (Ev.cm _) rfl rfl ?_
    obtain ⟨⟨r11, I11, L11⟩, e11, q⟩ := obs q
    dsimp only at q
    refine w_cvirt (o := 331) (as := [.int p0]) (st := [.int (((12 : Int32) + ((2 : Int32) * p0)) + 1), .ref 332]) (Ev.cm _) rfl rfl rfl (Nat.le_of_ble_eq_true rfl) (Nat.le_of_ble_eq_true rfl) rfl (Nat.le_of_ble_eq_true rfl) (eo_M_trod (g := ?_) e11)
    show Wp _ _ _ _ _ _ _ 63 [(0, .ref 331), (1, .int p0), (2, .int p1), (3, .int p2), (4, .int (r8 + p2)), (5, .int r9)] [.int r11, .int (((12 : Int32) + ((2 : Int32) * p0)) + 1), .ref 332] (HS I11 L11 X)
    refine w_iconst (Ev.cm _) rfl ?_
    refine w_iadd (Ev.cm _) rfl ?_
    refine w_i2l (Ev.cm _) rfl ?_
    refine w_iconst (Ev.cm _) rfl ?_
    refine w_sipush (Ev.cm _) rfl ?_
    obtain ⟨⟨r12, I12, L12⟩, e12, q⟩ := obs q
    dsimp only at q
    refine w_cstat (as := [.long (((r11 + 1) : Int32).toInt64), .int 0, .int 9999]) (st := [.int (((12 : Int32) + ((2 : Int32) * p0)) + 1), .ref 332]) (Ev.cm _) rfl rfl rfl (Nat.le_of_ble_eq_true rfl) (Nat.le_of_ble_eq_true rfl) (eo_M_cut (g := ?_) e12)
    show Wp _ _ _ _ _ _ _ 73 [(0, .ref 331), (1, .int p0), (2, .int p1), (3, .int p2), (4, .int (r8 + p2)), (5, .int r9)] [.int r12, .int (((12 : Int32) + ((2 : Int32) * p0)) + 1), .ref 332] (HS I12 L12 X)
    obtain ⟨b13, q⟩ := ois q
    refine w_iast (Ev.cm _) rfl (Nat.le_of_ble_eq_true rfl) rfl (show vp_in (((12 : Int32) + ((2 : Int32) * p0)) + 1) 1541 from vpI 1541 (by decide) b13.1 b13.2) ?_
    refine w_iload (Ev.cm _) rfl rfl ?_
    refine w_if_le (Ev.cm _) rfl (fun c3 => ?_) (fun c3 => ?_)
    · have c3 : r9 ≤ 0 := c3
      rw [if_pos c3] at q
      refine w_iload (Ev.cm _) rfl rfl ?_
      refine w_ireturn (Ev.cm _) rfl trivial rf0 ?_
      cases q
      exact g
    · have c3 : ¬ (r9 ≤ 0) := c3
      rw [if_neg c3] at q
      refine w_aload_n (Ev.cm _) rfl rfl ?_
      refine w_iload (Ev.cm _) rfl rfl ?_
      refine w_iload (Ev.cm _) rfl rfl ?_
      obtain ⟨⟨r14, I14, L14⟩, e14, q⟩ := obs q
      dsimp only at q
      refine w_cvirt (o := 331) (as := [.int (r8 + p2), .int r9]) (st := []) (Ev.cm _) rfl rfl rfl (Nat.le_of_ble_eq_true rfl) (Nat.le_of_ble_eq_true rfl) rfl (Nat.le_of_ble_eq_true rfl) (eo_M_write (g := ?_) e14)
      show Wp _ _ _ _ _ _ _ 87 [(0, .ref 331), (1, .int p0), (2, .int p1), (3, .int p2), (4, .int (r8 + p2)), (5, .int r9)] [] (HS I14 L14 X)
      refine w_iload (Ev.cm _) rfl rfl ?_
      refine w_ireturn (Ev.cm _) rfl trivial rf0 ?_
      cases q
      exact g
def FO_M_treadBy (fu : Nat) (p0 : Int32) (p1 : Int32) (I : Nat → Nat → Int32) (L : Nat → Nat → Int64) : Option (Unit × (Nat → Nat → Int32) × (Nat → Nat → Int64)) := if 3 ≤ p1 then (some ((), I, L)) else (if 2 ≤ p1 then (if p1 = 1 then ((FO_M_canTread fu p0 0 2 I L).bind (fun u6 => let r6 := u6.1; let I6 := u6.2.1; let L6 := u6.2.2; if r6 = 0 then (some ((), I6, L6)) else (if 2 ≤ p1 then (if p1 = 1 then ((FO_M_treadNow fu p0 0 2 I6 L6).bind (fun u8 => let r8 := u8.1; let I8 := u8.2.1; let L8 := u8.2.2; if 0 ≤ r8 then (some ((), I8, L8)) else (some ((), sI I8 332 9 0, L8)))) else ((FO_M_treadNow fu p0 0 1 I6 L6).bind (fun u7 => let r7 := u7.1; let I7 := u7.2.1; let L7 := u7.2.2; if 0 ≤ r7 then (some ((), I7, L7)) else (some ((), sI I7 332 9 0, L7))))) else (if p1 = 1 then ((FO_M_treadNow fu p0 1 2 I6 L6).bind (fun u10 => let r10 := u10.1; let I10 := u10.2.1; let L10 := u10.2.2; if 0 ≤ r10 then (some ((), I10, L10)) else (some ((), sI I10 332 9 0, L10)))) else ((FO_M_treadNow fu p0 1 1 I6 L6).bind (fun u9 => let r9 := u9.1; let I9 := u9.2.1; let L9 := u9.2.2; if 0 ≤ r9 then (some ((), I9, L9)) else (some ((), sI I9 332 9 0, L9)))))))) else ((FO_M_canTread fu p0 0 1 I L).bind (fun u1 => let r1 := u1.1; let I1 := u1.2.1; let L1 := u1.2.2; if r1 = 0 then (some ((), I1, L1)) else (if 2 ≤ p1 then (if p1 = 1 then ((FO_M_treadNow fu p0 0 2 I1 L1).bind (fun u3 => let r3 := u3.1; let I3 := u3.2.1; let L3 := u3.2.2; if 0 ≤ r3 then (some ((), I3, L3)) else (some ((), sI I3 332 9 0, L3)))) else ((FO_M_treadNow fu p0 0 1 I1 L1).bind (fun u2 => let r2 := u2.1; let I2 := u2.2.1; let L2 := u2.2.2; if 0 ≤ r2 then (some ((), I2, L2)) else (some ((), sI I2 332 9 0, L2))))) else (if p1 = 1 then ((FO_M_treadNow fu p0 1 2 I1 L1).bind (fun u5 => let r5 := u5.1; let I5 := u5.2.1; let L5 := u5.2.2; if 0 ≤ r5 then (some ((), I5, L5)) else (some ((), sI I5 332 9 0, L5)))) else ((FO_M_treadNow fu p0 1 1 I1 L1).bind (fun u4 => let r4 := u4.1; let I4 := u4.2.1; let L4 := u4.2.2; if 0 ≤ r4 then (some ((), I4, L4)) else (some ((), sI I4 332 9 0, L4))))))))) else (if p1 = 1 then ((FO_M_canTread fu p0 1 2 I L).bind (fun u16 => let r16 := u16.1; let I16 := u16.2.1; let L16 := u16.2.2; if r16 = 0 then (some ((), I16, L16)) else (if 2 ≤ p1 then (if p1 = 1 then ((FO_M_treadNow fu p0 0 2 I16 L16).bind (fun u18 => let r18 := u18.1; let I18 := u18.2.1; let L18 := u18.2.2; if 0 ≤ r18 then (some ((), I18, L18)) else (some ((), sI I18 332 9 0, L18)))) else ((FO_M_treadNow fu p0 0 1 I16 L16).bind (fun u17 => let r17 := u17.1; let I17 := u17.2.1; let L17 := u17.2.2; if 0 ≤ r17 then (some ((), I17, L17)) else (some ((), sI I17 332 9 0, L17))))) else (if p1 = 1 then ((FO_M_treadNow fu p0 1 2 I16 L16).bind (fun u20 => let r20 := u20.1; let I20 := u20.2.1; let L20 := u20.2.2; if 0 ≤ r20 then (some ((), I20, L20)) else (some ((), sI I20 332 9 0, L20)))) else ((FO_M_treadNow fu p0 1 1 I16 L16).bind (fun u19 => let r19 := u19.1; let I19 := u19.2.1; let L19 := u19.2.2; if 0 ≤ r19 then (some ((), I19, L19)) else (some ((), sI I19 332 9 0, L19)))))))) else ((FO_M_canTread fu p0 1 1 I L).bind (fun u11 => let r11 := u11.1; let I11 := u11.2.1; let L11 := u11.2.2; if r11 = 0 then (some ((), I11, L11)) else (if 2 ≤ p1 then (if p1 = 1 then ((FO_M_treadNow fu p0 0 2 I11 L11).bind (fun u13 => let r13 := u13.1; let I13 := u13.2.1; let L13 := u13.2.2; if 0 ≤ r13 then (some ((), I13, L13)) else (some ((), sI I13 332 9 0, L13)))) else ((FO_M_treadNow fu p0 0 1 I11 L11).bind (fun u12 => let r12 := u12.1; let I12 := u12.2.1; let L12 := u12.2.2; if 0 ≤ r12 then (some ((), I12, L12)) else (some ((), sI I12 332 9 0, L12))))) else (if p1 = 1 then ((FO_M_treadNow fu p0 1 2 I11 L11).bind (fun u15 => let r15 := u15.1; let I15 := u15.2.1; let L15 := u15.2.2; if 0 ≤ r15 then (some ((), I15, L15)) else (some ((), sI I15 332 9 0, L15)))) else ((FO_M_treadNow fu p0 1 1 I11 L11).bind (fun u14 => let r14 := u14.1; let I14 := u14.2.1; let L14 := u14.2.2; if 0 ≤ r14 then (some ((), I14, L14)) else (some ((), sI I14 332 9 0, L14))))))))))
set_option maxHeartbeats 20000000 in
set_option maxRecDepth 20000 in
theorem eo_M_treadBy {d fu : Nat} {p0 : Int32} {p1 : Int32} {I : Nat → Nat → Int32} {L : Nat → Nat → Int64} {X : Nat × (Nat → Int32)} {Q : PQ} {res : Unit × (Nat → Nat → Int32) × (Nat → Nat → Int64)}  (g : Q none (HS res.2.1 res.2.2 X)) (q : FO_M_treadBy fu p0 p1 I L = some res) : Ev (d + 10) m_M_treadBy [.ref 331, .int p0, .int p1] (HS I L X) Q := by
  unfold FO_M_treadBy at q
  refine ev_start (d := d + 9) rfl rfl rfl (Nat.le_of_ble_eq_true rfl) ?_
  show Wp (Ev (d + 9)) cd_M_treadBy (0, 0) none _ _ Q 0 [(0, .ref 331), (1, .int p0), (2, .int p1)] [] (HS I L X)
  refine w_iload_n (Ev.cm _) rfl rfl ?_
  refine w_iconst (Ev.cm _) rfl ?_
  refine w_icmp_ge (Ev.cm _) rfl (fun c1 => ?_) (fun c1 => ?_)
  · have c1 : 3 ≤ p1 := c1
    rw [if_pos c1] at q
    refine w_return (Ev.cm _) rfl rfl rf0 ?_
    cases q
    exact g
  · have c1 : ¬ (3 ≤ p1) := c1
    rw [if_neg c1] at q
    refine w_aload_n (Ev.cm _) rfl rfl ?_
    refine w_iload_n (Ev.cm _) rfl rfl ?_
    refine w_iload_n (Ev.cm _) rfl rfl ?_
    refine w_iconst (Ev.cm _) rfl ?_
    refine w_icmp_ge (Ev.cm _) rfl (fun c2 => ?_) (fun c2 => ?_)
    · have c2 : 2 ≤ p1 := c2
      rw [if_pos c2] at q
      refine w_iconst (Ev.cm _) rfl ?_
      refine w_iload_n (Ev.cm _) rfl rfl ?_
      refine w_iconst (Ev.cm _) rfl ?_
      refine w_icmp_ne (Ev.cm _) rfl (fun c3 => ?_) (fun c3 => ?_)
      · have c3 : ¬ (p1 = 1) := c3
        rw [if_neg c3] at q
        refine w_iconst (Ev.cm _) rfl ?_
        obtain ⟨⟨r1, I1, L1⟩, e1, q⟩ := obs q
        dsimp only at q
        refine w_cvirt (o := 331) (as := [.int p0, .int 0, .int 1]) (st := []) (Ev.cm _) rfl rfl rfl (Nat.le_of_ble_eq_true rfl) (Nat.le_of_ble_eq_true rfl) rfl (Nat.le_of_ble_eq_true rfl) (eo_M_canTread (g := ?_) e1)
        show Wp _ _ _ _ _ _ _ 30 [(0, .ref 331), (1, .int p0), (2, .int p1)] [.int r1] (HS I1 L1 X)
        refine w_if_eq (Ev.cm _) rfl (fun c4 => ?_) (fun c4 => ?_)
        · have c4 : r1 = 0 := c4
          rw [if_pos c4] at q
          refine w_return (Ev.cm _) rfl rfl rf0 ?_
          cases q
          exact g
        · have c4 : ¬ (r1 = 0) := c4
          rw [if_neg c4] at q
          refine w_aload_n (Ev.cm _) rfl rfl ?_
          refine w_iload_n (Ev.cm _) rfl rfl ?_
          refine w_iload_n (Ev.cm _) rfl rfl ?_
          refine w_iconst (Ev.cm _) rfl ?_
          refine w_icmp_ge (Ev.cm _) rfl (fun c5 => ?_) (fun c5 => ?_)
          · have c5 : 2 ≤ p1 := c5
            rw [if_pos c5] at q
            refine w_iconst (Ev.cm _) rfl ?_
            refine w_iload_n (Ev.cm _) rfl rfl ?_
            refine w_iconst (Ev.cm _) rfl ?_
            refine w_icmp_ne (Ev.cm _) rfl (fun c6 => ?_) (fun c6 => ?_)
            · have c6 : ¬ (p1 = 1) := c6
              rw [if_neg c6] at q
              refine w_iconst (Ev.cm _) rfl ?_
              obtain ⟨⟨r2, I2, L2⟩, e2, q⟩ := obs q
              dsimp only at q
              refine w_cvirt (o := 331) (as := [.int p0, .int 0, .int 1]) (st := []) (Ev.cm _) rfl rfl rfl (Nat.le_of_ble_eq_true rfl) (Nat.le_of_ble_eq_true rfl) rfl (Nat.le_of_ble_eq_true rfl) (eo_M_treadNow (g := ?_) e2)
              show Wp _ _ _ _ _ _ _ 58 [(0, .ref 331), (1, .int p0), (2, .int p1)] [.int r2] (HS I2 L2 X)
              refine w_if_ge (Ev.cm _) rfl (fun c7 => ?_) (fun c7 => ?_)
              · have c7 : 0 ≤ r2 := c7
                rw [if_pos c7] at q
                refine w_return (Ev.cm _) rfl rfl rf0 ?_
                cases q
                exact g
              · have c7 : ¬ (0 ≤ r2) := c7
                rw [if_neg c7] at q
                refine w_aload_n (Ev.cm _) rfl rfl ?_
                refine w_getR (q := 332) (Ev.cm _) rfl (Nat.le_of_ble_eq_true rfl) rfl rfl ?_
                refine w_bipush (Ev.cm _) rfl ?_
                refine w_iconst (Ev.cm _) rfl ?_
                refine w_iast (Ev.cm _) rfl (Nat.le_of_ble_eq_true rfl) rfl (show vp_in 9 1541 from vpI 1541 (by decide) (by decide) (by decide)) ?_
                refine w_return (Ev.cm _) rfl rfl rf0 ?_
                cases q
                exact g
            · have c6 : p1 = 1 := c6
              rw [if_pos c6] at q
              refine w_iconst (Ev.cm _) rfl ?_
              refine w_goto (Ev.cm _) rfl ?_
              obtain ⟨⟨r3, I3, L3⟩, e3, q⟩ := obs q
              dsimp only at q
              refine w_cvirt (o := 331) (as := [.int p0, .int 0, .int 2]) (st := []) (Ev.cm _) rfl rfl rfl (Nat.le_of_ble_eq_true rfl) (Nat.le_of_ble_eq_true rfl) rfl (Nat.le_of_ble_eq_true rfl) (eo_M_treadNow (g := ?_) e3)
              show Wp _ _ _ _ _ _ _ 58 [(0, .ref 331), (1, .int p0), (2, .int p1)] [.int r3] (HS I3 L3 X)
              refine w_if_ge (Ev.cm _) rfl (fun c8 => ?_) (fun c8 => ?_)
              · have c8 : 0 ≤ r3 := c8
                rw [if_pos c8] at q
                refine w_return (Ev.cm _) rfl rfl rf0 ?_
                cases q
                exact g
              · have c8 : ¬ (0 ≤ r3) := c8
                rw [if_neg c8] at q
                refine w_aload_n (Ev.cm _) rfl rfl ?_
                refine w_getR (q := 332) (Ev.cm _) rfl (Nat.le_of_ble_eq_true rfl) rfl rfl ?_
                refine w_bipush (Ev.cm _) rfl ?_
                refine w_iconst (Ev.cm _) rfl ?_
                refine w_iast (Ev.cm _) rfl (Nat.le_of_ble_eq_true rfl) rfl (show vp_in 9 1541 from vpI 1541 (by decide) (by decide) (by decide)) ?_
                refine w_return (Ev.cm _) rfl rfl rf0 ?_
                cases q
                exact g
          · have c5 : ¬ (2 ≤ p1) := c5
            rw [if_neg c5] at q
            refine w_iconst (Ev.cm _) rfl ?_
            refine w_goto (Ev.cm _) rfl ?_
            refine w_iload_n (Ev.cm _) rfl rfl ?_
            refine w_iconst (Ev.cm _) rfl ?_
            refine w_icmp_ne (Ev.cm _) rfl (fun c9 => ?_) (fun c9 => ?_)
            · have c9 : ¬ (p1 = 1) := c9
              rw [if_neg c9] at q
              refine w_iconst (Ev.cm _) rfl ?_
              obtain ⟨⟨r4, I4, L4⟩, e4, q⟩ := obs q
              dsimp only at q
              refine w_cvirt (o := 331) (as := [.int p0, .int 1, .int 1]) (st := []) (Ev.cm _) rfl rfl rfl (Nat.le_of_ble_eq_true rfl) (Nat.le_of_ble_eq_true rfl) rfl (Nat.le_of_ble_eq_true rfl) (eo_M_treadNow (g := ?_) e4)
              show Wp _ _ _ _ _ _ _ 58 [(0, .ref 331), (1, .int p0), (2, .int p1)] [.int r4] (HS I4 L4 X)
              refine w_if_ge (Ev.cm _) rfl (fun c10 => ?_) (fun c10 => ?_)
              · have c10 : 0 ≤ r4 := c10
                rw [if_pos c10] at q
                refine w_return (Ev.cm _) rfl rfl rf0 ?_
                cases q
                exact g
              · have c10 : ¬ (0 ≤ r4) := c10
                rw [if_neg c10] at q
                refine w_aload_n (Ev.cm _) rfl rfl ?_
                refine w_getR (q := 332) (Ev.cm _) rfl (Nat.le_of_ble_eq_true rfl) rfl rfl ?_
                refine w_bipush (Ev.cm _) rfl ?_
                refine w_iconst (Ev.cm _) rfl ?_
                refine w_iast (Ev.cm _) rfl (Nat.le_of_ble_eq_true rfl) rfl (show vp_in 9 1541 from vpI 1541 (by decide) (by decide) (by decide)) ?_
                refine w_return (Ev.cm _) rfl rfl rf0 ?_
                cases q
                exact g
            · have c9 : p1 = 1 := c9
              rw [if_pos c9] at q
              refine w_iconst (Ev.cm _) rfl ?_
              refine w_goto (Ev.cm _) rfl ?_
              obtain ⟨⟨r5, I5, L5⟩, e5, q⟩ := obs q
              dsimp only at q
              refine w_cvirt (o := 331) (as := [.int p0, .int 1, .int 2]) (st := []) (Ev.cm _) rfl rfl rfl (Nat.le_of_ble_eq_true rfl) (Nat.le_of_ble_eq_true rfl) rfl (Nat.le_of_ble_eq_true rfl) (eo_M_treadNow (g := ?_) e5)
              show Wp _ _ _ _ _ _ _ 58 [(0, .ref 331), (1, .int p0), (2, .int p1)] [.int r5] (HS I5 L5 X)
              refine w_if_ge (Ev.cm _) rfl (fun c11 => ?_) (fun c11 => ?_)
              · have c11 : 0 ≤ r5 := c11
                rw [if_pos c11] at q
                refine w_return (Ev.cm _) rfl rfl rf0 ?_
                cases q
                exact g
              · have c11 : ¬ (0 ≤ r5) := c11
                rw [if_neg c11] at q
                refine w_aload_n (Ev.cm _) rfl rfl ?_
                refine w_getR (q := 332) (Ev.cm _) rfl (Nat.le_of_ble_eq_true rfl) rfl rfl ?_
                refine w_bipush (Ev.cm _) rfl ?_
                refine w_iconst (Ev.cm _) rfl ?_
                refine w_iast (Ev.cm _) rfl (Nat.le_of_ble_eq_true rfl) rfl (show vp_in 9 1541 from vpI 1541 (by decide) (by decide) (by decide)) ?_
                refine w_return (Ev.cm _) rfl rfl rf0 ?_
                cases q
                exact g
      · have c3 : p1 = 1 := c3
        rw [if_pos c3] at q
        refine w_iconst (Ev.cm _) rfl ?_
        refine w_goto (Ev.cm _) rfl ?_
        obtain ⟨⟨r6, I6, L6⟩, e6, q⟩ := obs q
        dsimp only at q
        refine w_cvirt (o := 331) (as := [.int p0, .int 0, .int 2]) (st := []) (Ev.cm _) rfl rfl rfl (Nat.le_of_ble_eq_true rfl) (Nat.le_of_ble_eq_true rfl) rfl (Nat.le_of_ble_eq_true rfl) (eo_M_canTread (g := ?_) e6)
        show Wp _ _ _ _ _ _ _ 30 [(0, .ref 331), (1, .int p0), (2, .int p1)] [.int r6] (HS I6 L6 X)
        refine w_if_eq (Ev.cm _) rfl (fun c12 => ?_) (fun c12 => ?_)
        · have c12 : r6 = 0 := c12
          rw [if_pos c12] at q
          refine w_return (Ev.cm _) rfl rfl rf0 ?_
          cases q
          exact g
        · have c12 : ¬ (r6 = 0) := c12
          rw [if_neg c12] at q
          refine w_aload_n (Ev.cm _) rfl rfl ?_
          refine w_iload_n (Ev.cm _) rfl rfl ?_
          refine w_iload_n (Ev.cm _) rfl rfl ?_
          refine w_iconst (Ev.cm _) rfl ?_
          refine w_icmp_ge (Ev.cm _) rfl (fun c13 => ?_) (fun c13 => ?_)
          · have c13 : 2 ≤ p1 := c13
            rw [if_pos c13] at q
            refine w_iconst (Ev.cm _) rfl ?_
            refine w_iload_n (Ev.cm _) rfl rfl ?_
            refine w_iconst (Ev.cm _) rfl ?_
            refine w_icmp_ne (Ev.cm _) rfl (fun c14 => ?_) (fun c14 => ?_)
            · have c14 : ¬ (p1 = 1) := c14
              rw [if_neg c14] at q
              refine w_iconst (Ev.cm _) rfl ?_
              obtain ⟨⟨r7, I7, L7⟩, e7, q⟩ := obs q
              dsimp only at q
              refine w_cvirt (o := 331) (as := [.int p0, .int 0, .int 1]) (st := []) (Ev.cm _) rfl rfl rfl (Nat.le_of_ble_eq_true rfl) (Nat.le_of_ble_eq_true rfl) rfl (Nat.le_of_ble_eq_true rfl) (eo_M_treadNow (g := ?_) e7)
              show Wp _ _ _ _ _ _ _ 58 [(0, .ref 331), (1, .int p0), (2, .int p1)] [.int r7] (HS I7 L7 X)
              refine w_if_ge (Ev.cm _) rfl (fun c15 => ?_) (fun c15 => ?_)
              · have c15 : 0 ≤ r7 := c15
                rw [if_pos c15] at q
                refine w_return (Ev.cm _) rfl rfl rf0 ?_
                cases q
                exact g
              · have c15 : ¬ (0 ≤ r7) := c15
                rw [if_neg c15] at q
                refine w_aload_n (Ev.cm _) rfl rfl ?_
                refine w_getR (q := 332) (Ev.cm _) rfl (Nat.le_of_ble_eq_true rfl) rfl rfl ?_
                refine w_bipush (Ev.cm _) rfl ?_
                refine w_iconst (Ev.cm _) rfl ?_
                refine w_iast (Ev.cm _) rfl (Nat.le_of_ble_eq_true rfl) rfl (show vp_in 9 1541 from vpI 1541 (by decide) (by decide) (by decide)) ?_
                refine w_return (Ev.cm _) rfl rfl rf0 ?_
                cases q
                exact g
            · have c14 : p1 = 1 := c14
              rw [if_pos c14] at q
              refine w_iconst (Ev.cm _) rfl ?_
              refine w_goto (Ev.cm _) rfl ?_
              obtain ⟨⟨r8, I8, L8⟩, e8, q⟩ := obs q
              dsimp only at q
              refine w_cvirt (o := 331) (as := [.int p0, .int 0, .int 2]) (st := []) (Ev.cm _) rfl rfl rfl (Nat.le_of_ble_eq_true rfl) (Nat.le_of_ble_eq_true rfl) rfl (Nat.le_of_ble_eq_true rfl) (eo_M_treadNow (g := ?_) e8)
              show Wp _ _ _ _ _ _ _ 58 [(0, .ref 331), (1, .int p0), (2, .int p1)] [.int r8] (HS I8 L8 X)
              refine w_if_ge (Ev.cm _) rfl (fun c16 => ?_) (fun c16 => ?_)
              · have c16 : 0 ≤ r8 := c16
                rw [if_pos c16] at q
                refine w_return (Ev.cm _) rfl rfl rf0 ?_
                cases q
                exact g
              · have c16 : ¬ (0 ≤ r8) := c16
                rw [if_neg c16] at q
                refine w_aload_n (Ev.cm _) rfl rfl ?_
                refine w_getR (q := 332) (Ev.cm _) rfl (Nat.le_of_ble_eq_true rfl) rfl rfl ?_
                refine w_bipush (Ev.cm _) rfl ?_
                refine w_iconst (Ev.cm _) rfl ?_
                refine w_iast (Ev.cm _) rfl (Nat.le_of_ble_eq_true rfl) rfl (show vp_in 9 1541 from vpI 1541 (by decide) (by decide) (by decide)) ?_
                refine w_return (Ev.cm _) rfl rfl rf0 ?_
                cases q
                exact g
          · have c13 : ¬ (2 ≤ p1) := c13
            rw [if_neg c13] at q
            refine w_iconst (Ev.cm _) rfl ?_
            refine w_goto (Ev.cm _) rfl ?_
            refine w_iload_n (Ev.cm _) rfl rfl ?_
            refine w_iconst (Ev.cm _) rfl ?_
            refine w_icmp_ne (Ev.cm _) rfl (fun c17 => ?_) (fun c17 => ?_)
            · have c17 : ¬ (p1 = 1) := c17
              rw [if_neg c17] at q
              refine w_iconst (Ev.cm _) rfl ?_
              obtain ⟨⟨r9, I9, L9⟩, e9, q⟩ := obs q
              dsimp only at q
              refine w_cvirt (o := 331) (as := [.int p0, .int 1, .int 1]) (st := []) (Ev.cm _) rfl rfl rfl (Nat.le_of_ble_eq_true rfl) (Nat.le_of_ble_eq_true rfl) rfl (Nat.le_of_ble_eq_true rfl) (eo_M_treadNow (g := ?_) e9)
              show Wp _ _ _ _ _ _ _ 58 [(0, .ref 331), (1, .int p0), (2, .int p1)] [.int r9] (HS I9 L9 X)
              refine w_if_ge (Ev.cm _) rfl (fun c18 => ?_) (fun c18 => ?_)
              · have c18 : 0 ≤ r9 := c18
                rw [if_pos c18] at q
                refine w_return (Ev.cm _) rfl rfl rf0 ?_
                cases q
                exact g
              · have c18 : ¬ (0 ≤ r9) := c18
                rw [if_neg c18] at q
                refine w_aload_n (Ev.cm _) rfl rfl ?_
                refine w_getR (q := 332) (Ev.cm _) rfl (Nat.le_of_ble_eq_true rfl) rfl rfl ?_
                refine w_bipush (Ev.cm _) rfl ?_
                refine w_iconst (Ev.cm _) rfl ?_
                refine w_iast (Ev.cm _) rfl (Nat.le_of_ble_eq_true rfl) rfl (show vp_in 9 1541 from vpI 1541 (by decide) (by decide) (by decide)) ?_
                refine w_return (Ev.cm _) rfl rfl rf0 ?_
                cases q
                exact g
            · have c17 : p1 = 1 := c17
              rw [if_pos c17] at q
              refine w_iconst (Ev.cm _) rfl ?_
              refine w_goto (Ev.cm _) rfl ?_
              obtain ⟨⟨r10, I10, L10⟩, e10, q⟩ := obs q
              dsimp only at q
              refine w_cvirt (o := 331) (as := [.int p0, .int 1, .int 2]) (st := []) (Ev.cm _) rfl rfl rfl (Nat.le_of_ble_eq_true rfl) (Nat.le_of_ble_eq_true rfl) rfl (Nat.le_of_ble_eq_true rfl) (eo_M_treadNow (g := ?_) e10)
              show Wp _ _ _ _ _ _ _ 58 [(0, .ref 331), (1, .int p0), (2, .int p1)] [.int r10] (HS I10 L10 X)
              refine w_if_ge (Ev.cm _) rfl (fun c19 => ?_) (fun c19 => ?_)
              · have c19 : 0 ≤ r10 := c19
                rw [if_pos c19] at q
                refine w_return (Ev.cm _) rfl rfl rf0 ?_
                cases q
                exact g
              · have c19 : ¬ (0 ≤ r10) := c19
                rw [if_neg c19] at q
                refine w_aload_n (Ev.cm _) rfl rfl ?_
                refine w_getR (q := 332) (Ev.cm _) rfl (Nat.le_of_ble_eq_true rfl) rfl rfl ?_
                refine w_bipush (Ev.cm _) rfl ?_
                refine w_iconst (Ev.cm _) rfl ?_
                refine w_iast (Ev.cm _) rfl (Nat.le_of_ble_eq_true rfl) rfl (show vp_in 9 1541 from vpI 1541 (by decide) (by decide) (by decide)) ?_
                refine w_return (Ev.cm _) rfl rfl rf0 ?_
                cases q
                exact g
    · have c2 : ¬ (2 ≤ p1) := c2
      rw [if_neg c2] at q
      refine w_iconst (Ev.cm _) rfl ?_
      refine w_goto (Ev.cm _) rfl ?_
      refine w_iload_n (Ev.cm _) rfl rfl ?_
      refine w_iconst (Ev.cm _) rfl ?_
      refine w_icmp_ne (Ev.cm _) rfl (fun c20 => ?_) (fun c20 => ?_)
      · have c20 : ¬ (p1 = 1) := c20
        rw [if_neg c20] at q
        refine w_iconst (Ev.cm _) rfl ?_
        obtain ⟨⟨r11, I11, L11⟩, e11, q⟩ := obs q
        dsimp only at q
        refine w_cvirt (o := 331) (as := [.int p0, .int 1, .int 1]) (st := []) (Ev.cm _) rfl rfl rfl (Nat.le_of_ble_eq_true rfl) (Nat.le_of_ble_eq_true rfl) rfl (Nat.le_of_ble_eq_true rfl) (eo_M_canTread (g := ?_) e11)
        show Wp _ _ _ _ _ _ _ 30 [(0, .ref 331), (1, .int p0), (2, .int p1)] [.int r11] (HS I11 L11 X)
        refine w_if_eq (Ev.cm _) rfl (fun c21 => ?_) (fun c21 => ?_)
        · have c21 : r11 = 0 := c21
          rw [if_pos c21] at q
          refine w_return (Ev.cm _) rfl rfl rf0 ?_
          cases q
          exact g
        · have c21 : ¬ (r11 = 0) := c21
          rw [if_neg c21] at q
          refine w_aload_n (Ev.cm _) rfl rfl ?_
          refine w_iload_n (Ev.cm _) rfl rfl ?_
          refine w_iload_n (Ev.cm _) rfl rfl ?_
          refine w_iconst (Ev.cm _) rfl ?_
          refine w_icmp_ge (Ev.cm _) rfl (fun c22 => ?_) (fun c22 => ?_)
          · have c22 : 2 ≤ p1 := c22
            rw [if_pos c22] at q
            refine w_iconst (Ev.cm _) rfl ?_
            refine w_iload_n (Ev.cm _) rfl rfl ?_
            refine w_iconst (Ev.cm _) rfl ?_
            refine w_icmp_ne (Ev.cm _) rfl (fun c23 => ?_) (fun c23 => ?_)
            · have c23 : ¬ (p1 = 1) := c23
              rw [if_neg c23] at q
              refine w_iconst (Ev.cm _) rfl ?_
              obtain ⟨⟨r12, I12, L12⟩, e12, q⟩ := obs q
              dsimp only at q
              refine w_cvirt (o := 331) (as := [.int p0, .int 0, .int 1]) (st := []) (Ev.cm _) rfl rfl rfl (Nat.le_of_ble_eq_true rfl) (Nat.le_of_ble_eq_true rfl) rfl (Nat.le_of_ble_eq_true rfl) (eo_M_treadNow (g := ?_) e12)
              show Wp _ _ _ _ _ _ _ 58 [(0, .ref 331), (1, .int p0), (2, .int p1)] [.int r12] (HS I12 L12 X)
              refine w_if_ge (Ev.cm _) rfl (fun c24 => ?_) (fun c24 => ?_)
              · have c24 : 0 ≤ r12 := c24
                rw [if_pos c24] at q
                refine w_return (Ev.cm _) rfl rfl rf0 ?_
                cases q
                exact g
              · have c24 : ¬ (0 ≤ r12) := c24
                rw [if_neg c24] at q
                refine w_aload_n (Ev.cm _) rfl rfl ?_
                refine w_getR (q := 332) (Ev.cm _) rfl (Nat.le_of_ble_eq_true rfl) rfl rfl ?_
                refine w_bipush (Ev.cm _) rfl ?_
                refine w_iconst (Ev.cm _) rfl ?_
                refine w_iast (Ev.cm _) rfl (Nat.le_of_ble_eq_true rfl) rfl (show vp_in 9 1541 from vpI 1541 (by decide) (by decide) (by decide)) ?_
                refine w_return (Ev.cm _) rfl rfl rf0 ?_
                cases q
                exact g
            · have c23 : p1 = 1 := c23
              rw [if_pos c23] at q
              refine w_iconst (Ev.cm _) rfl ?_
              refine w_goto (Ev.cm _) rfl ?_
              obtain ⟨⟨r13, I13, L13⟩, e13, q⟩ := obs q
              dsimp only at q
              refine w_cvirt (o := 331) (as := [.int p0, .int 0, .int 2]) (st := []) (Ev.cm _) rfl rfl rfl (Nat.le_of_ble_eq_true rfl) (Nat.le_of_ble_eq_true rfl) rfl (Nat.le_of_ble_eq_true rfl) (eo_M_treadNow (g := ?_) e13)
              show Wp _ _ _ _ _ _ _ 58 [(0, .ref 331), (1, .int p0), (2, .int p1)] [.int r13] (HS I13 L13 X)
              refine w_if_ge (Ev.cm _) rfl (fun c25 => ?_) (fun c25 => ?_)
              · have c25 : 0 ≤ r13 := c25
                rw [if_pos c25] at q
                refine w_return (Ev.cm _) rfl rfl rf0 ?_
                cases q
                exact g
              · have c25 : ¬ (0 ≤ r13) := c25
                rw [if_neg c25] at q
                refine w_aload_n (Ev.cm _) rfl rfl ?_
                refine w_getR (q := 332) (Ev.cm _) rfl (Nat.le_of_ble_eq_true rfl) rfl rfl ?_
                refine w_bipush (Ev.cm _) rfl ?_
                refine w_iconst (Ev.cm _) rfl ?_
                refine w_iast (Ev.cm _) rfl (Nat.le_of_ble_eq_true rfl) rfl (show vp_in 9 1541 from vpI 1541 (by decide) (by decide) (by decide)) ?_
                refine w_return (Ev.cm _) rfl rfl rf0 ?_
                cases q
                exact g
          · have c22 : ¬ (2 ≤ p1) := c22
            rw [if_neg c22] at q
            refine w_iconst (Ev.cm _) rfl ?_
            refine w_goto (Ev.cm _) rfl ?_
            refine w_iload_n (Ev.cm _) rfl rfl ?_
            refine w_iconst (Ev.cm _) rfl ?_
            refine w_icmp_ne (Ev.cm _) rfl (fun c26 => ?_) (fun c26 => ?_)
            · have c26 : ¬ (p1 = 1) := c26
              rw [if_neg c26] at q
              refine w_iconst (Ev.cm _) rfl ?_
              obtain ⟨⟨r14, I14, L14⟩, e14, q⟩ := obs q
              dsimp only at q
              refine w_cvirt (o := 331) (as := [.int p0, .int 1, .int 1]) (st := []) (Ev.cm _) rfl rfl rfl (Nat.le_of_ble_eq_true rfl) (Nat.le_of_ble_eq_true rfl) rfl (Nat.le_of_ble_eq_true rfl) (eo_M_treadNow (g := ?_) e14)
              show Wp _ _ _ _ _ _ _ 58 [(0, .ref 331), (1, .int p0), (2, .int p1)] [.int r14] (HS I14 L14 X)
              refine w_if_ge (Ev.cm _) rfl (fun c27 => ?_) (fun c27 => ?_)
              · have c27 : 0 ≤ r14 := c27
                rw [if_pos c27] at q
                refine w_return (Ev.cm _) rfl rfl rf0 ?_
                cases q
                exact g
              · have c27 : ¬ (0 ≤ r14) := c27
                rw [if_neg c27] at q
                refine w_aload_n (Ev.cm _) rfl rfl ?_
                refine w_getR (q := 332) (Ev.cm _) rfl (Nat.le_of_ble_eq_true rfl) rfl rfl ?_
                refine w_bipush (Ev.cm _) rfl ?_
                refine w_iconst (Ev.cm _) rfl ?_
                refine w_iast (Ev.cm _) rfl (Nat.le_of_ble_eq_true rfl) rfl (show vp_in 9 1541 from vpI 1541 (by decide) (by decide) (by decide)) ?_
                refine w_return (Ev.cm _) rfl rfl rf0 ?_
                cases q
                exact g
            · have c26 : p1 = 1 := c26
              rw [if_pos c26] at q
              refine w_iconst (Ev.cm _) rfl ?_
              refine w_goto (Ev.cm _) rfl ?_
              obtain ⟨⟨r15, I15, L15⟩, e15, q⟩ := obs q
              dsimp only at q
              refine w_cvirt (o := 331) (as := [.int p0, .int 1, .int 2]) (st := []) (Ev.cm _) rfl rfl rfl (Nat.le_of_ble_eq_true rfl) (Nat.le_of_ble_eq_true rfl) rfl (Nat.le_of_ble_eq_true rfl) (eo_M_treadNow (g := ?_) e15)
              show Wp _ _ _ _ _ _ _ 58 [(0, .ref 331), (1, .int p0), (2, .int p1)] [.int r15] (HS I15 L15 X)
              refine w_if_ge (Ev.cm _) rfl (fun c28 => ?_) (fun c28 => ?_)
              · have c28 : 0 ≤ r15 := c28
                rw [if_pos c28] at q
                refine w_return (Ev.cm _) rfl rfl rf0 ?_
                cases q
                exact g
              · have c28 : ¬ (0 ≤ r15) := c28
                rw [if_neg c28] at q
                refine w_aload_n (Ev.cm _) rfl rfl ?_
                refine w_getR (q := 332) (Ev.cm _) rfl (Nat.le_of_ble_eq_true rfl) rfl rfl ?_
                refine w_bipush (Ev.cm _) rfl ?_
                refine w_iconst (Ev.cm _) rfl ?_
                refine w_iast (Ev.cm _) rfl (Nat.le_of_ble_eq_true rfl) rfl (show vp_in 9 1541 from vpI 1541 (by decide) (by decide) (by decide)) ?_
                refine w_return (Ev.cm _) rfl rfl rf0 ?_
                cases q
                exact g
      · have c20 : p1 = 1 := c20
        rw [if_pos c20] at q
        refine w_iconst (Ev.cm _) rfl ?_
        refine w_goto (Ev.cm _) rfl ?_
        obtain ⟨⟨r16, I16, L16⟩, e16, q⟩ := obs q
        dsimp only at q
        refine w_cvirt (o := 331) (as := [.int p0, .int 1, .int 2]) (st := []) (Ev.cm _) rfl rfl rfl (Nat.le_of_ble_eq_true rfl) (Nat.le_of_ble_eq_true rfl) rfl (Nat.le_of_ble_eq_true rfl) (eo_M_canTread (g := ?_) e16)
        show Wp _ _ _ _ _ _ _ 30 [(0, .ref 331), (1, .int p0), (2, .int p1)] [.int r16] (HS I16 L16 X)
        refine w_if_eq (Ev.cm _) rfl (fun c29 => ?_) (fun c29 => ?_)
        · have c29 : r16 = 0 := c29
          rw [if_pos c29] at q
          refine w_return (Ev.cm _) rfl rfl rf0 ?_
          cases q
          exact g
        · have c29 : ¬ (r16 = 0) := c29
          rw [if_neg c29] at q
          refine w_aload_n (Ev.cm _) rfl rfl ?_
          refine w_iload_n (Ev.cm _) rfl rfl ?_
          refine w_iload_n (Ev.cm _) rfl rfl ?_
          refine w_iconst (Ev.cm _) rfl ?_
          refine w_icmp_ge (Ev.cm _) rfl (fun c30 => ?_) (fun c30 => ?_)
          · have c30 : 2 ≤ p1 := c30
            rw [if_pos c30] at q
            refine w_iconst (Ev.cm _) rfl ?_
            refine w_iload_n (Ev.cm _) rfl rfl ?_
            refine w_iconst (Ev.cm _) rfl ?_
            refine w_icmp_ne (Ev.cm _) rfl (fun c31 => ?_) (fun c31 => ?_)
            · have c31 : ¬ (p1 = 1) := c31
              rw [if_neg c31] at q
              refine w_iconst (Ev.cm _) rfl ?_
              obtain ⟨⟨r17, I17, L17⟩, e17, q⟩ := obs q
              dsimp only at q
              refine w_cvirt (o := 331) (as := [.int p0, .int 0, .int 1]) (st := []) (Ev.cm _) rfl rfl rfl (Nat.le_of_ble_eq_true rfl) (Nat.le_of_ble_eq_true rfl) rfl (Nat.le_of_ble_eq_true rfl) (eo_M_treadNow (g := ?_) e17)
              show Wp _ _ _ _ _ _ _ 58 [(0, .ref 331), (1, .int p0), (2, .int p1)] [.int r17] (HS I17 L17 X)
              refine w_if_ge (Ev.cm _) rfl (fun c32 => ?_) (fun c32 => ?_)
              · have c32 : 0 ≤ r17 := c32
                rw [if_pos c32] at q
                refine w_return (Ev.cm _) rfl rfl rf0 ?_
                cases q
                exact g
              · have c32 : ¬ (0 ≤ r17) := c32
                rw [if_neg c32] at q
                refine w_aload_n (Ev.cm _) rfl rfl ?_
                refine w_getR (q := 332) (Ev.cm _) rfl (Nat.le_of_ble_eq_true rfl) rfl rfl ?_
                refine w_bipush (Ev.cm _) rfl ?_
                refine w_iconst (Ev.cm _) rfl ?_
                refine w_iast (Ev.cm _) rfl (Nat.le_of_ble_eq_true rfl) rfl (show vp_in 9 1541 from vpI 1541 (by decide) (by decide) (by decide)) ?_
                refine w_return (Ev.cm _) rfl rfl rf0 ?_
                cases q
                exact g
            · have c31 : p1 = 1 := c31
              rw [if_pos c31] at q
              refine w_iconst (Ev.cm _) rfl ?_
              refine w_goto (Ev.cm _) rfl ?_
              obtain ⟨⟨r18, I18, L18⟩, e18, q⟩ := obs q
              dsimp only at q
              refine w_cvirt (o := 331) (as := [.int p0, .int 0, .int 2]) (st := []) (Ev.cm _) rfl rfl rfl (Nat.le_of_ble_eq_true rfl) (Nat.le_of_ble_eq_true rfl) rfl (Nat.le_of_ble_eq_true rfl) (eo_M_treadNow (g := ?_) e18)
              show Wp _ _ _ _ _ _ _ 58 [(0, .ref 331), (1, .int p0), (2, .int p1)] [.int r18] (HS I18 L18 X)
              refine w_if_ge (Ev.cm _) rfl (fun c33 => ?_) (fun c33 => ?_)
              · have c33 : 0 ≤ r18 := c33
                rw [if_pos c33] at q
                refine w_return (Ev.cm _) rfl rfl rf0 ?_
                cases q
                exact g
              · have c33 : ¬ (0 ≤ r18) := c33
                rw [if_neg c33] at q
                refine w_aload_n (Ev.cm _) rfl rfl ?_
                refine w_getR (q := 332) (Ev.cm _) rfl (Nat.le_of_ble_eq_true rfl) rfl rfl ?_
                refine w_bipush (Ev.cm _) rfl ?_
                refine w_iconst (Ev.cm _) rfl ?_
                refine w_iast (Ev.cm _) rfl (Nat.le_of_ble_eq_true rfl) rfl (show vp_in 9 1541 from vpI 1541 (by decide) (by decide) (by decide)) ?_
                refine w_return (Ev.cm _) rfl rfl rf0 ?_
                cases q
                exact g
          · have c30 : ¬ (2 ≤ p1) := c30
            rw [if_neg c30] at q
            refine w_iconst (Ev.cm _) rfl ?_
            refine w_goto (Ev.cm _) rfl ?_
            refine w_iload_n (Ev.cm _) rfl rfl ?_
            refine w_iconst (Ev.cm _) rfl ?_
            refine w_icmp_ne (Ev.cm _) rfl (fun c34 => ?_) (fun c34 => ?_)
            · have c34 : ¬ (p1 = 1) := c34
              rw [if_neg c34] at q
              refine w_iconst (Ev.cm _) rfl ?_
              obtain ⟨⟨r19, I19, L19⟩, e19, q⟩ := obs q
              dsimp only at q
              refine w_cvirt (o := 331) (as := [.int p0, .int 1, .int 1]) (st := []) (Ev.cm _) rfl rfl rfl (Nat.le_of_ble_eq_true rfl) (Nat.le_of_ble_eq_true rfl) rfl (Nat.le_of_ble_eq_true rfl) (eo_M_treadNow (g := ?_) e19)
              show Wp _ _ _ _ _ _ _ 58 [(0, .ref 331), (1, .int p0), (2, .int p1)] [.int r19] (HS I19 L19 X)
              refine w_if_ge (Ev.cm _) rfl (fun c35 => ?_) (fun c35 => ?_)
              · have c35 : 0 ≤ r19 := c35
                rw [if_pos c35] at q
                refine w_return (Ev.cm _) rfl rfl rf0 ?_
                cases q
                exact g
              · have c35 : ¬ (0 ≤ r19) := c35
                rw [if_neg c35] at q
                refine w_aload_n (Ev.cm _) rfl rfl ?_
                refine w_getR (q := 332) (Ev.cm _) rfl (Nat.le_of_ble_eq_true rfl) rfl rfl ?_
                refine w_bipush (Ev.cm _) rfl ?_
                refine w_iconst (Ev.cm _) rfl ?_
                refine w_iast (Ev.cm _) rfl (Nat.le_of_ble_eq_true rfl) rfl (show vp_in 9 1541 from vpI 1541 (by decide) (by decide) (by decide)) ?_
                refine w_return (Ev.cm _) rfl rfl rf0 ?_
                cases q
                exact g
            · have c34 : p1 = 1 := c34
              rw [if_pos c34] at q
              refine w_iconst (Ev.cm _) rfl ?_
              refine w_goto (Ev.cm _) rfl ?_
              obtain ⟨⟨r20, I20, L20⟩, e20, q⟩ := obs q
              dsimp only at q
              refine w_cvirt (o := 331) (as := [.int p0, .int 1, .int 2]) (st := []) (Ev.cm _) rfl rfl rfl (Nat.le_of_ble_eq_true rfl) (Nat.le_of_ble_eq_true rfl) rfl (Nat.le_of_ble_eq_true rfl) (eo_M_treadNow (g := ?_) e20)
              show Wp _ _ _ _ _ _ _ 58 [(0, .ref 331), (1, .int p0), (2, .int p1)] [.int r20] (HS I20 L20 X)
              refine w_if_ge (Ev.cm _) rfl (fun c36 => ?_) (fun c36 => ?_)
              · have c36 : 0 ≤ r20 := c36
                rw [if_pos c36] at q
                refine w_return (Ev.cm _) rfl rfl rf0 ?_
                cases q
                exact g
              · have c36 : ¬ (0 ≤ r20) := c36
                rw [if_neg c36] at q
                refine w_aload_n (Ev.cm _) rfl rfl ?_
                refine w_getR (q := 332) (Ev.cm _) rfl (Nat.le_of_ble_eq_true rfl) rfl rfl ?_
                refine w_bipush (Ev.cm _) rfl ?_
                refine w_iconst (Ev.cm _) rfl ?_
                refine w_iast (Ev.cm _) rfl (Nat.le_of_ble_eq_true rfl) rfl (show vp_in 9 1541 from vpI 1541 (by decide) (by decide) (by decide)) ?_
                refine w_return (Ev.cm _) rfl rfl rf0 ?_
                cases q
                exact g
def LO_M_keep_101 (fu : Nat) : Nat → Int32 → Int32 → (Nat → Nat → Int32) → (Nat → Nat → Int64) → Option (Unit × (Nat → Nat → Int32) × (Nat → Nat → Int64))
  | 0, _, _, _, _ => none
  | n + 1, x1, x2, I, L => if 30 ≤ x2 then (some ((), sI I 332 3 ((I 332 3) + 1), L)) else (if 0 ≤ (1511 : Int32) + x2 ∧ (1511 : Int32) + x2 < 1541 then (if 0 ≤ (x1 + 17) + x2 ∧ (x1 + 17) + x2 < 1541 then (LO_M_keep_101 fu n x1 (x2 + 1) (sI I 332 (((x1 + 17) + x2).toNatClampNeg) (I 332 (((1511 : Int32) + x2).toNatClampNeg))) L) else none) else none)
set_option maxHeartbeats 20000000 in
set_option maxRecDepth 20000 in
theorem lo_M_keep_101 {d fu n0 s0 : Nat} {X : Nat × (Nat → Int32)} {Q : PQ} {res : Unit × (Nat → Nat → Int32) × (Nat → Nat → Int64)}  (g : Q none (HS res.2.1 res.2.2 X)) : ∀ (n : Nat) (x1 : Int32) (x2 : Int32) (I : Nat → Nat → Int32) (L : Nat → Nat → Int64), LO_M_keep_101 fu n x1 x2 I L = some res → Wp (Ev (d + 0)) cd_M_keep (0, 0) none n0 s0 Q 101 [(0, .ref 331), (1, .int x1), (2, .int x2)] [] (HS I L X) := by
  intro n
  induction n with
  | zero => intro _ _ _ _ q; cases q
  | succ n ih =>
    intro x1 x2 I L q
    unfold LO_M_keep_101 at q
    refine w_iload_n (Ev.cm _) rfl rfl ?_
    refine w_bipush (Ev.cm _) rfl ?_
    refine w_icmp_ge (Ev.cm _) rfl (fun c1 => ?_) (fun c1 => ?_)
    · have c1 : 30 ≤ x2 := c1
      rw [if_pos c1] at q
      refine w_aload_n (Ev.cm _) rfl rfl ?_
      refine w_getR (q := 332) (Ev.cm _) rfl (Nat.le_of_ble_eq_true rfl) rfl rfl ?_
      refine w_iconst (Ev.cm _) rfl ?_
      refine w_dup2 (Ev.cm _) rfl rfl rfl ?_
      refine w_iald (Ev.cm _) rfl (Nat.le_of_ble_eq_true rfl) rfl (show vp_in 3 1541 from vpI 1541 (by decide) (by decide) (by decide)) ?_
      refine w_iconst (Ev.cm _) rfl ?_
      refine w_iadd (Ev.cm _) rfl ?_
      refine w_iast (Ev.cm _) rfl (Nat.le_of_ble_eq_true rfl) rfl (show vp_in 3 1541 from vpI 1541 (by decide) (by decide) (by decide)) ?_
      refine w_return (Ev.cm _) rfl rfl rf0 ?_
      cases q
      exact g
    · have c1 : ¬ (30 ≤ x2) := c1
      rw [if_neg c1] at q
      refine w_aload_n (Ev.cm _) rfl rfl ?_
      refine w_getR (q := 332) (Ev.cm _) rfl (Nat.le_of_ble_eq_true rfl) rfl rfl ?_
      refine w_iload_n (Ev.cm _) rfl rfl ?_
      refine w_bipush (Ev.cm _) rfl ?_
      refine w_iadd (Ev.cm _) rfl ?_
      refine w_iload_n (Ev.cm _) rfl rfl ?_
      refine w_iadd (Ev.cm _) rfl ?_
      refine w_aload_n (Ev.cm _) rfl rfl ?_
      refine w_getR (q := 332) (Ev.cm _) rfl (Nat.le_of_ble_eq_true rfl) rfl rfl ?_
      refine w_sipush (Ev.cm _) rfl ?_
      refine w_iload_n (Ev.cm _) rfl rfl ?_
      refine w_iadd (Ev.cm _) rfl ?_
      obtain ⟨b1, q⟩ := ois q
      refine w_iald (Ev.cm _) rfl (Nat.le_of_ble_eq_true rfl) rfl (show vp_in ((1511 : Int32) + x2) 1541 from vpI 1541 (by decide) b1.1 b1.2) ?_
      obtain ⟨b2, q⟩ := ois q
      refine w_iast (Ev.cm _) rfl (Nat.le_of_ble_eq_true rfl) rfl (show vp_in ((x1 + 17) + x2) 1541 from vpI 1541 (by decide) b2.1 b2.2) ?_
      refine w_iinc (ls2 := [(0, .ref 331), (1, .int x1), (2, .int (x2 + 1))]) (Ev.cm _) rfl rfl rfl ?_
      refine w_goto (Ev.cm _) rfl ?_
      show Wp _ _ _ _ _ _ _ 101 [(0, .ref 331), (1, .int x1), (2, .int (x2 + 1))] [] (HS (sI I 332 (((x1 + 17) + x2).toNatClampNeg) (I 332 (((1511 : Int32) + x2).toNatClampNeg))) L X)
      refine Wp.sub [0, 1, 2] (ls2 := [(0, .ref 331), (1, .int x1), (2, .int (x2 + 1))]) rfl ?_
      exact ih _ _ _ _ q
def LO_M_keep_70 (fu : Nat) : Nat → Int32 → Int32 → (Nat → Nat → Int32) → (Nat → Nat → Int64) → Option (Unit × (Nat → Nat → Int32) × (Nat → Nat → Int64))
  | 0, _, _, _, _ => none
  | n + 1, x1, x2, I, L => if 17 ≤ x2 then (LO_M_keep_101 fu fu x1 0 I L) else (if 0 ≤ (7 : Int32) + x2 ∧ (7 : Int32) + x2 < 1541 then (if 0 ≤ x1 + x2 ∧ x1 + x2 < 1541 then (LO_M_keep_70 fu n x1 (x2 + 1) (sI I 332 ((x1 + x2).toNatClampNeg) (I 332 (((7 : Int32) + x2).toNatClampNeg))) L) else none) else none)
set_option maxHeartbeats 20000000 in
set_option maxRecDepth 20000 in
theorem lo_M_keep_70 {d fu n0 s0 : Nat} {X : Nat × (Nat → Int32)} {Q : PQ} {res : Unit × (Nat → Nat → Int32) × (Nat → Nat → Int64)}  (g : Q none (HS res.2.1 res.2.2 X)) : ∀ (n : Nat) (x1 : Int32) (x2 : Int32) (I : Nat → Nat → Int32) (L : Nat → Nat → Int64), LO_M_keep_70 fu n x1 x2 I L = some res → Wp (Ev (d + 0)) cd_M_keep (0, 0) none n0 s0 Q 70 [(0, .ref 331), (1, .int x1), (2, .int x2)] [] (HS I L X) := by
  intro n
  induction n with
  | zero => intro _ _ _ _ q; cases q
  | succ n ih =>
    intro x1 x2 I L q
    unfold LO_M_keep_70 at q
    refine w_iload_n (Ev.cm _) rfl rfl ?_
    refine w_bipush (Ev.cm _) rfl ?_
    refine w_icmp_ge (Ev.cm _) rfl (fun c1 => ?_) (fun c1 => ?_)
    · have c1 : 17 ≤ x2 := c1
      rw [if_pos c1] at q
      refine w_iconst (Ev.cm _) rfl ?_
      refine w_istore_n (ls2 := [(0, .ref 331), (1, .int x1), (2, .int 0)]) (Ev.cm _) rfl rfl ?_
      show Wp _ _ _ _ _ _ _ 101 [(0, .ref 331), (1, .int x1), (2, .int 0)] [] (HS I L X)
      refine Wp.sub [0, 1, 2] (ls2 := [(0, .ref 331), (1, .int x1), (2, .int 0)]) rfl ?_
      exact lo_M_keep_101 g fu _ _ _ _ q
    · have c1 : ¬ (17 ≤ x2) := c1
      rw [if_neg c1] at q
      refine w_aload_n (Ev.cm _) rfl rfl ?_
      refine w_getR (q := 332) (Ev.cm _) rfl (Nat.le_of_ble_eq_true rfl) rfl rfl ?_
      refine w_iload_n (Ev.cm _) rfl rfl ?_
      refine w_iload_n (Ev.cm _) rfl rfl ?_
      refine w_iadd (Ev.cm _) rfl ?_
      refine w_aload_n (Ev.cm _) rfl rfl ?_
      refine w_getR (q := 332) (Ev.cm _) rfl (Nat.le_of_ble_eq_true rfl) rfl rfl ?_
      refine w_bipush (Ev.cm _) rfl ?_
      refine w_iload_n (Ev.cm _) rfl rfl ?_
      refine w_iadd (Ev.cm _) rfl ?_
      obtain ⟨b1, q⟩ := ois q
      refine w_iald (Ev.cm _) rfl (Nat.le_of_ble_eq_true rfl) rfl (show vp_in ((7 : Int32) + x2) 1541 from vpI 1541 (by decide) b1.1 b1.2) ?_
      obtain ⟨b2, q⟩ := ois q
      refine w_iast (Ev.cm _) rfl (Nat.le_of_ble_eq_true rfl) rfl (show vp_in (x1 + x2) 1541 from vpI 1541 (by decide) b2.1 b2.2) ?_
      refine w_iinc (ls2 := [(0, .ref 331), (1, .int x1), (2, .int (x2 + 1))]) (Ev.cm _) rfl rfl rfl ?_
      refine w_goto (Ev.cm _) rfl ?_
      show Wp _ _ _ _ _ _ _ 70 [(0, .ref 331), (1, .int x1), (2, .int (x2 + 1))] [] (HS (sI I 332 ((x1 + x2).toNatClampNeg) (I 332 (((7 : Int32) + x2).toNatClampNeg))) L X)
      refine Wp.sub [0, 1, 2] (ls2 := [(0, .ref 331), (1, .int x1), (2, .int (x2 + 1))]) rfl ?_
      exact ih _ _ _ _ q
def LO_M_keep_13 (fu : Nat) : Nat → Int32 → (Nat → Nat → Int32) → (Nat → Nat → Int64) → Option (Unit × (Nat → Nat → Int32) × (Nat → Nat → Int64))
  | 0, _, _, _ => none
  | n + 1, x1, I, L => if 1363 ≤ x1 then (LO_M_keep_70 fu fu ((101 : Int32) + ((47 : Int32) * ((I 332 3) - 1))) 0 (sI I 332 3 ((I 332 3) - 1)) L) else (if 0 ≤ (148 : Int32) + x1 ∧ (148 : Int32) + x1 < 1541 then (if 0 ≤ (101 : Int32) + x1 ∧ (101 : Int32) + x1 < 1541 then (LO_M_keep_13 fu n (x1 + 1) (sI I 332 (((101 : Int32) + x1).toNatClampNeg) (I 332 (((148 : Int32) + x1).toNatClampNeg))) L) else none) else none)
set_option maxHeartbeats 20000000 in
set_option maxRecDepth 20000 in
theorem lo_M_keep_13 {d fu n0 s0 : Nat} {X : Nat × (Nat → Int32)} {Q : PQ} {res : Unit × (Nat → Nat → Int32) × (Nat → Nat → Int64)}  (g : Q none (HS res.2.1 res.2.2 X)) : ∀ (n : Nat) (x1 : Int32) (I : Nat → Nat → Int32) (L : Nat → Nat → Int64), LO_M_keep_13 fu n x1 I L = some res → Wp (Ev (d + 0)) cd_M_keep (0, 0) none n0 s0 Q 13 [(0, .ref 331), (1, .int x1)] [] (HS I L X) := by
  intro n
  induction n with
  | zero => intro _ _ _ q; cases q
  | succ n ih =>
    intro x1 I L q
    unfold LO_M_keep_13 at q
    refine w_iload_n (Ev.cm _) rfl rfl ?_
    refine w_sipush (Ev.cm _) rfl ?_
    refine w_icmp_ge (Ev.cm _) rfl (fun c1 => ?_) (fun c1 => ?_)
    · have c1 : 1363 ≤ x1 := c1
      rw [if_pos c1] at q
      refine w_aload_n (Ev.cm _) rfl rfl ?_
      refine w_getR (q := 332) (Ev.cm _) rfl (Nat.le_of_ble_eq_true rfl) rfl rfl ?_
      refine w_iconst (Ev.cm _) rfl ?_
      refine w_dup2 (Ev.cm _) rfl rfl rfl ?_
      refine w_iald (Ev.cm _) rfl (Nat.le_of_ble_eq_true rfl) rfl (show vp_in 3 1541 from vpI 1541 (by decide) (by decide) (by decide)) ?_
      refine w_iconst (Ev.cm _) rfl ?_
      refine w_isub (Ev.cm _) rfl ?_
      refine w_iast (Ev.cm _) rfl (Nat.le_of_ble_eq_true rfl) rfl (show vp_in 3 1541 from vpI 1541 (by decide) (by decide) (by decide)) ?_
      refine w_bipush (Ev.cm _) rfl ?_
      refine w_bipush (Ev.cm _) rfl ?_
      refine w_aload_n (Ev.cm _) rfl rfl ?_
      refine w_getR (q := 332) (Ev.cm _) rfl (Nat.le_of_ble_eq_true rfl) rfl rfl ?_
      refine w_iconst (Ev.cm _) rfl ?_
      refine w_iald (Ev.cm _) rfl (Nat.le_of_ble_eq_true rfl) rfl (show vp_in 3 1541 from vpI 1541 (by decide) (by decide) (by decide)) ?_
      refine w_imul (Ev.cm _) rfl ?_
      refine w_iadd (Ev.cm _) rfl ?_
      refine w_istore_n (ls2 := [(0, .ref 331), (1, .int ((101 : Int32) + ((47 : Int32) * ((I 332 3) - 1))))]) (Ev.cm _) rfl rfl ?_
      refine w_iconst (Ev.cm _) rfl ?_
      refine w_istore_n (ls2 := [(0, .ref 331), (1, .int ((101 : Int32) + ((47 : Int32) * ((I 332 3) - 1)))), (2, .int 0)]) (Ev.cm _) rfl rfl ?_
      show Wp _ _ _ _ _ _ _ 70 [(0, .ref 331), (1, .int ((101 : Int32) + ((47 : Int32) * ((I 332 3) - 1)))), (2, .int 0)] [] (HS (sI I 332 3 ((I 332 3) - 1)) L X)
      refine Wp.sub [0, 1, 2] (ls2 := [(0, .ref 331), (1, .int ((101 : Int32) + ((47 : Int32) * ((I 332 3) - 1)))), (2, .int 0)]) rfl ?_
      exact lo_M_keep_70 g fu _ _ _ _ q
    · have c1 : ¬ (1363 ≤ x1) := c1
      rw [if_neg c1] at q
      refine w_aload_n (Ev.cm _) rfl rfl ?_
      refine w_getR (q := 332) (Ev.cm _) rfl (Nat.le_of_ble_eq_true rfl) rfl rfl ?_
      refine w_bipush (Ev.cm _) rfl ?_
      refine w_iload_n (Ev.cm _) rfl rfl ?_
      refine w_iadd (Ev.cm _) rfl ?_
      refine w_aload_n (Ev.cm _) rfl rfl ?_
      refine w_getR (q := 332) (Ev.cm _) rfl (Nat.le_of_ble_eq_true rfl) rfl rfl ?_
      refine w_sipush (Ev.cm _) rfl ?_
      refine w_iload_n (Ev.cm _) rfl rfl ?_
      refine w_iadd (Ev.cm _) rfl ?_
      obtain ⟨b1, q⟩ := ois q
      refine w_iald (Ev.cm _) rfl (Nat.le_of_ble_eq_true rfl) rfl (show vp_in ((148 : Int32) + x1) 1541 from vpI 1541 (by decide) b1.1 b1.2) ?_
      obtain ⟨b2, q⟩ := ois q
      refine w_iast (Ev.cm _) rfl (Nat.le_of_ble_eq_true rfl) rfl (show vp_in ((101 : Int32) + x1) 1541 from vpI 1541 (by decide) b2.1 b2.2) ?_
      refine w_iinc (ls2 := [(0, .ref 331), (1, .int (x1 + 1))]) (Ev.cm _) rfl rfl rfl ?_
      refine w_goto (Ev.cm _) rfl ?_
      show Wp _ _ _ _ _ _ _ 13 [(0, .ref 331), (1, .int (x1 + 1))] [] (HS (sI I 332 (((101 : Int32) + x1).toNatClampNeg) (I 332 (((148 : Int32) + x1).toNatClampNeg))) L X)
      refine Wp.sub [0, 1] (ls2 := [(0, .ref 331), (1, .int (x1 + 1))]) rfl ?_
      exact ih _ _ _ q
def FO_M_keep (fu : Nat) (I : Nat → Nat → Int32) (L : Nat → Nat → Int64) : Option (Unit × (Nat → Nat → Int32) × (Nat → Nat → Int64)) := if I 332 3 = 30 then (LO_M_keep_13 fu fu 0 I L) else (LO_M_keep_70 fu fu ((101 : Int32) + ((47 : Int32) * (I 332 3))) 0 I L)
set_option maxHeartbeats 20000000 in
set_option maxRecDepth 20000 in
theorem eo_M_keep {d fu : Nat} {I : Nat → Nat → Int32} {L : Nat → Nat → Int64} {X : Nat × (Nat → Int32)} {Q : PQ} {res : Unit × (Nat → Nat → Int32) × (Nat → Nat → Int64)}  (g : Q none (HS res.2.1 res.2.2 X)) (q : FO_M_keep fu  I L = some res) : Ev (d + 1) m_M_keep [.ref 331] (HS I L X) Q := by
  unfold FO_M_keep at q
  refine ev_start (d := d + 0) rfl rfl rfl (Nat.le_of_ble_eq_true rfl) ?_
  show Wp (Ev (d + 0)) cd_M_keep (0, 0) none _ _ Q 0 [(0, .ref 331)] [] (HS I L X)
  refine w_aload_n (Ev.cm _) rfl rfl ?_
  refine w_getR (q := 332) (Ev.cm _) rfl (Nat.le_of_ble_eq_true rfl) rfl rfl ?_
  refine w_iconst (Ev.cm _) rfl ?_
  refine w_iald (Ev.cm _) rfl (Nat.le_of_ble_eq_true rfl) rfl (show vp_in 3 1541 from vpI 1541 (by decide) (by decide) (by decide)) ?_
  refine w_bipush (Ev.cm _) rfl ?_
  refine w_icmp_ne (Ev.cm _) rfl (fun c1 => ?_) (fun c1 => ?_)
  · have c1 : ¬ (I 332 3 = 30) := c1
    rw [if_neg c1] at q
    refine w_bipush (Ev.cm _) rfl ?_
    refine w_bipush (Ev.cm _) rfl ?_
    refine w_aload_n (Ev.cm _) rfl rfl ?_
    refine w_getR (q := 332) (Ev.cm _) rfl (Nat.le_of_ble_eq_true rfl) rfl rfl ?_
    refine w_iconst (Ev.cm _) rfl ?_
    refine w_iald (Ev.cm _) rfl (Nat.le_of_ble_eq_true rfl) rfl (show vp_in 3 1541 from vpI 1541 (by decide) (by decide) (by decide)) ?_
    refine w_imul (Ev.cm _) rfl ?_
    refine w_iadd (Ev.cm _) rfl ?_
    refine w_istore_n (ls2 := [(0, .ref 331), (1, .int ((101 : Int32) + ((47 : Int32) * (I 332 3))))]) (Ev.cm _) rfl rfl ?_
    refine w_iconst (Ev.cm _) rfl ?_
    refine w_istore_n (ls2 := [(0, .ref 331), (1, .int ((101 : Int32) + ((47 : Int32) * (I 332 3)))), (2, .int 0)]) (Ev.cm _) rfl rfl ?_
    show Wp _ _ _ _ _ _ _ 70 [(0, .ref 331), (1, .int ((101 : Int32) + ((47 : Int32) * (I 332 3)))), (2, .int 0)] [] (HS I L X)
    refine Wp.sub [0, 1, 2] (ls2 := [(0, .ref 331), (1, .int ((101 : Int32) + ((47 : Int32) * (I 332 3)))), (2, .int 0)]) rfl ?_
    exact lo_M_keep_70 g fu _ _ _ _ q
  · have c1 : I 332 3 = 30 := c1
    rw [if_pos c1] at q
    refine w_iconst (Ev.cm _) rfl ?_
    refine w_istore_n (ls2 := [(0, .ref 331), (1, .int 0)]) (Ev.cm _) rfl rfl ?_
    show Wp _ _ _ _ _ _ _ 13 [(0, .ref 331), (1, .int 0)] [] (HS I L X)
    refine Wp.sub [0, 1] (ls2 := [(0, .ref 331), (1, .int 0)]) rfl ?_
    exact lo_M_keep_13 g fu _ _ _ q
def LO_M_undo_67 (fu : Nat) : Nat → Int32 → Int32 → (Nat → Nat → Int32) → (Nat → Nat → Int64) → Option (Int32 × (Nat → Nat → Int32) × (Nat → Nat → Int64))
  | 0, _, _, _, _ => none
  | n + 1, x1, x2, I, L => if 30 ≤ x2 then (some (I 332 3, I, L)) else (if 0 ≤ (x1 + 17) + x2 ∧ (x1 + 17) + x2 < 1541 then (if 0 ≤ (1511 : Int32) + x2 ∧ (1511 : Int32) + x2 < 1541 then (LO_M_undo_67 fu n x1 (x2 + 1) (sI I 332 (((1511 : Int32) + x2).toNatClampNeg) (I 332 (((x1 + 17) + x2).toNatClampNeg))) L) else none) else none)
set_option maxHeartbeats 20000000 in
set_option maxRecDepth 20000 in
theorem lo_M_undo_67 {d fu n0 s0 : Nat} {X : Nat × (Nat → Int32)} {Q : PQ} {res : Int32 × (Nat → Nat → Int32) × (Nat → Nat → Int64)}  (g : Q (some (.int res.1)) (HS res.2.1 res.2.2 X)) : ∀ (n : Nat) (x1 : Int32) (x2 : Int32) (I : Nat → Nat → Int32) (L : Nat → Nat → Int64), LO_M_undo_67 fu n x1 x2 I L = some res → Wp (Ev (d + 0)) cd_M_undo (0, 0) (some .int) n0 s0 Q 67 [(0, .ref 331), (1, .int x1), (2, .int x2)] [] (HS I L X) := by
  intro n
  induction n with
  | zero => intro _ _ _ _ q; cases q
  | succ n ih =>
    intro x1 x2 I L q
    unfold LO_M_undo_67 at q
    refine w_iload_n (Ev.cm _) rfl rfl ?_
    refine w_bipush (Ev.cm _) rfl ?_
    refine w_icmp_ge (Ev.cm _) rfl (fun c1 => ?_) (fun c1 => ?_)
    · have c1 : 30 ≤ x2 := c1
      rw [if_pos c1] at q
      refine w_aload_n (Ev.cm _) rfl rfl ?_
      refine w_getR (q := 332) (Ev.cm _) rfl (Nat.le_of_ble_eq_true rfl) rfl rfl ?_
      refine w_iconst (Ev.cm _) rfl ?_
      refine w_iald (Ev.cm _) rfl (Nat.le_of_ble_eq_true rfl) rfl (show vp_in 3 1541 from vpI 1541 (by decide) (by decide) (by decide)) ?_
      refine w_ireturn (Ev.cm _) rfl trivial rf0 ?_
      cases q
      exact g
    · have c1 : ¬ (30 ≤ x2) := c1
      rw [if_neg c1] at q
      refine w_aload_n (Ev.cm _) rfl rfl ?_
      refine w_getR (q := 332) (Ev.cm _) rfl (Nat.le_of_ble_eq_true rfl) rfl rfl ?_
      refine w_sipush (Ev.cm _) rfl ?_
      refine w_iload_n (Ev.cm _) rfl rfl ?_
      refine w_iadd (Ev.cm _) rfl ?_
      refine w_aload_n (Ev.cm _) rfl rfl ?_
      refine w_getR (q := 332) (Ev.cm _) rfl (Nat.le_of_ble_eq_true rfl) rfl rfl ?_
      refine w_iload_n (Ev.cm _) rfl rfl ?_
      refine w_bipush (Ev.cm _) rfl ?_
      refine w_iadd (Ev.cm _) rfl ?_
      refine w_iload_n (Ev.cm _) rfl rfl ?_
      refine w_iadd (Ev.cm _) rfl ?_
      obtain ⟨b1, q⟩ := ois q
      refine w_iald (Ev.cm _) rfl (Nat.le_of_ble_eq_true rfl) rfl (show vp_in ((x1 + 17) + x2) 1541 from vpI 1541 (by decide) b1.1 b1.2) ?_
      obtain ⟨b2, q⟩ := ois q
      refine w_iast (Ev.cm _) rfl (Nat.le_of_ble_eq_true rfl) rfl (show vp_in ((1511 : Int32) + x2) 1541 from vpI 1541 (by decide) b2.1 b2.2) ?_
      refine w_iinc (ls2 := [(0, .ref 331), (1, .int x1), (2, .int (x2 + 1))]) (Ev.cm _) rfl rfl rfl ?_
      refine w_goto (Ev.cm _) rfl ?_
      show Wp _ _ _ _ _ _ _ 67 [(0, .ref 331), (1, .int x1), (2, .int (x2 + 1))] [] (HS (sI I 332 (((1511 : Int32) + x2).toNatClampNeg) (I 332 (((x1 + 17) + x2).toNatClampNeg))) L X)
      refine Wp.sub [0, 1, 2] (ls2 := [(0, .ref 331), (1, .int x1), (2, .int (x2 + 1))]) rfl ?_
      exact ih _ _ _ _ q
def LO_M_undo_36 (fu : Nat) : Nat → Int32 → Int32 → (Nat → Nat → Int32) → (Nat → Nat → Int64) → Option (Int32 × (Nat → Nat → Int32) × (Nat → Nat → Int64))
  | 0, _, _, _, _ => none
  | n + 1, x1, x2, I, L => if 17 ≤ x2 then (LO_M_undo_67 fu fu x1 0 I L) else (if 0 ≤ x1 + x2 ∧ x1 + x2 < 1541 then (if 0 ≤ (7 : Int32) + x2 ∧ (7 : Int32) + x2 < 1541 then (LO_M_undo_36 fu n x1 (x2 + 1) (sI I 332 (((7 : Int32) + x2).toNatClampNeg) (I 332 ((x1 + x2).toNatClampNeg))) L) else none) else none)
set_option maxHeartbeats 20000000 in
set_option maxRecDepth 20000 in
theorem lo_M_undo_36 {d fu n0 s0 : Nat} {X : Nat × (Nat → Int32)} {Q : PQ} {res : Int32 × (Nat → Nat → Int32) × (Nat → Nat → Int64)}  (g : Q (some (.int res.1)) (HS res.2.1 res.2.2 X)) : ∀ (n : Nat) (x1 : Int32) (x2 : Int32) (I : Nat → Nat → Int32) (L : Nat → Nat → Int64), LO_M_undo_36 fu n x1 x2 I L = some res → Wp (Ev (d + 0)) cd_M_undo (0, 0) (some .int) n0 s0 Q 36 [(0, .ref 331), (1, .int x1), (2, .int x2)] [] (HS I L X) := by
  intro n
  induction n with
  | zero => intro _ _ _ _ q; cases q
  | succ n ih =>
    intro x1 x2 I L q
    unfold LO_M_undo_36 at q
    refine w_iload_n (Ev.cm _) rfl rfl ?_
    refine w_bipush (Ev.cm _) rfl ?_
    refine w_icmp_ge (Ev.cm _) rfl (fun c1 => ?_) (fun c1 => ?_)
    · have c1 : 17 ≤ x2 := c1
      rw [if_pos c1] at q
      refine w_iconst (Ev.cm _) rfl ?_
      refine w_istore_n (ls2 := [(0, .ref 331), (1, .int x1), (2, .int 0)]) (Ev.cm _) rfl rfl ?_
      show Wp _ _ _ _ _ _ _ 67 [(0, .ref 331), (1, .int x1), (2, .int 0)] [] (HS I L X)
      refine Wp.sub [0, 1, 2] (ls2 := [(0, .ref 331), (1, .int x1), (2, .int 0)]) rfl ?_
      exact lo_M_undo_67 g fu _ _ _ _ q
    · have c1 : ¬ (17 ≤ x2) := c1
      rw [if_neg c1] at q
      refine w_aload_n (Ev.cm _) rfl rfl ?_
      refine w_getR (q := 332) (Ev.cm _) rfl (Nat.le_of_ble_eq_true rfl) rfl rfl ?_
      refine w_bipush (Ev.cm _) rfl ?_
      refine w_iload_n (Ev.cm _) rfl rfl ?_
      refine w_iadd (Ev.cm _) rfl ?_
      refine w_aload_n (Ev.cm _) rfl rfl ?_
      refine w_getR (q := 332) (Ev.cm _) rfl (Nat.le_of_ble_eq_true rfl) rfl rfl ?_
      refine w_iload_n (Ev.cm _) rfl rfl ?_
      refine w_iload_n (Ev.cm _) rfl rfl ?_
      refine w_iadd (Ev.cm _) rfl ?_
      obtain ⟨b1, q⟩ := ois q
      refine w_iald (Ev.cm _) rfl (Nat.le_of_ble_eq_true rfl) rfl (show vp_in (x1 + x2) 1541 from vpI 1541 (by decide) b1.1 b1.2) ?_
      obtain ⟨b2, q⟩ := ois q
      refine w_iast (Ev.cm _) rfl (Nat.le_of_ble_eq_true rfl) rfl (show vp_in ((7 : Int32) + x2) 1541 from vpI 1541 (by decide) b2.1 b2.2) ?_
      refine w_iinc (ls2 := [(0, .ref 331), (1, .int x1), (2, .int (x2 + 1))]) (Ev.cm _) rfl rfl rfl ?_
      refine w_goto (Ev.cm _) rfl ?_
      show Wp _ _ _ _ _ _ _ 36 [(0, .ref 331), (1, .int x1), (2, .int (x2 + 1))] [] (HS (sI I 332 (((7 : Int32) + x2).toNatClampNeg) (I 332 ((x1 + x2).toNatClampNeg))) L X)
      refine Wp.sub [0, 1, 2] (ls2 := [(0, .ref 331), (1, .int x1), (2, .int (x2 + 1))]) rfl ?_
      exact ih _ _ _ _ q
def FO_M_undo (fu : Nat) (I : Nat → Nat → Int32) (L : Nat → Nat → Int64) : Option (Int32 × (Nat → Nat → Int32) × (Nat → Nat → Int64)) := if I 332 3 = 0 then (some ((-1), I, L)) else (LO_M_undo_36 fu fu ((101 : Int32) + ((47 : Int32) * ((I 332 3) - 1))) 0 (sI I 332 3 ((I 332 3) - 1)) L)
set_option maxHeartbeats 20000000 in
set_option maxRecDepth 20000 in
theorem eo_M_undo {d fu : Nat} {I : Nat → Nat → Int32} {L : Nat → Nat → Int64} {X : Nat × (Nat → Int32)} {Q : PQ} {res : Int32 × (Nat → Nat → Int32) × (Nat → Nat → Int64)}  (g : Q (some (.int res.1)) (HS res.2.1 res.2.2 X)) (q : FO_M_undo fu  I L = some res) : Ev (d + 1) m_M_undo [.ref 331] (HS I L X) Q := by
  unfold FO_M_undo at q
  refine ev_start (d := d + 0) rfl rfl rfl (Nat.le_of_ble_eq_true rfl) ?_
  show Wp (Ev (d + 0)) cd_M_undo (0, 0) (some .int) _ _ Q 0 [(0, .ref 331)] [] (HS I L X)
  refine w_aload_n (Ev.cm _) rfl rfl ?_
  refine w_getR (q := 332) (Ev.cm _) rfl (Nat.le_of_ble_eq_true rfl) rfl rfl ?_
  refine w_iconst (Ev.cm _) rfl ?_
  refine w_iald (Ev.cm _) rfl (Nat.le_of_ble_eq_true rfl) rfl (show vp_in 3 1541 from vpI 1541 (by decide) (by decide) (by decide)) ?_
  refine w_if_ne (Ev.cm _) rfl (fun c1 => ?_) (fun c1 => ?_)
  · have c1 : ¬ (I 332 3 = 0) := c1
    rw [if_neg c1] at q
    refine w_aload_n (Ev.cm _) rfl rfl ?_
    refine w_getR (q := 332) (Ev.cm _) rfl (Nat.le_of_ble_eq_true rfl) rfl rfl ?_
    refine w_iconst (Ev.cm _) rfl ?_
    refine w_dup2 (Ev.cm _) rfl rfl rfl ?_
    refine w_iald (Ev.cm _) rfl (Nat.le_of_ble_eq_true rfl) rfl (show vp_in 3 1541 from vpI 1541 (by decide) (by decide) (by decide)) ?_
    refine w_iconst (Ev.cm _) rfl ?_
    refine w_isub (Ev.cm _) rfl ?_
    refine w_iast (Ev.cm _) rfl (Nat.le_of_ble_eq_true rfl) rfl (show vp_in 3 1541 from vpI 1541 (by decide) (by decide) (by decide)) ?_
    refine w_bipush (Ev.cm _) rfl ?_
    refine w_bipush (Ev.cm _) rfl ?_
    refine w_aload_n (Ev.cm _) rfl rfl ?_
    refine w_getR (q := 332) (Ev.cm _) rfl (Nat.le_of_ble_eq_true rfl) rfl rfl ?_
    refine w_iconst (Ev.cm _) rfl ?_
    refine w_iald (Ev.cm _) rfl (Nat.le_of_ble_eq_true rfl) rfl (show vp_in 3 1541 from vpI 1541 (by decide) (by decide) (by decide)) ?_
    refine w_imul (Ev.cm _) rfl ?_
    refine w_iadd (Ev.cm _) rfl ?_
    refine w_istore_n (ls2 := [(0, .ref 331), (1, .int ((101 : Int32) + ((47 : Int32) * ((I 332 3) - 1))))]) (Ev.cm _) rfl rfl ?_
    refine w_iconst (Ev.cm _) rfl ?_
    refine w_istore_n (ls2 := [(0, .ref 331), (1, .int ((101 : Int32) + ((47 : Int32) * ((I 332 3) - 1)))), (2, .int 0)]) (Ev.cm _) rfl rfl ?_
    show Wp _ _ _ _ _ _ _ 36 [(0, .ref 331), (1, .int ((101 : Int32) + ((47 : Int32) * ((I 332 3) - 1)))), (2, .int 0)] [] (HS (sI I 332 3 ((I 332 3) - 1)) L X)
    refine Wp.sub [0, 1, 2] (ls2 := [(0, .ref 331), (1, .int ((101 : Int32) + ((47 : Int32) * ((I 332 3) - 1)))), (2, .int 0)]) rfl ?_
    exact lo_M_undo_36 g fu _ _ _ _ q
  · have c1 : I 332 3 = 0 := c1
    rw [if_pos c1] at q
    refine w_iconst (Ev.cm _) rfl ?_
    refine w_ireturn (Ev.cm _) rfl trivial rf0 ?_
    cases q
    exact g
def FO_M_tread (fu : Nat) (p0 : Int32) (p1 : Int32) (p2 : Int32) (I : Nat → Nat → Int32) (L : Nat → Nat → Int64) : Option (Int32 × (Nat → Nat → Int32) × (Nat → Nat → Int64)) := (FO_M_canTread fu p0 p1 p2 I L).bind (fun u1 => let r1 := u1.1; let I1 := u1.2.1; let L1 := u1.2.2; if r1 = 0 then (some ((-1), I1, L1)) else ((FO_M_keep fu  I1 L1).bind (fun u2 => let r2 := u2.1; let I2 := u2.2.1; let L2 := u2.2.2; (FO_M_treadNow fu p0 p1 p2 I2 L2).bind (fun u3 => let r3 := u3.1; let I3 := u3.2.1; let L3 := u3.2.2; some (r3, I3, L3)))))
set_option maxHeartbeats 20000000 in
set_option maxRecDepth 20000 in
theorem eo_M_tread {d fu : Nat} {p0 : Int32} {p1 : Int32} {p2 : Int32} {I : Nat → Nat → Int32} {L : Nat → Nat → Int64} {X : Nat × (Nat → Int32)} {Q : PQ} {res : Int32 × (Nat → Nat → Int32) × (Nat → Nat → Int64)}  (g : Q (some (.int res.1)) (HS res.2.1 res.2.2 X)) (q : FO_M_tread fu p0 p1 p2 I L = some res) : Ev (d + 10) m_M_tread [.ref 331, .int p0, .int p1, .int p2] (HS I L X) Q := by
  unfold FO_M_tread at q
  refine ev_start (d := d + 9) rfl rfl rfl (Nat.le_of_ble_eq_true rfl) ?_
  show Wp (Ev (d + 9)) cd_M_tread (0, 0) (some .int) _ _ Q 0 [(0, .ref 331), (1, .int p0), (2, .int p1), (3, .int p2)] [] (HS I L X)
  refine w_aload_n (Ev.cm _) rfl rfl ?_
  refine w_iload_n (Ev.cm _) rfl rfl ?_
  refine w_iload_n (Ev.cm _) rfl rfl ?_
  refine w_iload_n (Ev.cm _) rfl rfl ?_
  obtain ⟨⟨r1, I1, L1⟩, e1, q⟩ := obs q
  dsimp only at q
  refine w_cvirt (o := 331) (as := [.int p0, .int p1, .int p2]) (st := []) (Ev.cm _) rfl rfl rfl (Nat.le_of_ble_eq_true rfl) (Nat.le_of_ble_eq_true rfl) rfl (Nat.le_of_ble_eq_true rfl) (eo_M_canTread (g := ?_) e1)
  show Wp _ _ _ _ _ _ _ 7 [(0, .ref 331), (1, .int p0), (2, .int p1), (3, .int p2)] [.int r1] (HS I1 L1 X)
  refine w_if_ne (Ev.cm _) rfl (fun c1 => ?_) (fun c1 => ?_)
  · have c1 : ¬ (r1 = 0) := c1
    rw [if_neg c1] at q
    refine w_aload_n (Ev.cm _) rfl rfl ?_
    obtain ⟨⟨r2, I2, L2⟩, e2, q⟩ := obs q
    dsimp only at q
    refine w_cvirt (o := 331) (as := []) (st := []) (Ev.cm _) rfl rfl rfl (Nat.le_of_ble_eq_true rfl) (Nat.le_of_ble_eq_true rfl) rfl (Nat.le_of_ble_eq_true rfl) (eo_M_keep (g := ?_) e2)
    show Wp _ _ _ _ _ _ _ 16 [(0, .ref 331), (1, .int p0), (2, .int p1), (3, .int p2)] [] (HS I2 L2 X)
    refine w_aload_n (Ev.cm _) rfl rfl ?_
    refine w_iload_n (Ev.cm _) rfl rfl ?_
    refine w_iload_n (Ev.cm _) rfl rfl ?_
    refine w_iload_n (Ev.cm _) rfl rfl ?_
    obtain ⟨⟨r3, I3, L3⟩, e3, q⟩ := obs q
    dsimp only at q
    refine w_cvirt (o := 331) (as := [.int p0, .int p1, .int p2]) (st := []) (Ev.cm _) rfl rfl rfl (Nat.le_of_ble_eq_true rfl) (Nat.le_of_ble_eq_true rfl) rfl (Nat.le_of_ble_eq_true rfl) (eo_M_treadNow (g := ?_) e3)
    show Wp _ _ _ _ _ _ _ 23 [(0, .ref 331), (1, .int p0), (2, .int p1), (3, .int p2)] [.int r3] (HS I3 L3 X)
    refine w_ireturn (Ev.cm _) rfl trivial rf0 ?_
    cases q
    exact g
  · have c1 : r1 = 0 := c1
    rw [if_pos c1] at q
    refine w_iconst (Ev.cm _) rfl ?_
    refine w_ireturn (Ev.cm _) rfl trivial rf0 ?_
    cases q
    exact g
def FO_M_hang (fu : Nat) (p0 : Int32) (p1 : Int32) (I : Nat → Nat → Int32) (L : Nat → Nat → Int64) : Option (Int32 × (Nat → Nat → Int32) × (Nat → Nat → Int64)) := if 1 ≤ p0 ∧ p0 ≤ 12 then ((FO_M_hasCup fu p0 I L).bind (fun u1 => let r1 := u1.1; let I1 := u1.2.1; let L1 := u1.2.2; if r1 = p1 then (some (0, I1, L1)) else ((FO_M_keep fu  I1 L1).bind (fun u2 => let r2 := u2.1; let I2 := u2.2.1; let L2 := u2.2.2; some (1, sI I2 332 10 ((I2 332 10) ^^^ ((1 : Int32) <<< (p0 &&& 31))), L2))))) else (some (0, I, L))
set_option maxHeartbeats 20000000 in
set_option maxRecDepth 20000 in
theorem eo_M_hang {d fu : Nat} {p0 : Int32} {p1 : Int32} {I : Nat → Nat → Int32} {L : Nat → Nat → Int64} {X : Nat × (Nat → Int32)} {Q : PQ} {res : Int32 × (Nat → Nat → Int32) × (Nat → Nat → Int64)}  (g : Q (some (.int res.1)) (HS res.2.1 res.2.2 X)) (q : FO_M_hang fu p0 p1 I L = some res) : Ev (d + 4) m_M_hang [.ref 331, .int p0, .int p1] (HS I L X) Q := by
  unfold FO_M_hang at q
  refine ev_start (d := d + 3) rfl rfl rfl (Nat.le_of_ble_eq_true rfl) ?_
  show Wp (Ev (d + 3)) cd_M_hang (0, 0) (some .boolean) _ _ Q 0 [(0, .ref 331), (1, .int p0), (2, .int p1)] [] (HS I L X)
  refine w_iload_n (Ev.cm _) rfl rfl ?_
  refine w_cstat (as := [.int p0]) (st := []) (Ev.cm _) rfl rfl rfl (Nat.le_of_ble_eq_true rfl) (Nat.le_of_ble_eq_true rfl) (m_isStair ?_)
  show Wp _ _ _ _ _ _ _ 4 [(0, .ref 331), (1, .int p0), (2, .int p1)] [.int (bI (1 ≤ p0 ∧ p0 ≤ 12))] (HS I L X)
  refine w_if_eq (Ev.cm _) rfl (fun c1 => ?_) (fun c1 => ?_)
  · have c1 : ¬ (1 ≤ p0 ∧ p0 ≤ 12) := bI_0.mp c1
    rw [if_neg c1] at q
    refine w_iconst (Ev.cm _) rfl ?_
    refine w_ireturn (Ev.cm _) rfl (by first | exact rok_0 | exact rok_1 | exact rok_b) rf0 ?_
    cases q
    exact g
  · have c1 : 1 ≤ p0 ∧ p0 ≤ 12 := bI_1.mp c1
    rw [if_pos c1] at q
    refine w_aload_n (Ev.cm _) rfl rfl ?_
    refine w_iload_n (Ev.cm _) rfl rfl ?_
    obtain ⟨⟨r1, I1, L1⟩, e1, q⟩ := obs q
    dsimp only at q
    refine w_cvirt (o := 331) (as := [.int p0]) (st := []) (Ev.cm _) rfl rfl rfl (Nat.le_of_ble_eq_true rfl) (Nat.le_of_ble_eq_true rfl) rfl (Nat.le_of_ble_eq_true rfl) (eo_M_hasCup (g := ?_) e1)
    show Wp _ _ _ _ _ _ _ 12 [(0, .ref 331), (1, .int p0), (2, .int p1)] [.int r1] (HS I1 L1 X)
    refine w_iload_n (Ev.cm _) rfl rfl ?_
    refine w_icmp_ne (Ev.cm _) rfl (fun c2 => ?_) (fun c2 => ?_)
    · have c2 : ¬ (r1 = p1) := c2
      rw [if_neg c2] at q
      refine w_aload_n (Ev.cm _) rfl rfl ?_
      obtain ⟨⟨r2, I2, L2⟩, e2, q⟩ := obs q
      dsimp only at q
      refine w_cvirt (o := 331) (as := []) (st := []) (Ev.cm _) rfl rfl rfl (Nat.le_of_ble_eq_true rfl) (Nat.le_of_ble_eq_true rfl) rfl (Nat.le_of_ble_eq_true rfl) (eo_M_keep (g := ?_) e2)
      show Wp _ _ _ _ _ _ _ 22 [(0, .ref 331), (1, .int p0), (2, .int p1)] [] (HS I2 L2 X)
      refine w_aload_n (Ev.cm _) rfl rfl ?_
      refine w_getR (q := 332) (Ev.cm _) rfl (Nat.le_of_ble_eq_true rfl) rfl rfl ?_
      refine w_bipush (Ev.cm _) rfl ?_
      refine w_dup2 (Ev.cm _) rfl rfl rfl ?_
      refine w_iald (Ev.cm _) rfl (Nat.le_of_ble_eq_true rfl) rfl (show vp_in 10 1541 from vpI 1541 (by decide) (by decide) (by decide)) ?_
      refine w_iconst (Ev.cm _) rfl ?_
      refine w_iload_n (Ev.cm _) rfl rfl ?_
      refine w_ishl (Ev.cm _) rfl ?_
      refine w_ixor (Ev.cm _) rfl ?_
      refine w_iast (Ev.cm _) rfl (Nat.le_of_ble_eq_true rfl) rfl (show vp_in 10 1541 from vpI 1541 (by decide) (by decide) (by decide)) ?_
      refine w_iconst (Ev.cm _) rfl ?_
      refine w_ireturn (Ev.cm _) rfl (by first | exact rok_0 | exact rok_1 | exact rok_b) rf0 ?_
      cases q
      exact g
    · have c2 : r1 = p1 := c2
      rw [if_pos c2] at q
      refine w_iconst (Ev.cm _) rfl ?_
      refine w_ireturn (Ev.cm _) rfl (by first | exact rok_0 | exact rok_1 | exact rok_b) rf0 ?_
      cases q
      exact g
def FO_M_of (fu : Nat) (p0 : Int32) (p1 : Int32) (I : Nat → Nat → Int32) (L : Nat → Nat → Int64) : Option (Int32 × (Nat → Nat → Int32) × (Nat → Nat → Int64)) := if F_M_isLodger I p0 = 0 then (some ((-1), I, L)) else (if p1 = 0 then (if 0 ≤ (24 : Int32) + p0 ∧ (24 : Int32) + p0 < 1541 then (some (I 332 (((24 : Int32) + p0).toNatClampNeg), I, L)) else none) else (if p1 = 1 then (if 0 ≤ (30 : Int32) + p0 ∧ (30 : Int32) + p0 < 1541 then (some (I 332 (((30 : Int32) + p0).toNatClampNeg), I, L)) else none) else (if p1 = 2 then ((FO_M_placeOf fu p0 I L).bind (fun u3 => let r3 := u3.1; let I3 := u3.2.1; let L3 := u3.2.2; some (r3, I3, L3))) else (if p1 = 3 then ((FO_M_trod fu p0 I L).bind (fun u4 => let r4 := u4.1; let I4 := u4.2.1; let L4 := u4.2.2; some (r4, I4, L4))) else (if p1 = 4 then (if 0 ≤ (36 : Int32) + p0 ∧ (36 : Int32) + p0 < 1541 then (some (I 332 (((36 : Int32) + p0).toNatClampNeg), I, L)) else none) else (some ((-1), I, L)))))))
set_option maxHeartbeats 20000000 in
set_option maxRecDepth 20000 in
theorem eo_M_of {d fu : Nat} {p0 : Int32} {p1 : Int32} {I : Nat → Nat → Int32} {L : Nat → Nat → Int64} {X : Nat × (Nat → Int32)} {Q : PQ} {res : Int32 × (Nat → Nat → Int32) × (Nat → Nat → Int64)}  (g : Q (some (.int res.1)) (HS res.2.1 res.2.2 X)) (q : FO_M_of fu p0 p1 I L = some res) : Ev (d + 3) m_M_of [.ref 331, .int p0, .int p1] (HS I L X) Q := by
  unfold FO_M_of at q
  refine ev_start (d := d + 2) rfl rfl rfl (Nat.le_of_ble_eq_true rfl) ?_
  show Wp (Ev (d + 2)) cd_M_of (0, 0) (some .int) _ _ Q 0 [(0, .ref 331), (1, .int p0), (2, .int p1)] [] (HS I L X)
  refine w_aload_n (Ev.cm _) rfl rfl ?_
  refine w_iload_n (Ev.cm _) rfl rfl ?_
  refine w_cvirt (o := 331) (as := [.int p0]) (st := []) (Ev.cm _) rfl rfl rfl (Nat.le_of_ble_eq_true rfl) (Nat.le_of_ble_eq_true rfl) rfl (Nat.le_of_ble_eq_true rfl) (e_M_isLodger ?_)
  show Wp _ _ _ _ _ _ _ 5 [(0, .ref 331), (1, .int p0), (2, .int p1)] [.int (F_M_isLodger I p0)] (HS I L X)
  refine w_if_ne (Ev.cm _) rfl (fun c1 => ?_) (fun c1 => ?_)
  · have c1 : ¬ (F_M_isLodger I p0 = 0) := c1
    rw [if_neg c1] at q
    refine w_iload_n (Ev.cm _) rfl rfl ?_
    refine w_tswL (Ev.cm _) [(0, 33), (1, 43), (2, 53), (3, 59), (4, 65)] rfl (by decide +kernel) (by decide +kernel) ?_
    refine ⟨fun c2 => ?_, fun c2_0 => ⟨fun c2 => ?_, fun c2_1 => ⟨fun c2 => ?_, fun c2_2 => ⟨fun c2 => ?_, fun c2_3 => ⟨fun c2 => ?_, fun c2_4 => ?_⟩⟩⟩⟩⟩
    · have c2 : p1 = 0 := sw_v c2 (by decide)
      rw [if_pos c2] at q
      show Wp _ _ _ _ _ _ _ 44 [(0, .ref 331), (1, .int p0), (2, .int p1)] [] (HS I L X)
      refine w_aload_n (Ev.cm _) rfl rfl ?_
      refine w_getR (q := 332) (Ev.cm _) rfl (Nat.le_of_ble_eq_true rfl) rfl rfl ?_
      refine w_bipush (Ev.cm _) rfl ?_
      refine w_iload_n (Ev.cm _) rfl rfl ?_
      refine w_iadd (Ev.cm _) rfl ?_
      obtain ⟨b1, q⟩ := ois q
      refine w_iald (Ev.cm _) rfl (Nat.le_of_ble_eq_true rfl) rfl (show vp_in ((24 : Int32) + p0) 1541 from vpI 1541 (by decide) b1.1 b1.2) ?_
      refine w_ireturn (Ev.cm _) rfl trivial rf0 ?_
      cases q
      exact g
    · have c2_0 : ¬ p1 = 0 := sw_w c2_0 (by decide)
      have c2 : p1 = 1 := sw_v c2 (by decide)
      rw [if_neg c2_0, if_pos c2] at q
      show Wp _ _ _ _ _ _ _ 54 [(0, .ref 331), (1, .int p0), (2, .int p1)] [] (HS I L X)
      refine w_aload_n (Ev.cm _) rfl rfl ?_
      refine w_getR (q := 332) (Ev.cm _) rfl (Nat.le_of_ble_eq_true rfl) rfl rfl ?_
      refine w_bipush (Ev.cm _) rfl ?_
      refine w_iload_n (Ev.cm _) rfl rfl ?_
      refine w_iadd (Ev.cm _) rfl ?_
      obtain ⟨b2, q⟩ := ois q
      refine w_iald (Ev.cm _) rfl (Nat.le_of_ble_eq_true rfl) rfl (show vp_in ((30 : Int32) + p0) 1541 from vpI 1541 (by decide) b2.1 b2.2) ?_
      refine w_ireturn (Ev.cm _) rfl trivial rf0 ?_
      cases q
      exact g
    · have c2_0 : ¬ p1 = 0 := sw_w c2_0 (by decide)
      have c2_1 : ¬ p1 = 1 := sw_w c2_1 (by decide)
      have c2 : p1 = 2 := sw_v c2 (by decide)
      rw [if_neg c2_0, if_neg c2_1, if_pos c2] at q
      show Wp _ _ _ _ _ _ _ 64 [(0, .ref 331), (1, .int p0), (2, .int p1)] [] (HS I L X)
      refine w_aload_n (Ev.cm _) rfl rfl ?_
      refine w_iload_n (Ev.cm _) rfl rfl ?_
      obtain ⟨⟨r3, I3, L3⟩, e3, q⟩ := obs q
      dsimp only at q
      refine w_cvirt (o := 331) (as := [.int p0]) (st := []) (Ev.cm _) rfl rfl rfl (Nat.le_of_ble_eq_true rfl) (Nat.le_of_ble_eq_true rfl) rfl (Nat.le_of_ble_eq_true rfl) (eo_M_placeOf (g := ?_) e3)
      show Wp _ _ _ _ _ _ _ 69 [(0, .ref 331), (1, .int p0), (2, .int p1)] [.int r3] (HS I3 L3 X)
      refine w_ireturn (Ev.cm _) rfl trivial rf0 ?_
      cases q
      exact g
    · have c2_0 : ¬ p1 = 0 := sw_w c2_0 (by decide)
      have c2_1 : ¬ p1 = 1 := sw_w c2_1 (by decide)
      have c2_2 : ¬ p1 = 2 := sw_w c2_2 (by decide)
      have c2 : p1 = 3 := sw_v c2 (by decide)
      rw [if_neg c2_0, if_neg c2_1, if_neg c2_2, if_pos c2] at q
      show Wp _ _ _ _ _ _ _ 70 [(0, .ref 331), (1, .int p0), (2, .int p1)] [] (HS I L X)
      refine w_aload_n (Ev.cm _) rfl rfl ?_
      refine w_iload_n (Ev.cm _) rfl rfl ?_
      obtain ⟨⟨r4, I4, L4⟩, e4, q⟩ := obs q
      dsimp only at q
      refine w_cvirt (o := 331) (as := [.int p0]) (st := []) (Ev.cm _) rfl rfl rfl (Nat.le_of_ble_eq_true rfl) (Nat.le_of_ble_eq_true rfl) rfl (Nat.le_of_ble_eq_true rfl) (eo_M_trod (g := ?_) e4)
      show Wp _ _ _ _ _ _ _ 75 [(0, .ref 331), (1, .int p0), (2, .int p1)] [.int r4] (HS I4 L4 X)
      refine w_ireturn (Ev.cm _) rfl trivial rf0 ?_
      cases q
      exact g
    · have c2_0 : ¬ p1 = 0 := sw_w c2_0 (by decide)
      have c2_1 : ¬ p1 = 1 := sw_w c2_1 (by decide)
      have c2_2 : ¬ p1 = 2 := sw_w c2_2 (by decide)
      have c2_3 : ¬ p1 = 3 := sw_w c2_3 (by decide)
      have c2 : p1 = 4 := sw_v c2 (by decide)
      rw [if_neg c2_0, if_neg c2_1, if_neg c2_2, if_neg c2_3, if_pos c2] at q
      show Wp _ _ _ _ _ _ _ 76 [(0, .ref 331), (1, .int p0), (2, .int p1)] [] (HS I L X)
      refine w_aload_n (Ev.cm _) rfl rfl ?_
      refine w_getR (q := 332) (Ev.cm _) rfl (Nat.le_of_ble_eq_true rfl) rfl rfl ?_
      refine w_bipush (Ev.cm _) rfl ?_
      refine w_iload_n (Ev.cm _) rfl rfl ?_
      refine w_iadd (Ev.cm _) rfl ?_
      obtain ⟨b5, q⟩ := ois q
      refine w_iald (Ev.cm _) rfl (Nat.le_of_ble_eq_true rfl) rfl (show vp_in ((36 : Int32) + p0) 1541 from vpI 1541 (by decide) b5.1 b5.2) ?_
      refine w_ireturn (Ev.cm _) rfl trivial rf0 ?_
      cases q
      exact g
    · have c2_0 : ¬ p1 = 0 := sw_w c2_0 (by decide)
      have c2_1 : ¬ p1 = 1 := sw_w c2_1 (by decide)
      have c2_2 : ¬ p1 = 2 := sw_w c2_2 (by decide)
      have c2_3 : ¬ p1 = 3 := sw_w c2_3 (by decide)
      have c2_4 : ¬ p1 = 4 := sw_w c2_4 (by decide)
      rw [if_neg c2_0, if_neg c2_1, if_neg c2_2, if_neg c2_3, if_neg c2_4] at q
      show Wp _ _ _ _ _ _ _ 86 [(0, .ref 331), (1, .int p0), (2, .int p1)] [] (HS I L X)
      refine w_iconst (Ev.cm _) rfl ?_
      refine w_ireturn (Ev.cm _) rfl trivial rf0 ?_
      cases q
      exact g
  · have c1 : F_M_isLodger I p0 = 0 := c1
    rw [if_pos c1] at q
    refine w_iconst (Ev.cm _) rfl ?_
    refine w_ireturn (Ev.cm _) rfl trivial rf0 ?_
    cases q
    exact g
def FO_M_ticks (fu : Nat) (p0 : Int32) (p1 : Int32) (p2 : Int32) (I : Nat → Nat → Int32) (L : Nat → Nat → Int64) : Option (Int32 × (Nat → Nat → Int32) × (Nat → Nat → Int64)) := if F_M_isLodger I p0 = 0 then (some ((-1), I, L)) else (if 1 ≤ p1 ∧ p1 ≤ 12 then ((FO_M_ticksOf fu (I 332 2) p0 p1 p2 I L).bind (fun u1 => let r1 := u1.1; let I1 := u1.2.1; let L1 := u1.2.2; some (r1, I1, L1))) else (some ((-1), I, L)))
set_option maxHeartbeats 20000000 in
set_option maxRecDepth 20000 in
theorem eo_M_ticks {d fu : Nat} {p0 : Int32} {p1 : Int32} {p2 : Int32} {I : Nat → Nat → Int32} {L : Nat → Nat → Int64} {X : Nat × (Nat → Int32)} {Q : PQ} {res : Int32 × (Nat → Nat → Int32) × (Nat → Nat → Int64)}  (g : Q (some (.int res.1)) (HS res.2.1 res.2.2 X)) (q : FO_M_ticks fu p0 p1 p2 I L = some res) : Ev (d + 8) m_M_ticks [.ref 331, .int p0, .int p1, .int p2] (HS I L X) Q := by
  unfold FO_M_ticks at q
  refine ev_start (d := d + 7) rfl rfl rfl (Nat.le_of_ble_eq_true rfl) ?_
  show Wp (Ev (d + 7)) cd_M_ticks (0, 0) (some .int) _ _ Q 0 [(0, .ref 331), (1, .int p0), (2, .int p1), (3, .int p2)] [] (HS I L X)
  refine w_aload_n (Ev.cm _) rfl rfl ?_
  refine w_iload_n (Ev.cm _) rfl rfl ?_
  refine w_cvirt (o := 331) (as := [.int p0]) (st := []) (Ev.cm _) rfl rfl rfl (Nat.le_of_ble_eq_true rfl) (Nat.le_of_ble_eq_true rfl) rfl (Nat.le_of_ble_eq_true rfl) (e_M_isLodger ?_)
  show Wp _ _ _ _ _ _ _ 5 [(0, .ref 331), (1, .int p0), (2, .int p1), (3, .int p2)] [.int (F_M_isLodger I p0)] (HS I L X)
  refine w_if_eq (Ev.cm _) rfl (fun c1 => ?_) (fun c1 => ?_)
  · have c1 : F_M_isLodger I p0 = 0 := c1
    rw [if_pos c1] at q
    refine w_iconst (Ev.cm _) rfl ?_
    refine w_ireturn (Ev.cm _) rfl trivial rf0 ?_
    cases q
    exact g
  · have c1 : ¬ (F_M_isLodger I p0 = 0) := c1
    rw [if_neg c1] at q
    refine w_iload_n (Ev.cm _) rfl rfl ?_
    refine w_cstat (as := [.int p1]) (st := []) (Ev.cm _) rfl rfl rfl (Nat.le_of_ble_eq_true rfl) (Nat.le_of_ble_eq_true rfl) (m_isStair ?_)
    show Wp _ _ _ _ _ _ _ 12 [(0, .ref 331), (1, .int p0), (2, .int p1), (3, .int p2)] [.int (bI (1 ≤ p1 ∧ p1 ≤ 12))] (HS I L X)
    refine w_if_eq (Ev.cm _) rfl (fun c2 => ?_) (fun c2 => ?_)
    · have c2 : ¬ (1 ≤ p1 ∧ p1 ≤ 12) := bI_0.mp c2
      rw [if_neg c2] at q
      refine w_iconst (Ev.cm _) rfl ?_
      refine w_ireturn (Ev.cm _) rfl trivial rf0 ?_
      cases q
      exact g
    · have c2 : 1 ≤ p1 ∧ p1 ≤ 12 := bI_1.mp c2
      rw [if_pos c2] at q
      refine w_aload_n (Ev.cm _) rfl rfl ?_
      refine w_aload_n (Ev.cm _) rfl rfl ?_
      refine w_getR (q := 332) (Ev.cm _) rfl (Nat.le_of_ble_eq_true rfl) rfl rfl ?_
      refine w_iconst (Ev.cm _) rfl ?_
      refine w_iald (Ev.cm _) rfl (Nat.le_of_ble_eq_true rfl) rfl (show vp_in 2 1541 from vpI 1541 (by decide) (by decide) (by decide)) ?_
      refine w_iload_n (Ev.cm _) rfl rfl ?_
      refine w_iload_n (Ev.cm _) rfl rfl ?_
      refine w_iload_n (Ev.cm _) rfl rfl ?_
      obtain ⟨⟨r1, I1, L1⟩, e1, q⟩ := obs q
      dsimp only at q
      refine w_cvirt (o := 331) (as := [.int (I 332 2), .int p0, .int p1, .int p2]) (st := []) (Ev.cm _) rfl rfl rfl (Nat.le_of_ble_eq_true rfl) (Nat.le_of_ble_eq_true rfl) rfl (Nat.le_of_ble_eq_true rfl) (eo_M_ticksOf (g := ?_) e1)
      show Wp _ _ _ _ _ _ _ 28 [(0, .ref 331), (1, .int p0), (2, .int p1), (3, .int p2)] [.int r1] (HS I1 L1 X)
      refine w_goto (Ev.cm _) rfl ?_
      refine w_ireturn (Ev.cm _) rfl trivial rf0 ?_
      cases q
      exact g
def FO_M_hears (fu : Nat) (p0 : Int32) (I : Nat → Nat → Int32) (L : Nat → Nat → Int64) : Option (Int32 × (Nat → Nat → Int32) × (Nat → Nat → Int64)) := if 1 ≤ p0 ∧ p0 ≤ 12 then ((FO_M_hearsOf fu p0 I L).bind (fun u1 => let r1 := u1.1; let I1 := u1.2.1; let L1 := u1.2.2; some (r1, I1, L1))) else (some ((-1), I, L))
set_option maxHeartbeats 20000000 in
set_option maxRecDepth 20000 in
theorem eo_M_hears {d fu : Nat} {p0 : Int32} {I : Nat → Nat → Int32} {L : Nat → Nat → Int64} {X : Nat × (Nat → Int32)} {Q : PQ} {res : Int32 × (Nat → Nat → Int32) × (Nat → Nat → Int64)}  (g : Q (some (.int res.1)) (HS res.2.1 res.2.2 X)) (q : FO_M_hears fu p0 I L = some res) : Ev (d + 8) m_M_hears [.ref 331, .int p0] (HS I L X) Q := by
  unfold FO_M_hears at q
  refine ev_start (d := d + 7) rfl rfl rfl (Nat.le_of_ble_eq_true rfl) ?_
  show Wp (Ev (d + 7)) cd_M_hears (0, 0) (some .int) _ _ Q 0 [(0, .ref 331), (1, .int p0)] [] (HS I L X)
  refine w_iload_n (Ev.cm _) rfl rfl ?_
  refine w_cstat (as := [.int p0]) (st := []) (Ev.cm _) rfl rfl rfl (Nat.le_of_ble_eq_true rfl) (Nat.le_of_ble_eq_true rfl) (m_isStair ?_)
  show Wp _ _ _ _ _ _ _ 4 [(0, .ref 331), (1, .int p0)] [.int (bI (1 ≤ p0 ∧ p0 ≤ 12))] (HS I L X)
  refine w_if_eq (Ev.cm _) rfl (fun c1 => ?_) (fun c1 => ?_)
  · have c1 : ¬ (1 ≤ p0 ∧ p0 ≤ 12) := bI_0.mp c1
    rw [if_neg c1] at q
    refine w_iconst (Ev.cm _) rfl ?_
    refine w_ireturn (Ev.cm _) rfl trivial rf0 ?_
    cases q
    exact g
  · have c1 : 1 ≤ p0 ∧ p0 ≤ 12 := bI_1.mp c1
    rw [if_pos c1] at q
    refine w_aload_n (Ev.cm _) rfl rfl ?_
    refine w_iload_n (Ev.cm _) rfl rfl ?_
    obtain ⟨⟨r1, I1, L1⟩, e1, q⟩ := obs q
    dsimp only at q
    refine w_cvirt (o := 331) (as := [.int p0]) (st := []) (Ev.cm _) rfl rfl rfl (Nat.le_of_ble_eq_true rfl) (Nat.le_of_ble_eq_true rfl) rfl (Nat.le_of_ble_eq_true rfl) (eo_M_hearsOf (g := ?_) e1)
    show Wp _ _ _ _ _ _ _ 12 [(0, .ref 331), (1, .int p0)] [.int r1] (HS I1 L1 X)
    refine w_goto (Ev.cm _) rfl ?_
    refine w_ireturn (Ev.cm _) rfl trivial rf0 ?_
    cases q
    exact g
def FO_M_entry (fu : Nat) (p0 : Int32) (p1 : Int32) (I : Nat → Nat → Int32) (L : Nat → Nat → Int64) : Option (Int32 × (Nat → Nat → Int32) × (Nat → Nat → Int64)) := if 0 ≤ (1511 : Int32) + p0 ∧ (1511 : Int32) + p0 < 1541 then (if p1 = 0 then (some ((I 332 (((1511 : Int32) + p0).toNatClampNeg)) / 1300, I, L)) else (if p1 = 1 then (some (iR ((I 332 (((1511 : Int32) + p0).toNatClampNeg)) / 100) 13, I, L)) else (some (iR (I 332 (((1511 : Int32) + p0).toNatClampNeg)) 100, I, L)))) else none
set_option maxHeartbeats 20000000 in
set_option maxRecDepth 20000 in
theorem eo_M_entry {d fu : Nat} {p0 : Int32} {p1 : Int32} {I : Nat → Nat → Int32} {L : Nat → Nat → Int64} {X : Nat × (Nat → Int32)} {Q : PQ} {res : Int32 × (Nat → Nat → Int32) × (Nat → Nat → Int64)}  (g : Q (some (.int res.1)) (HS res.2.1 res.2.2 X)) (q : FO_M_entry fu p0 p1 I L = some res) : Ev (d + 1) m_M_entry [.ref 331, .int p0, .int p1] (HS I L X) Q := by
  unfold FO_M_entry at q
  refine ev_start (d := d + 0) rfl rfl rfl (Nat.le_of_ble_eq_true rfl) ?_
  show Wp (Ev (d + 0)) cd_M_entry (0, 0) (some .int) _ _ Q 0 [(0, .ref 331), (1, .int p0), (2, .int p1)] [] (HS I L X)
  refine w_aload_n (Ev.cm _) rfl rfl ?_
  refine w_getR (q := 332) (Ev.cm _) rfl (Nat.le_of_ble_eq_true rfl) rfl rfl ?_
  refine w_sipush (Ev.cm _) rfl ?_
  refine w_iload_n (Ev.cm _) rfl rfl ?_
  refine w_iadd (Ev.cm _) rfl ?_
  obtain ⟨b1, q⟩ := ois q
  refine w_iald (Ev.cm _) rfl (Nat.le_of_ble_eq_true rfl) rfl (show vp_in ((1511 : Int32) + p0) 1541 from vpI 1541 (by decide) b1.1 b1.2) ?_
  refine w_istore_n (ls2 := [(0, .ref 331), (1, .int p0), (2, .int p1), (3, .int (I 332 (((1511 : Int32) + p0).toNatClampNeg)))]) (Ev.cm _) rfl rfl ?_
  refine w_iload_n (Ev.cm _) rfl rfl ?_
  refine w_if_ne (Ev.cm _) rfl (fun c1 => ?_) (fun c1 => ?_)
  · have c1 : ¬ (p1 = 0) := c1
    rw [if_neg c1] at q
    refine w_iload_n (Ev.cm _) rfl rfl ?_
    refine w_iconst (Ev.cm _) rfl ?_
    refine w_icmp_ne (Ev.cm _) rfl (fun c2 => ?_) (fun c2 => ?_)
    · have c2 : ¬ (p1 = 1) := c2
      rw [if_neg c2] at q
      refine w_iload_n (Ev.cm _) rfl rfl ?_
      refine w_bipush (Ev.cm _) rfl ?_
      refine w_irem (Ev.cm _) rfl (by decide) ?_
      refine w_ireturn (Ev.cm _) rfl trivial rf0 ?_
      cases q
      exact g
    · have c2 : p1 = 1 := c2
      rw [if_pos c2] at q
      refine w_iload_n (Ev.cm _) rfl rfl ?_
      refine w_bipush (Ev.cm _) rfl ?_
      refine w_idiv (Ev.cm _) rfl (by decide) ?_
      refine w_bipush (Ev.cm _) rfl ?_
      refine w_irem (Ev.cm _) rfl (by decide) ?_
      refine w_goto (Ev.cm _) rfl ?_
      refine w_ireturn (Ev.cm _) rfl trivial rf0 ?_
      cases q
      exact g
  · have c1 : p1 = 0 := c1
    rw [if_pos c1] at q
    refine w_iload_n (Ev.cm _) rfl rfl ?_
    refine w_sipush (Ev.cm _) rfl ?_
    refine w_idiv (Ev.cm _) rfl (by decide) ?_
    refine w_goto (Ev.cm _) rfl ?_
    refine w_ireturn (Ev.cm _) rfl trivial rf0 ?_
    cases q
    exact g
def FO_M_book (fu : Nat) (p0 : Int32) (p1 : Int32) (I : Nat → Nat → Int32) (L : Nat → Nat → Int64) : Option (Int32 × (Nat → Nat → Int32) × (Nat → Nat → Int64)) := if p0 = (-1) then (some (I 332 11, I, L)) else (if (0 : Int32) ≤ p0 ∧ p0 ≤ ((I 332 11) - 1) then (if (0 : Int32) ≤ p1 ∧ p1 ≤ (2 : Int32) then ((FO_M_entry fu p0 p1 I L).bind (fun u1 => let r1 := u1.1; let I1 := u1.2.1; let L1 := u1.2.2; some (r1, I1, L1))) else (some ((-2), I, L))) else (some ((-2), I, L)))
set_option maxHeartbeats 20000000 in
set_option maxRecDepth 20000 in
theorem eo_M_book {d fu : Nat} {p0 : Int32} {p1 : Int32} {I : Nat → Nat → Int32} {L : Nat → Nat → Int64} {X : Nat × (Nat → Int32)} {Q : PQ} {res : Int32 × (Nat → Nat → Int32) × (Nat → Nat → Int64)}  (g : Q (some (.int res.1)) (HS res.2.1 res.2.2 X)) (q : FO_M_book fu p0 p1 I L = some res) : Ev (d + 2) m_M_book [.ref 331, .int p0, .int p1] (HS I L X) Q := by
  unfold FO_M_book at q
  refine ev_start (d := d + 1) rfl rfl rfl (Nat.le_of_ble_eq_true rfl) ?_
  show Wp (Ev (d + 1)) cd_M_book (0, 0) (some .int) _ _ Q 0 [(0, .ref 331), (1, .int p0), (2, .int p1)] [] (HS I L X)
  refine w_iload_n (Ev.cm _) rfl rfl ?_
  refine w_iconst (Ev.cm _) rfl ?_
  refine w_icmp_ne (Ev.cm _) rfl (fun c1 => ?_) (fun c1 => ?_)
  · have c1 : ¬ (p0 = (-1)) := c1
    rw [if_neg c1] at q
    refine w_iload_n (Ev.cm _) rfl rfl ?_
    refine w_iconst (Ev.cm _) rfl ?_
    refine w_aload_n (Ev.cm _) rfl rfl ?_
    refine w_getR (q := 332) (Ev.cm _) rfl (Nat.le_of_ble_eq_true rfl) rfl rfl ?_
    refine w_bipush (Ev.cm _) rfl ?_
    refine w_iald (Ev.cm _) rfl (Nat.le_of_ble_eq_true rfl) rfl (show vp_in 11 1541 from vpI 1541 (by decide) (by decide) (by decide)) ?_
    refine w_iconst (Ev.cm _) rfl ?_
    refine w_isub (Ev.cm _) rfl ?_
    refine w_cstat (as := [.int p0, .int 0, .int ((I 332 11) - 1)]) (st := []) (Ev.cm _) rfl rfl rfl (Nat.le_of_ble_eq_true rfl) (Nat.le_of_ble_eq_true rfl) (m_isIn ?_)
    show Wp _ _ _ _ _ _ _ 27 [(0, .ref 331), (1, .int p0), (2, .int p1)] [.int (bI ((0 : Int32) ≤ p0 ∧ p0 ≤ ((I 332 11) - 1)))] (HS I L X)
    refine w_if_eq (Ev.cm _) rfl (fun c2 => ?_) (fun c2 => ?_)
    · have c2 : ¬ ((0 : Int32) ≤ p0 ∧ p0 ≤ ((I 332 11) - 1)) := bI_0.mp c2
      rw [if_neg c2] at q
      refine w_bipush (Ev.cm _) rfl ?_
      refine w_ireturn (Ev.cm _) rfl trivial rf0 ?_
      cases q
      exact g
    · have c2 : (0 : Int32) ≤ p0 ∧ p0 ≤ ((I 332 11) - 1) := bI_1.mp c2
      rw [if_pos c2] at q
      refine w_iload_n (Ev.cm _) rfl rfl ?_
      refine w_iconst (Ev.cm _) rfl ?_
      refine w_iconst (Ev.cm _) rfl ?_
      refine w_cstat (as := [.int p1, .int 0, .int 2]) (st := []) (Ev.cm _) rfl rfl rfl (Nat.le_of_ble_eq_true rfl) (Nat.le_of_ble_eq_true rfl) (m_isIn ?_)
      show Wp _ _ _ _ _ _ _ 36 [(0, .ref 331), (1, .int p0), (2, .int p1)] [.int (bI ((0 : Int32) ≤ p1 ∧ p1 ≤ (2 : Int32)))] (HS I L X)
      refine w_if_eq (Ev.cm _) rfl (fun c3 => ?_) (fun c3 => ?_)
      · have c3 : ¬ ((0 : Int32) ≤ p1 ∧ p1 ≤ (2 : Int32)) := bI_0.mp c3
        rw [if_neg c3] at q
        refine w_bipush (Ev.cm _) rfl ?_
        refine w_ireturn (Ev.cm _) rfl trivial rf0 ?_
        cases q
        exact g
      · have c3 : (0 : Int32) ≤ p1 ∧ p1 ≤ (2 : Int32) := bI_1.mp c3
        rw [if_pos c3] at q
        refine w_aload_n (Ev.cm _) rfl rfl ?_
        refine w_iload_n (Ev.cm _) rfl rfl ?_
        refine w_iload_n (Ev.cm _) rfl rfl ?_
        obtain ⟨⟨r1, I1, L1⟩, e1, q⟩ := obs q
        dsimp only at q
        refine w_cvirt (o := 331) (as := [.int p0, .int p1]) (st := []) (Ev.cm _) rfl rfl rfl (Nat.le_of_ble_eq_true rfl) (Nat.le_of_ble_eq_true rfl) rfl (Nat.le_of_ble_eq_true rfl) (eo_M_entry (g := ?_) e1)
        show Wp _ _ _ _ _ _ _ 45 [(0, .ref 331), (1, .int p0), (2, .int p1)] [.int r1] (HS I1 L1 X)
        refine w_goto (Ev.cm _) rfl ?_
        refine w_ireturn (Ev.cm _) rfl trivial rf0 ?_
        cases q
        exact g
  · have c1 : p0 = (-1) := c1
    rw [if_pos c1] at q
    refine w_aload_n (Ev.cm _) rfl rfl ?_
    refine w_getR (q := 332) (Ev.cm _) rfl (Nat.le_of_ble_eq_true rfl) rfl rfl ?_
    refine w_bipush (Ev.cm _) rfl ?_
    refine w_iald (Ev.cm _) rfl (Nat.le_of_ble_eq_true rfl) rfl (show vp_in 11 1541 from vpI 1541 (by decide) (by decide) (by decide)) ?_
    refine w_ireturn (Ev.cm _) rfl trivial rf0 ?_
    cases q
    exact g
def LO_M_ledger_19 (fu : Nat) : Nat → Int32 → Int32 → Int32 → (Nat → Nat → Int32) → (Nat → Nat → Int64) → Option (Int32 × (Nat → Nat → Int32) × (Nat → Nat → Int64))
  | 0, _, _, _, _, _ => none
  | n + 1, x1, x2, x3, I, L => if I 332 11 ≤ x3 then (some (x2, I, L)) else (if x1 = (-1) then ((FO_M_entry fu x3 2 I L).bind (fun u1 => let r1 := u1.1; let I1 := u1.2.1; let L1 := u1.2.2; LO_M_ledger_19 fu n x1 (x2 + r1) (x3 + 1) I1 L1)) else ((FO_M_entry fu x3 1 I L).bind (fun u2 => let r2 := u2.1; let I2 := u2.2.1; let L2 := u2.2.2; if r2 = x1 then ((FO_M_entry fu x3 2 I2 L2).bind (fun u3 => let r3 := u3.1; let I3 := u3.2.1; let L3 := u3.2.2; LO_M_ledger_19 fu n x1 (x2 + r3) (x3 + 1) I3 L3)) else (LO_M_ledger_19 fu n x1 (x2 + 0) (x3 + 1) I2 L2))))
set_option maxHeartbeats 20000000 in
set_option maxRecDepth 20000 in
theorem lo_M_ledger_19 {d fu n0 s0 : Nat} {X : Nat × (Nat → Int32)} {Q : PQ} {res : Int32 × (Nat → Nat → Int32) × (Nat → Nat → Int64)}  (g : Q (some (.int res.1)) (HS res.2.1 res.2.2 X)) : ∀ (n : Nat) (x1 : Int32) (x2 : Int32) (x3 : Int32) (I : Nat → Nat → Int32) (L : Nat → Nat → Int64), LO_M_ledger_19 fu n x1 x2 x3 I L = some res → Wp (Ev (d + 2)) cd_M_ledger (0, 0) (some .int) n0 s0 Q 19 [(0, .ref 331), (1, .int x1), (2, .int x2), (3, .int x3)] [] (HS I L X) := by
  intro n
  induction n with
  | zero => intro _ _ _ _ _ q; cases q
  | succ n ih =>
    intro x1 x2 x3 I L q
    unfold LO_M_ledger_19 at q
    refine w_iload_n (Ev.cm _) rfl rfl ?_
    refine w_aload_n (Ev.cm _) rfl rfl ?_
    refine w_getR (q := 332) (Ev.cm _) rfl (Nat.le_of_ble_eq_true rfl) rfl rfl ?_
    refine w_bipush (Ev.cm _) rfl ?_
    refine w_iald (Ev.cm _) rfl (Nat.le_of_ble_eq_true rfl) rfl (show vp_in 11 1541 from vpI 1541 (by decide) (by decide) (by decide)) ?_
    refine w_icmp_ge (Ev.cm _) rfl (fun c1 => ?_) (fun c1 => ?_)
    · have c1 : I 332 11 ≤ x3 := c1
      rw [if_pos c1] at q
      refine w_iload_n (Ev.cm _) rfl rfl ?_
      refine w_ireturn (Ev.cm _) rfl trivial rf0 ?_
      cases q
      exact g
    · have c1 : ¬ (I 332 11 ≤ x3) := c1
      rw [if_neg c1] at q
      refine w_iload_n (Ev.cm _) rfl rfl ?_
      refine w_iload_n (Ev.cm _) rfl rfl ?_
      refine w_iconst (Ev.cm _) rfl ?_
      refine w_icmp_eq (Ev.cm _) rfl (fun c2 => ?_) (fun c2 => ?_)
      · have c2 : x1 = (-1) := c2
        rw [if_pos c2] at q
        refine w_aload_n (Ev.cm _) rfl rfl ?_
        refine w_iload_n (Ev.cm _) rfl rfl ?_
        refine w_iconst (Ev.cm _) rfl ?_
        obtain ⟨⟨r1, I1, L1⟩, e1, q⟩ := obs q
        dsimp only at q
        refine w_cvirt (o := 331) (as := [.int x3, .int 2]) (st := [.int x2]) (Ev.cm _) rfl rfl rfl (Nat.le_of_ble_eq_true rfl) (Nat.le_of_ble_eq_true rfl) rfl (Nat.le_of_ble_eq_true rfl) (eo_M_entry (g := ?_) e1)
        show Wp _ _ _ _ _ _ _ 52 [(0, .ref 331), (1, .int x1), (2, .int x2), (3, .int x3)] [.int r1, .int x2] (HS I1 L1 X)
        refine w_goto (Ev.cm _) rfl ?_
        refine w_iadd (Ev.cm _) rfl ?_
        refine w_istore_n (ls2 := [(0, .ref 331), (1, .int x1), (2, .int (x2 + r1)), (3, .int x3)]) (Ev.cm _) rfl rfl ?_
        refine w_iinc (ls2 := [(0, .ref 331), (1, .int x1), (2, .int (x2 + r1)), (3, .int (x3 + 1))]) (Ev.cm _) rfl rfl rfl ?_
        refine w_goto (Ev.cm _) rfl ?_
        show Wp _ _ _ _ _ _ _ 19 [(0, .ref 331), (1, .int x1), (2, .int (x2 + r1)), (3, .int (x3 + 1))] [] (HS I1 L1 X)
        refine Wp.sub [0, 1, 2, 3] (ls2 := [(0, .ref 331), (1, .int x1), (2, .int (x2 + r1)), (3, .int (x3 + 1))]) rfl ?_
        exact ih _ _ _ _ _ q
      · have c2 : ¬ (x1 = (-1)) := c2
        rw [if_neg c2] at q
        refine w_aload_n (Ev.cm _) rfl rfl ?_
        refine w_iload_n (Ev.cm _) rfl rfl ?_
        refine w_iconst (Ev.cm _) rfl ?_
        obtain ⟨⟨r2, I2, L2⟩, e2, q⟩ := obs q
        dsimp only at q
        refine w_cvirt (o := 331) (as := [.int x3, .int 1]) (st := [.int x2]) (Ev.cm _) rfl rfl rfl (Nat.le_of_ble_eq_true rfl) (Nat.le_of_ble_eq_true rfl) rfl (Nat.le_of_ble_eq_true rfl) (eo_M_entry (g := ?_) e2)
        show Wp _ _ _ _ _ _ _ 42 [(0, .ref 331), (1, .int x1), (2, .int x2), (3, .int x3)] [.int r2, .int x2] (HS I2 L2 X)
        refine w_iload_n (Ev.cm _) rfl rfl ?_
        refine w_icmp_ne (Ev.cm _) rfl (fun c3 => ?_) (fun c3 => ?_)
        · have c3 : ¬ (r2 = x1) := c3
          rw [if_neg c3] at q
          refine w_iconst (Ev.cm _) rfl ?_
          refine w_iadd (Ev.cm _) rfl ?_
          refine w_istore_n (ls2 := [(0, .ref 331), (1, .int x1), (2, .int (x2 + 0)), (3, .int x3)]) (Ev.cm _) rfl rfl ?_
          refine w_iinc (ls2 := [(0, .ref 331), (1, .int x1), (2, .int (x2 + 0)), (3, .int (x3 + 1))]) (Ev.cm _) rfl rfl rfl ?_
          refine w_goto (Ev.cm _) rfl ?_
          show Wp _ _ _ _ _ _ _ 19 [(0, .ref 331), (1, .int x1), (2, .int (x2 + 0)), (3, .int (x3 + 1))] [] (HS I2 L2 X)
          refine Wp.sub [0, 1, 2, 3] (ls2 := [(0, .ref 331), (1, .int x1), (2, .int (x2 + 0)), (3, .int (x3 + 1))]) rfl ?_
          exact ih _ _ _ _ _ q
        · have c3 : r2 = x1 := c3
          rw [if_pos c3] at q
          refine w_aload_n (Ev.cm _) rfl rfl ?_
          refine w_iload_n (Ev.cm _) rfl rfl ?_
          refine w_iconst (Ev.cm _) rfl ?_
          obtain ⟨⟨r3, I3, L3⟩, e3, q⟩ := obs q
          dsimp only at q
          refine w_cvirt (o := 331) (as := [.int x3, .int 2]) (st := [.int x2]) (Ev.cm _) rfl rfl rfl (Nat.le_of_ble_eq_true rfl) (Nat.le_of_ble_eq_true rfl) rfl (Nat.le_of_ble_eq_true rfl) (eo_M_entry (g := ?_) e3)
          show Wp _ _ _ _ _ _ _ 52 [(0, .ref 331), (1, .int x1), (2, .int x2), (3, .int x3)] [.int r3, .int x2] (HS I3 L3 X)
          refine w_goto (Ev.cm _) rfl ?_
          refine w_iadd (Ev.cm _) rfl ?_
          refine w_istore_n (ls2 := [(0, .ref 331), (1, .int x1), (2, .int (x2 + r3)), (3, .int x3)]) (Ev.cm _) rfl rfl ?_
          refine w_iinc (ls2 := [(0, .ref 331), (1, .int x1), (2, .int (x2 + r3)), (3, .int (x3 + 1))]) (Ev.cm _) rfl rfl rfl ?_
          refine w_goto (Ev.cm _) rfl ?_
          show Wp _ _ _ _ _ _ _ 19 [(0, .ref 331), (1, .int x1), (2, .int (x2 + r3)), (3, .int (x3 + 1))] [] (HS I3 L3 X)
          refine Wp.sub [0, 1, 2, 3] (ls2 := [(0, .ref 331), (1, .int x1), (2, .int (x2 + r3)), (3, .int (x3 + 1))]) rfl ?_
          exact ih _ _ _ _ _ q
def FO_M_ledger (fu : Nat) (p0 : Int32) (I : Nat → Nat → Int32) (L : Nat → Nat → Int64) : Option (Int32 × (Nat → Nat → Int32) × (Nat → Nat → Int64)) := if p0 = (-1) then (LO_M_ledger_19 fu fu p0 0 0 I L) else (if 1 ≤ p0 ∧ p0 ≤ 12 then (LO_M_ledger_19 fu fu p0 0 0 I L) else (some ((-2), I, L)))
set_option maxHeartbeats 20000000 in
set_option maxRecDepth 20000 in
theorem eo_M_ledger {d fu : Nat} {p0 : Int32} {I : Nat → Nat → Int32} {L : Nat → Nat → Int64} {X : Nat × (Nat → Int32)} {Q : PQ} {res : Int32 × (Nat → Nat → Int32) × (Nat → Nat → Int64)}  (g : Q (some (.int res.1)) (HS res.2.1 res.2.2 X)) (q : FO_M_ledger fu p0 I L = some res) : Ev (d + 3) m_M_ledger [.ref 331, .int p0] (HS I L X) Q := by
  unfold FO_M_ledger at q
  refine ev_start (d := d + 2) rfl rfl rfl (Nat.le_of_ble_eq_true rfl) ?_
  show Wp (Ev (d + 2)) cd_M_ledger (0, 0) (some .int) _ _ Q 0 [(0, .ref 331), (1, .int p0)] [] (HS I L X)
  refine w_iload_n (Ev.cm _) rfl rfl ?_
  refine w_iconst (Ev.cm _) rfl ?_
  refine w_icmp_eq (Ev.cm _) rfl (fun c1 => ?_) (fun c1 => ?_)
  · have c1 : p0 = (-1) := c1
    rw [if_pos c1] at q
    refine w_iconst (Ev.cm _) rfl ?_
    refine w_istore_n (ls2 := [(0, .ref 331), (1, .int p0), (2, .int 0)]) (Ev.cm _) rfl rfl ?_
    refine w_iconst (Ev.cm _) rfl ?_
    refine w_istore_n (ls2 := [(0, .ref 331), (1, .int p0), (2, .int 0), (3, .int 0)]) (Ev.cm _) rfl rfl ?_
    show Wp _ _ _ _ _ _ _ 19 [(0, .ref 331), (1, .int p0), (2, .int 0), (3, .int 0)] [] (HS I L X)
    refine Wp.sub [0, 1, 2, 3] (ls2 := [(0, .ref 331), (1, .int p0), (2, .int 0), (3, .int 0)]) rfl ?_
    exact lo_M_ledger_19 g fu _ _ _ _ _ q
  · have c1 : ¬ (p0 = (-1)) := c1
    rw [if_neg c1] at q
    refine w_iload_n (Ev.cm _) rfl rfl ?_
    refine w_cstat (as := [.int p0]) (st := []) (Ev.cm _) rfl rfl rfl (Nat.le_of_ble_eq_true rfl) (Nat.le_of_ble_eq_true rfl) (m_isStair ?_)
    show Wp _ _ _ _ _ _ _ 9 [(0, .ref 331), (1, .int p0)] [.int (bI (1 ≤ p0 ∧ p0 ≤ 12))] (HS I L X)
    refine w_if_ne (Ev.cm _) rfl (fun c2 => ?_) (fun c2 => ?_)
    · have c2 : 1 ≤ p0 ∧ p0 ≤ 12 := bI_1.mp c2
      rw [if_pos c2] at q
      refine w_iconst (Ev.cm _) rfl ?_
      refine w_istore_n (ls2 := [(0, .ref 331), (1, .int p0), (2, .int 0)]) (Ev.cm _) rfl rfl ?_
      refine w_iconst (Ev.cm _) rfl ?_
      refine w_istore_n (ls2 := [(0, .ref 331), (1, .int p0), (2, .int 0), (3, .int 0)]) (Ev.cm _) rfl rfl ?_
      show Wp _ _ _ _ _ _ _ 19 [(0, .ref 331), (1, .int p0), (2, .int 0), (3, .int 0)] [] (HS I L X)
      refine Wp.sub [0, 1, 2, 3] (ls2 := [(0, .ref 331), (1, .int p0), (2, .int 0), (3, .int 0)]) rfl ?_
      exact lo_M_ledger_19 g fu _ _ _ _ _ q
    · have c2 : ¬ (1 ≤ p0 ∧ p0 ≤ 12) := bI_0.mp c2
      rw [if_neg c2] at q
      refine w_bipush (Ev.cm _) rfl ?_
      refine w_ireturn (Ev.cm _) rfl trivial rf0 ?_
      cases q
      exact g
def LO_M_pause_4 (fu : Nat) : Nat → Int32 → Int32 → (Nat → Nat → Int32) → (Nat → Nat → Int64) → Option (Int32 × (Nat → Nat → Int32) × (Nat → Nat → Int64))
  | 0, _, _, _, _ => none
  | n + 1, x1, x2, I, L => if I 332 11 ≤ x2 then (some (x1, I, L)) else ((FO_M_entry fu x2 0 I L).bind (fun u1 => let r1 := u1.1; let I1 := u1.2.1; let L1 := u1.2.2; (FO_M_entry fu (x2 - 1) 0 I1 L1).bind (fun u2 => let r2 := u2.1; let I2 := u2.2.1; let L2 := u2.2.2; if r1 - r2 ≤ x1 then (LO_M_pause_4 fu n x1 (x2 + 1) I2 L2) else ((FO_M_entry fu x2 0 I2 L2).bind (fun u3 => let r3 := u3.1; let I3 := u3.2.1; let L3 := u3.2.2; (FO_M_entry fu (x2 - 1) 0 I3 L3).bind (fun u4 => let r4 := u4.1; let I4 := u4.2.1; let L4 := u4.2.2; LO_M_pause_4 fu n (r3 - r4) (x2 + 1) I4 L4))))))
set_option maxHeartbeats 20000000 in
set_option maxRecDepth 20000 in
theorem lo_M_pause_4 {d fu n0 s0 : Nat} {X : Nat × (Nat → Int32)} {Q : PQ} {res : Int32 × (Nat → Nat → Int32) × (Nat → Nat → Int64)}  (g : Q (some (.int res.1)) (HS res.2.1 res.2.2 X)) : ∀ (n : Nat) (x1 : Int32) (x2 : Int32) (I : Nat → Nat → Int32) (L : Nat → Nat → Int64), LO_M_pause_4 fu n x1 x2 I L = some res → Wp (Ev (d + 1)) cd_M_pause (0, 0) (some .int) n0 s0 Q 4 [(0, .ref 331), (1, .int x1), (2, .int x2)] [] (HS I L X) := by
  intro n
  induction n with
  | zero => intro _ _ _ _ q; cases q
  | succ n ih =>
    intro x1 x2 I L q
    unfold LO_M_pause_4 at q
    refine w_iload_n (Ev.cm _) rfl rfl ?_
    refine w_aload_n (Ev.cm _) rfl rfl ?_
    refine w_getR (q := 332) (Ev.cm _) rfl (Nat.le_of_ble_eq_true rfl) rfl rfl ?_
    refine w_bipush (Ev.cm _) rfl ?_
    refine w_iald (Ev.cm _) rfl (Nat.le_of_ble_eq_true rfl) rfl (show vp_in 11 1541 from vpI 1541 (by decide) (by decide) (by decide)) ?_
    refine w_icmp_ge (Ev.cm _) rfl (fun c1 => ?_) (fun c1 => ?_)
    · have c1 : I 332 11 ≤ x2 := c1
      rw [if_pos c1] at q
      refine w_iload_n (Ev.cm _) rfl rfl ?_
      refine w_ireturn (Ev.cm _) rfl trivial rf0 ?_
      cases q
      exact g
    · have c1 : ¬ (I 332 11 ≤ x2) := c1
      rw [if_neg c1] at q
      refine w_aload_n (Ev.cm _) rfl rfl ?_
      refine w_iload_n (Ev.cm _) rfl rfl ?_
      refine w_iconst (Ev.cm _) rfl ?_
      obtain ⟨⟨r1, I1, L1⟩, e1, q⟩ := obs q
      dsimp only at q
      refine w_cvirt (o := 331) (as := [.int x2, .int 0]) (st := []) (Ev.cm _) rfl rfl rfl (Nat.le_of_ble_eq_true rfl) (Nat.le_of_ble_eq_true rfl) rfl (Nat.le_of_ble_eq_true rfl) (eo_M_entry (g := ?_) e1)
      show Wp _ _ _ _ _ _ _ 21 [(0, .ref 331), (1, .int x1), (2, .int x2)] [.int r1] (HS I1 L1 X)
      refine w_aload_n (Ev.cm _) rfl rfl ?_
      refine w_iload_n (Ev.cm _) rfl rfl ?_
      refine w_iconst (Ev.cm _) rfl ?_
      refine w_isub (Ev.cm _) rfl ?_
      refine w_iconst (Ev.cm _) rfl ?_
      obtain ⟨⟨r2, I2, L2⟩, e2, q⟩ := obs q
      dsimp only at q
      refine w_cvirt (o := 331) (as := [.int (x2 - 1), .int 0]) (st := [.int r1]) (Ev.cm _) rfl rfl rfl (Nat.le_of_ble_eq_true rfl) (Nat.le_of_ble_eq_true rfl) rfl (Nat.le_of_ble_eq_true rfl) (eo_M_entry (g := ?_) e2)
      show Wp _ _ _ _ _ _ _ 29 [(0, .ref 331), (1, .int x1), (2, .int x2)] [.int r2, .int r1] (HS I2 L2 X)
      refine w_isub (Ev.cm _) rfl ?_
      refine w_iload_n (Ev.cm _) rfl rfl ?_
      refine w_icmp_le (Ev.cm _) rfl (fun c2 => ?_) (fun c2 => ?_)
      · have c2 : r1 - r2 ≤ x1 := c2
        rw [if_pos c2] at q
        refine w_iload_n (Ev.cm _) rfl rfl ?_
        refine w_istore_n (ls2 := [(0, .ref 331), (1, .int x1), (2, .int x2)]) (Ev.cm _) rfl rfl ?_
        refine w_iinc (ls2 := [(0, .ref 331), (1, .int x1), (2, .int (x2 + 1))]) (Ev.cm _) rfl rfl rfl ?_
        refine w_goto (Ev.cm _) rfl ?_
        show Wp _ _ _ _ _ _ _ 4 [(0, .ref 331), (1, .int x1), (2, .int (x2 + 1))] [] (HS I2 L2 X)
        refine Wp.sub [0, 1, 2] (ls2 := [(0, .ref 331), (1, .int x1), (2, .int (x2 + 1))]) rfl ?_
        exact ih _ _ _ _ q
      · have c2 : ¬ (r1 - r2 ≤ x1) := c2
        rw [if_neg c2] at q
        refine w_aload_n (Ev.cm _) rfl rfl ?_
        refine w_iload_n (Ev.cm _) rfl rfl ?_
        refine w_iconst (Ev.cm _) rfl ?_
        obtain ⟨⟨r3, I3, L3⟩, e3, q⟩ := obs q
        dsimp only at q
        refine w_cvirt (o := 331) (as := [.int x2, .int 0]) (st := []) (Ev.cm _) rfl rfl rfl (Nat.le_of_ble_eq_true rfl) (Nat.le_of_ble_eq_true rfl) rfl (Nat.le_of_ble_eq_true rfl) (eo_M_entry (g := ?_) e3)
        show Wp _ _ _ _ _ _ _ 40 [(0, .ref 331), (1, .int x1), (2, .int x2)] [.int r3] (HS I3 L3 X)
        refine w_aload_n (Ev.cm _) rfl rfl ?_
        refine w_iload_n (Ev.cm _) rfl rfl ?_
        refine w_iconst (Ev.cm _) rfl ?_
        refine w_isub (Ev.cm _) rfl ?_
        refine w_iconst (Ev.cm _) rfl ?_
        obtain ⟨⟨r4, I4, L4⟩, e4, q⟩ := obs q
        dsimp only at q
        refine w_cvirt (o := 331) (as := [.int (x2 - 1), .int 0]) (st := [.int r3]) (Ev.cm _) rfl rfl rfl (Nat.le_of_ble_eq_true rfl) (Nat.le_of_ble_eq_true rfl) rfl (Nat.le_of_ble_eq_true rfl) (eo_M_entry (g := ?_) e4)
        show Wp _ _ _ _ _ _ _ 48 [(0, .ref 331), (1, .int x1), (2, .int x2)] [.int r4, .int r3] (HS I4 L4 X)
        refine w_isub (Ev.cm _) rfl ?_
        refine w_goto (Ev.cm _) rfl ?_
        refine w_istore_n (ls2 := [(0, .ref 331), (1, .int (r3 - r4)), (2, .int x2)]) (Ev.cm _) rfl rfl ?_
        refine w_iinc (ls2 := [(0, .ref 331), (1, .int (r3 - r4)), (2, .int (x2 + 1))]) (Ev.cm _) rfl rfl rfl ?_
        refine w_goto (Ev.cm _) rfl ?_
        show Wp _ _ _ _ _ _ _ 4 [(0, .ref 331), (1, .int (r3 - r4)), (2, .int (x2 + 1))] [] (HS I4 L4 X)
        refine Wp.sub [0, 1, 2] (ls2 := [(0, .ref 331), (1, .int (r3 - r4)), (2, .int (x2 + 1))]) rfl ?_
        exact ih _ _ _ _ q
def FO_M_pause (fu : Nat) (I : Nat → Nat → Int32) (L : Nat → Nat → Int64) : Option (Int32 × (Nat → Nat → Int32) × (Nat → Nat → Int64)) := LO_M_pause_4 fu fu (-1) 1 I L
set_option maxHeartbeats 20000000 in
set_option maxRecDepth 20000 in
theorem eo_M_pause {d fu : Nat} {I : Nat → Nat → Int32} {L : Nat → Nat → Int64} {X : Nat × (Nat → Int32)} {Q : PQ} {res : Int32 × (Nat → Nat → Int32) × (Nat → Nat → Int64)}  (g : Q (some (.int res.1)) (HS res.2.1 res.2.2 X)) (q : FO_M_pause fu  I L = some res) : Ev (d + 2) m_M_pause [.ref 331] (HS I L X) Q := by
  unfold FO_M_pause at q
  refine ev_start (d := d + 1) rfl rfl rfl (Nat.le_of_ble_eq_true rfl) ?_
  show Wp (Ev (d + 1)) cd_M_pause (0, 0) (some .int) _ _ Q 0 [(0, .ref 331)] [] (HS I L X)
  refine w_iconst (Ev.cm _) rfl ?_
  refine w_istore_n (ls2 := [(0, .ref 331), (1, .int (-1))]) (Ev.cm _) rfl rfl ?_
  refine w_iconst (Ev.cm _) rfl ?_
  refine w_istore_n (ls2 := [(0, .ref 331), (1, .int (-1)), (2, .int 1)]) (Ev.cm _) rfl rfl ?_
  show Wp _ _ _ _ _ _ _ 4 [(0, .ref 331), (1, .int (-1)), (2, .int 1)] [] (HS I L X)
  refine Wp.sub [0, 1, 2] (ls2 := [(0, .ref 331), (1, .int (-1)), (2, .int 1)]) rfl ?_
  exact lo_M_pause_4 g fu _ _ _ _ q
def LO_M_highest_4 (fu : Nat) : Nat → Int32 → Int32 → (Nat → Nat → Int32) → (Nat → Nat → Int64) → Option (Int32 × (Nat → Nat → Int32) × (Nat → Nat → Int64))
  | 0, _, _, _, _ => none
  | n + 1, x1, x2, I, L => if I 332 0 ≤ x2 then (some (x1, I, L)) else ((FO_M_placeOf fu x2 I L).bind (fun u1 => let r1 := u1.1; let I1 := u1.2.1; let L1 := u1.2.2; if x1 = (-1) then (if r1 ≤ 0 then (LO_M_highest_4 fu n x1 (x2 + 1) I1 L1) else (LO_M_highest_4 fu n x2 (x2 + 1) I1 L1)) else ((FO_M_placeOf fu x1 I1 L1).bind (fun u2 => let r2 := u2.1; let I2 := u2.2.1; let L2 := u2.2.2; if r1 ≤ r2 then (LO_M_highest_4 fu n x1 (x2 + 1) I2 L2) else (LO_M_highest_4 fu n x2 (x2 + 1) I2 L2)))))
set_option maxHeartbeats 20000000 in
set_option maxRecDepth 20000 in
theorem lo_M_highest_4 {d fu n0 s0 : Nat} {X : Nat × (Nat → Int32)} {Q : PQ} {res : Int32 × (Nat → Nat → Int32) × (Nat → Nat → Int64)}  (g : Q (some (.int res.1)) (HS res.2.1 res.2.2 X)) : ∀ (n : Nat) (x1 : Int32) (x2 : Int32) (I : Nat → Nat → Int32) (L : Nat → Nat → Int64), LO_M_highest_4 fu n x1 x2 I L = some res → Wp (Ev (d + 1)) cd_M_highest (0, 0) (some .int) n0 s0 Q 4 [(0, .ref 331), (1, .int x1), (2, .int x2)] [] (HS I L X) := by
  intro n
  induction n with
  | zero => intro _ _ _ _ q; cases q
  | succ n ih =>
    intro x1 x2 I L q
    unfold LO_M_highest_4 at q
    refine w_iload_n (Ev.cm _) rfl rfl ?_
    refine w_aload_n (Ev.cm _) rfl rfl ?_
    refine w_getR (q := 332) (Ev.cm _) rfl (Nat.le_of_ble_eq_true rfl) rfl rfl ?_
    refine w_iconst (Ev.cm _) rfl ?_
    refine w_iald (Ev.cm _) rfl (Nat.le_of_ble_eq_true rfl) rfl (show vp_in 0 1541 from vpI 1541 (by decide) (by decide) (by decide)) ?_
    refine w_icmp_ge (Ev.cm _) rfl (fun c1 => ?_) (fun c1 => ?_)
    · have c1 : I 332 0 ≤ x2 := c1
      rw [if_pos c1] at q
      refine w_iload_n (Ev.cm _) rfl rfl ?_
      refine w_ireturn (Ev.cm _) rfl trivial rf0 ?_
      cases q
      exact g
    · have c1 : ¬ (I 332 0 ≤ x2) := c1
      rw [if_neg c1] at q
      refine w_aload_n (Ev.cm _) rfl rfl ?_
      refine w_iload_n (Ev.cm _) rfl rfl ?_
      obtain ⟨⟨r1, I1, L1⟩, e1, q⟩ := obs q
      dsimp only at q
      refine w_cvirt (o := 331) (as := [.int x2]) (st := []) (Ev.cm _) rfl rfl rfl (Nat.le_of_ble_eq_true rfl) (Nat.le_of_ble_eq_true rfl) rfl (Nat.le_of_ble_eq_true rfl) (eo_M_placeOf (g := ?_) e1)
      show Wp _ _ _ _ _ _ _ 19 [(0, .ref 331), (1, .int x1), (2, .int x2)] [.int r1] (HS I1 L1 X)
      refine w_iload_n (Ev.cm _) rfl rfl ?_
      refine w_iconst (Ev.cm _) rfl ?_
      refine w_icmp_ne (Ev.cm _) rfl (fun c2 => ?_) (fun c2 => ?_)
      · have c2 : ¬ (x1 = (-1)) := c2
        rw [if_neg c2] at q
        refine w_aload_n (Ev.cm _) rfl rfl ?_
        refine w_iload_n (Ev.cm _) rfl rfl ?_
        obtain ⟨⟨r2, I2, L2⟩, e2, q⟩ := obs q
        dsimp only at q
        refine w_cvirt (o := 331) (as := [.int x1]) (st := [.int r1]) (Ev.cm _) rfl rfl rfl (Nat.le_of_ble_eq_true rfl) (Nat.le_of_ble_eq_true rfl) rfl (Nat.le_of_ble_eq_true rfl) (eo_M_placeOf (g := ?_) e2)
        show Wp _ _ _ _ _ _ _ 33 [(0, .ref 331), (1, .int x1), (2, .int x2)] [.int r2, .int r1] (HS I2 L2 X)
        refine w_icmp_le (Ev.cm _) rfl (fun c3 => ?_) (fun c3 => ?_)
        · have c3 : r1 ≤ r2 := c3
          rw [if_pos c3] at q
          refine w_iinc (ls2 := [(0, .ref 331), (1, .int x1), (2, .int (x2 + 1))]) (Ev.cm _) rfl rfl rfl ?_
          refine w_goto (Ev.cm _) rfl ?_
          show Wp _ _ _ _ _ _ _ 4 [(0, .ref 331), (1, .int x1), (2, .int (x2 + 1))] [] (HS I2 L2 X)
          refine Wp.sub [0, 1, 2] (ls2 := [(0, .ref 331), (1, .int x1), (2, .int (x2 + 1))]) rfl ?_
          exact ih _ _ _ _ q
        · have c3 : ¬ (r1 ≤ r2) := c3
          rw [if_neg c3] at q
          refine w_iload_n (Ev.cm _) rfl rfl ?_
          refine w_istore_n (ls2 := [(0, .ref 331), (1, .int x2), (2, .int x2)]) (Ev.cm _) rfl rfl ?_
          refine w_iinc (ls2 := [(0, .ref 331), (1, .int x2), (2, .int (x2 + 1))]) (Ev.cm _) rfl rfl rfl ?_
          refine w_goto (Ev.cm _) rfl ?_
          show Wp _ _ _ _ _ _ _ 4 [(0, .ref 331), (1, .int x2), (2, .int (x2 + 1))] [] (HS I2 L2 X)
          refine Wp.sub [0, 1, 2] (ls2 := [(0, .ref 331), (1, .int x2), (2, .int (x2 + 1))]) rfl ?_
          exact ih _ _ _ _ q
      · have c2 : x1 = (-1) := c2
        rw [if_pos c2] at q
        refine w_iconst (Ev.cm _) rfl ?_
        refine w_goto (Ev.cm _) rfl ?_
        refine w_icmp_le (Ev.cm _) rfl (fun c4 => ?_) (fun c4 => ?_)
        · have c4 : r1 ≤ 0 := c4
          rw [if_pos c4] at q
          refine w_iinc (ls2 := [(0, .ref 331), (1, .int x1), (2, .int (x2 + 1))]) (Ev.cm _) rfl rfl rfl ?_
          refine w_goto (Ev.cm _) rfl ?_
          show Wp _ _ _ _ _ _ _ 4 [(0, .ref 331), (1, .int x1), (2, .int (x2 + 1))] [] (HS I1 L1 X)
          refine Wp.sub [0, 1, 2] (ls2 := [(0, .ref 331), (1, .int x1), (2, .int (x2 + 1))]) rfl ?_
          exact ih _ _ _ _ q
        · have c4 : ¬ (r1 ≤ 0) := c4
          rw [if_neg c4] at q
          refine w_iload_n (Ev.cm _) rfl rfl ?_
          refine w_istore_n (ls2 := [(0, .ref 331), (1, .int x2), (2, .int x2)]) (Ev.cm _) rfl rfl ?_
          refine w_iinc (ls2 := [(0, .ref 331), (1, .int x2), (2, .int (x2 + 1))]) (Ev.cm _) rfl rfl rfl ?_
          refine w_goto (Ev.cm _) rfl ?_
          show Wp _ _ _ _ _ _ _ 4 [(0, .ref 331), (1, .int x2), (2, .int (x2 + 1))] [] (HS I1 L1 X)
          refine Wp.sub [0, 1, 2] (ls2 := [(0, .ref 331), (1, .int x2), (2, .int (x2 + 1))]) rfl ?_
          exact ih _ _ _ _ q
def FO_M_highest (fu : Nat) (I : Nat → Nat → Int32) (L : Nat → Nat → Int64) : Option (Int32 × (Nat → Nat → Int32) × (Nat → Nat → Int64)) := LO_M_highest_4 fu fu (-1) 0 I L
set_option maxHeartbeats 20000000 in
set_option maxRecDepth 20000 in
theorem eo_M_highest {d fu : Nat} {I : Nat → Nat → Int32} {L : Nat → Nat → Int64} {X : Nat × (Nat → Int32)} {Q : PQ} {res : Int32 × (Nat → Nat → Int32) × (Nat → Nat → Int64)}  (g : Q (some (.int res.1)) (HS res.2.1 res.2.2 X)) (q : FO_M_highest fu  I L = some res) : Ev (d + 2) m_M_highest [.ref 331] (HS I L X) Q := by
  unfold FO_M_highest at q
  refine ev_start (d := d + 1) rfl rfl rfl (Nat.le_of_ble_eq_true rfl) ?_
  show Wp (Ev (d + 1)) cd_M_highest (0, 0) (some .int) _ _ Q 0 [(0, .ref 331)] [] (HS I L X)
  refine w_iconst (Ev.cm _) rfl ?_
  refine w_istore_n (ls2 := [(0, .ref 331), (1, .int (-1))]) (Ev.cm _) rfl rfl ?_
  refine w_iconst (Ev.cm _) rfl ?_
  refine w_istore_n (ls2 := [(0, .ref 331), (1, .int (-1)), (2, .int 0)]) (Ev.cm _) rfl rfl ?_
  show Wp _ _ _ _ _ _ _ 4 [(0, .ref 331), (1, .int (-1)), (2, .int 0)] [] (HS I L X)
  refine Wp.sub [0, 1, 2] (ls2 := [(0, .ref 331), (1, .int (-1)), (2, .int 0)]) rfl ?_
  exact lo_M_highest_4 g fu _ _ _ _ q
def LO_M_restless_4 (fu : Nat) : Nat → Int32 → Int32 → (Nat → Nat → Int32) → (Nat → Nat → Int64) → Option (Int32 × (Nat → Nat → Int32) × (Nat → Nat → Int64))
  | 0, _, _, _, _ => none
  | n + 1, x1, x2, I, L => if I 332 0 ≤ x2 then (some (x1, I, L)) else ((FO_M_trod fu x2 I L).bind (fun u1 => let r1 := u1.1; let I1 := u1.2.1; let L1 := u1.2.2; if x1 = (-1) then (if r1 ≤ 0 then (LO_M_restless_4 fu n x1 (x2 + 1) I1 L1) else (LO_M_restless_4 fu n x2 (x2 + 1) I1 L1)) else ((FO_M_trod fu x1 I1 L1).bind (fun u2 => let r2 := u2.1; let I2 := u2.2.1; let L2 := u2.2.2; if r1 ≤ r2 then (LO_M_restless_4 fu n x1 (x2 + 1) I2 L2) else (LO_M_restless_4 fu n x2 (x2 + 1) I2 L2)))))
set_option maxHeartbeats 20000000 in
set_option maxRecDepth 20000 in
theorem lo_M_restless_4 {d fu n0 s0 : Nat} {X : Nat × (Nat → Int32)} {Q : PQ} {res : Int32 × (Nat → Nat → Int32) × (Nat → Nat → Int64)}  (g : Q (some (.int res.1)) (HS res.2.1 res.2.2 X)) : ∀ (n : Nat) (x1 : Int32) (x2 : Int32) (I : Nat → Nat → Int32) (L : Nat → Nat → Int64), LO_M_restless_4 fu n x1 x2 I L = some res → Wp (Ev (d + 1)) cd_M_restless (0, 0) (some .int) n0 s0 Q 4 [(0, .ref 331), (1, .int x1), (2, .int x2)] [] (HS I L X) := by
  intro n
  induction n with
  | zero => intro _ _ _ _ q; cases q
  | succ n ih =>
    intro x1 x2 I L q
    unfold LO_M_restless_4 at q
    refine w_iload_n (Ev.cm _) rfl rfl ?_
    refine w_aload_n (Ev.cm _) rfl rfl ?_
    refine w_getR (q := 332) (Ev.cm _) rfl (Nat.le_of_ble_eq_true rfl) rfl rfl ?_
    refine w_iconst (Ev.cm _) rfl ?_
    refine w_iald (Ev.cm _) rfl (Nat.le_of_ble_eq_true rfl) rfl (show vp_in 0 1541 from vpI 1541 (by decide) (by decide) (by decide)) ?_
    refine w_icmp_ge (Ev.cm _) rfl (fun c1 => ?_) (fun c1 => ?_)
    · have c1 : I 332 0 ≤ x2 := c1
      rw [if_pos c1] at q
      refine w_iload_n (Ev.cm _) rfl rfl ?_
      refine w_ireturn (Ev.cm _) rfl trivial rf0 ?_
      cases q
      exact g
    · have c1 : ¬ (I 332 0 ≤ x2) := c1
      rw [if_neg c1] at q
      refine w_aload_n (Ev.cm _) rfl rfl ?_
      refine w_iload_n (Ev.cm _) rfl rfl ?_
      obtain ⟨⟨r1, I1, L1⟩, e1, q⟩ := obs q
      dsimp only at q
      refine w_cvirt (o := 331) (as := [.int x2]) (st := []) (Ev.cm _) rfl rfl rfl (Nat.le_of_ble_eq_true rfl) (Nat.le_of_ble_eq_true rfl) rfl (Nat.le_of_ble_eq_true rfl) (eo_M_trod (g := ?_) e1)
      show Wp _ _ _ _ _ _ _ 19 [(0, .ref 331), (1, .int x1), (2, .int x2)] [.int r1] (HS I1 L1 X)
      refine w_iload_n (Ev.cm _) rfl rfl ?_
      refine w_iconst (Ev.cm _) rfl ?_
      refine w_icmp_ne (Ev.cm _) rfl (fun c2 => ?_) (fun c2 => ?_)
      · have c2 : ¬ (x1 = (-1)) := c2
        rw [if_neg c2] at q
        refine w_aload_n (Ev.cm _) rfl rfl ?_
        refine w_iload_n (Ev.cm _) rfl rfl ?_
        obtain ⟨⟨r2, I2, L2⟩, e2, q⟩ := obs q
        dsimp only at q
        refine w_cvirt (o := 331) (as := [.int x1]) (st := [.int r1]) (Ev.cm _) rfl rfl rfl (Nat.le_of_ble_eq_true rfl) (Nat.le_of_ble_eq_true rfl) rfl (Nat.le_of_ble_eq_true rfl) (eo_M_trod (g := ?_) e2)
        show Wp _ _ _ _ _ _ _ 33 [(0, .ref 331), (1, .int x1), (2, .int x2)] [.int r2, .int r1] (HS I2 L2 X)
        refine w_icmp_le (Ev.cm _) rfl (fun c3 => ?_) (fun c3 => ?_)
        · have c3 : r1 ≤ r2 := c3
          rw [if_pos c3] at q
          refine w_iinc (ls2 := [(0, .ref 331), (1, .int x1), (2, .int (x2 + 1))]) (Ev.cm _) rfl rfl rfl ?_
          refine w_goto (Ev.cm _) rfl ?_
          show Wp _ _ _ _ _ _ _ 4 [(0, .ref 331), (1, .int x1), (2, .int (x2 + 1))] [] (HS I2 L2 X)
          refine Wp.sub [0, 1, 2] (ls2 := [(0, .ref 331), (1, .int x1), (2, .int (x2 + 1))]) rfl ?_
          exact ih _ _ _ _ q
        · have c3 : ¬ (r1 ≤ r2) := c3
          rw [if_neg c3] at q
          refine w_iload_n (Ev.cm _) rfl rfl ?_
          refine w_istore_n (ls2 := [(0, .ref 331), (1, .int x2), (2, .int x2)]) (Ev.cm _) rfl rfl ?_
          refine w_iinc (ls2 := [(0, .ref 331), (1, .int x2), (2, .int (x2 + 1))]) (Ev.cm _) rfl rfl rfl ?_
          refine w_goto (Ev.cm _) rfl ?_
          show Wp _ _ _ _ _ _ _ 4 [(0, .ref 331), (1, .int x2), (2, .int (x2 + 1))] [] (HS I2 L2 X)
          refine Wp.sub [0, 1, 2] (ls2 := [(0, .ref 331), (1, .int x2), (2, .int (x2 + 1))]) rfl ?_
          exact ih _ _ _ _ q
      · have c2 : x1 = (-1) := c2
        rw [if_pos c2] at q
        refine w_iconst (Ev.cm _) rfl ?_
        refine w_goto (Ev.cm _) rfl ?_
        refine w_icmp_le (Ev.cm _) rfl (fun c4 => ?_) (fun c4 => ?_)
        · have c4 : r1 ≤ 0 := c4
          rw [if_pos c4] at q
          refine w_iinc (ls2 := [(0, .ref 331), (1, .int x1), (2, .int (x2 + 1))]) (Ev.cm _) rfl rfl rfl ?_
          refine w_goto (Ev.cm _) rfl ?_
          show Wp _ _ _ _ _ _ _ 4 [(0, .ref 331), (1, .int x1), (2, .int (x2 + 1))] [] (HS I1 L1 X)
          refine Wp.sub [0, 1, 2] (ls2 := [(0, .ref 331), (1, .int x1), (2, .int (x2 + 1))]) rfl ?_
          exact ih _ _ _ _ q
        · have c4 : ¬ (r1 ≤ 0) := c4
          rw [if_neg c4] at q
          refine w_iload_n (Ev.cm _) rfl rfl ?_
          refine w_istore_n (ls2 := [(0, .ref 331), (1, .int x2), (2, .int x2)]) (Ev.cm _) rfl rfl ?_
          refine w_iinc (ls2 := [(0, .ref 331), (1, .int x2), (2, .int (x2 + 1))]) (Ev.cm _) rfl rfl rfl ?_
          refine w_goto (Ev.cm _) rfl ?_
          show Wp _ _ _ _ _ _ _ 4 [(0, .ref 331), (1, .int x2), (2, .int (x2 + 1))] [] (HS I1 L1 X)
          refine Wp.sub [0, 1, 2] (ls2 := [(0, .ref 331), (1, .int x2), (2, .int (x2 + 1))]) rfl ?_
          exact ih _ _ _ _ q
def FO_M_restless (fu : Nat) (I : Nat → Nat → Int32) (L : Nat → Nat → Int64) : Option (Int32 × (Nat → Nat → Int32) × (Nat → Nat → Int64)) := LO_M_restless_4 fu fu (-1) 0 I L
set_option maxHeartbeats 20000000 in
set_option maxRecDepth 20000 in
theorem eo_M_restless {d fu : Nat} {I : Nat → Nat → Int32} {L : Nat → Nat → Int64} {X : Nat × (Nat → Int32)} {Q : PQ} {res : Int32 × (Nat → Nat → Int32) × (Nat → Nat → Int64)}  (g : Q (some (.int res.1)) (HS res.2.1 res.2.2 X)) (q : FO_M_restless fu  I L = some res) : Ev (d + 2) m_M_restless [.ref 331] (HS I L X) Q := by
  unfold FO_M_restless at q
  refine ev_start (d := d + 1) rfl rfl rfl (Nat.le_of_ble_eq_true rfl) ?_
  show Wp (Ev (d + 1)) cd_M_restless (0, 0) (some .int) _ _ Q 0 [(0, .ref 331)] [] (HS I L X)
  refine w_iconst (Ev.cm _) rfl ?_
  refine w_istore_n (ls2 := [(0, .ref 331), (1, .int (-1))]) (Ev.cm _) rfl rfl ?_
  refine w_iconst (Ev.cm _) rfl ?_
  refine w_istore_n (ls2 := [(0, .ref 331), (1, .int (-1)), (2, .int 0)]) (Ev.cm _) rfl rfl ?_
  show Wp _ _ _ _ _ _ _ 4 [(0, .ref 331), (1, .int (-1)), (2, .int 0)] [] (HS I L X)
  refine Wp.sub [0, 1, 2] (ls2 := [(0, .ref 331), (1, .int (-1)), (2, .int 0)]) rfl ?_
  exact lo_M_restless_4 g fu _ _ _ _ q
def LO_M_home_4 (fu : Nat) : Nat → Int32 → Int32 → (Nat → Nat → Int32) → (Nat → Nat → Int64) → Option (Int32 × (Nat → Nat → Int32) × (Nat → Nat → Int64))
  | 0, _, _, _, _ => none
  | n + 1, x1, x2, I, L => if I 332 0 ≤ x2 then (some (x1, I, L)) else ((FO_M_placeOf fu x2 I L).bind (fun u1 => let r1 := u1.1; let I1 := u1.2.1; let L1 := u1.2.2; if 0 ≤ (30 : Int32) + x2 ∧ (30 : Int32) + x2 < 1541 then (if r1 = I1 332 (((30 : Int32) + x2).toNatClampNeg) then (LO_M_home_4 fu n (x1 ||| ((1 : Int32) <<< (x2 &&& 31))) (x2 + 1) I1 L1) else (LO_M_home_4 fu n (x1 ||| 0) (x2 + 1) I1 L1)) else none))
set_option maxHeartbeats 20000000 in
set_option maxRecDepth 20000 in
theorem lo_M_home_4 {d fu n0 s0 : Nat} {X : Nat × (Nat → Int32)} {Q : PQ} {res : Int32 × (Nat → Nat → Int32) × (Nat → Nat → Int64)}  (g : Q (some (.int res.1)) (HS res.2.1 res.2.2 X)) : ∀ (n : Nat) (x1 : Int32) (x2 : Int32) (I : Nat → Nat → Int32) (L : Nat → Nat → Int64), LO_M_home_4 fu n x1 x2 I L = some res → Wp (Ev (d + 1)) cd_M_home (0, 0) (some .int) n0 s0 Q 4 [(0, .ref 331), (1, .int x1), (2, .int x2)] [] (HS I L X) := by
  intro n
  induction n with
  | zero => intro _ _ _ _ q; cases q
  | succ n ih =>
    intro x1 x2 I L q
    unfold LO_M_home_4 at q
    refine w_iload_n (Ev.cm _) rfl rfl ?_
    refine w_aload_n (Ev.cm _) rfl rfl ?_
    refine w_getR (q := 332) (Ev.cm _) rfl (Nat.le_of_ble_eq_true rfl) rfl rfl ?_
    refine w_iconst (Ev.cm _) rfl ?_
    refine w_iald (Ev.cm _) rfl (Nat.le_of_ble_eq_true rfl) rfl (show vp_in 0 1541 from vpI 1541 (by decide) (by decide) (by decide)) ?_
    refine w_icmp_ge (Ev.cm _) rfl (fun c1 => ?_) (fun c1 => ?_)
    · have c1 : I 332 0 ≤ x2 := c1
      rw [if_pos c1] at q
      refine w_iload_n (Ev.cm _) rfl rfl ?_
      refine w_ireturn (Ev.cm _) rfl trivial rf0 ?_
      cases q
      exact g
    · have c1 : ¬ (I 332 0 ≤ x2) := c1
      rw [if_neg c1] at q
      refine w_iload_n (Ev.cm _) rfl rfl ?_
      refine w_aload_n (Ev.cm _) rfl rfl ?_
      refine w_iload_n (Ev.cm _) rfl rfl ?_
      obtain ⟨⟨r1, I1, L1⟩, e1, q⟩ := obs q
      dsimp only at q
      refine w_cvirt (o := 331) (as := [.int x2]) (st := [.int x1]) (Ev.cm _) rfl rfl rfl (Nat.le_of_ble_eq_true rfl) (Nat.le_of_ble_eq_true rfl) rfl (Nat.le_of_ble_eq_true rfl) (eo_M_placeOf (g := ?_) e1)
      show Wp _ _ _ _ _ _ _ 20 [(0, .ref 331), (1, .int x1), (2, .int x2)] [.int r1, .int x1] (HS I1 L1 X)
      refine w_aload_n (Ev.cm _) rfl rfl ?_
      refine w_getR (q := 332) (Ev.cm _) rfl (Nat.le_of_ble_eq_true rfl) rfl rfl ?_
      refine w_bipush (Ev.cm _) rfl ?_
      refine w_iload_n (Ev.cm _) rfl rfl ?_
      refine w_iadd (Ev.cm _) rfl ?_
      obtain ⟨b2, q⟩ := ois q
      refine w_iald (Ev.cm _) rfl (Nat.le_of_ble_eq_true rfl) rfl (show vp_in ((30 : Int32) + x2) 1541 from vpI 1541 (by decide) b2.1 b2.2) ?_
      refine w_icmp_ne (Ev.cm _) rfl (fun c2 => ?_) (fun c2 => ?_)
      · have c2 : ¬ (r1 = I1 332 (((30 : Int32) + x2).toNatClampNeg)) := c2
        rw [if_neg c2] at q
        refine w_iconst (Ev.cm _) rfl ?_
        refine w_ior (Ev.cm _) rfl ?_
        refine w_istore_n (ls2 := [(0, .ref 331), (1, .int (x1 ||| 0)), (2, .int x2)]) (Ev.cm _) rfl rfl ?_
        refine w_iinc (ls2 := [(0, .ref 331), (1, .int (x1 ||| 0)), (2, .int (x2 + 1))]) (Ev.cm _) rfl rfl rfl ?_
        refine w_goto (Ev.cm _) rfl ?_
        show Wp _ _ _ _ _ _ _ 4 [(0, .ref 331), (1, .int (x1 ||| 0)), (2, .int (x2 + 1))] [] (HS I1 L1 X)
        refine Wp.sub [0, 1, 2] (ls2 := [(0, .ref 331), (1, .int (x1 ||| 0)), (2, .int (x2 + 1))]) rfl ?_
        exact ih _ _ _ _ q
      · have c2 : r1 = I1 332 (((30 : Int32) + x2).toNatClampNeg) := c2
        rw [if_pos c2] at q
        refine w_iconst (Ev.cm _) rfl ?_
        refine w_iload_n (Ev.cm _) rfl rfl ?_
        refine w_ishl (Ev.cm _) rfl ?_
        refine w_goto (Ev.cm _) rfl ?_
        refine w_ior (Ev.cm _) rfl ?_
        refine w_istore_n (ls2 := [(0, .ref 331), (1, .int (x1 ||| ((1 : Int32) <<< (x2 &&& 31)))), (2, .int x2)]) (Ev.cm _) rfl rfl ?_
        refine w_iinc (ls2 := [(0, .ref 331), (1, .int (x1 ||| ((1 : Int32) <<< (x2 &&& 31)))), (2, .int (x2 + 1))]) (Ev.cm _) rfl rfl rfl ?_
        refine w_goto (Ev.cm _) rfl ?_
        show Wp _ _ _ _ _ _ _ 4 [(0, .ref 331), (1, .int (x1 ||| ((1 : Int32) <<< (x2 &&& 31)))), (2, .int (x2 + 1))] [] (HS I1 L1 X)
        refine Wp.sub [0, 1, 2] (ls2 := [(0, .ref 331), (1, .int (x1 ||| ((1 : Int32) <<< (x2 &&& 31)))), (2, .int (x2 + 1))]) rfl ?_
        exact ih _ _ _ _ q
def FO_M_home (fu : Nat) (I : Nat → Nat → Int32) (L : Nat → Nat → Int64) : Option (Int32 × (Nat → Nat → Int32) × (Nat → Nat → Int64)) := LO_M_home_4 fu fu 0 0 I L
set_option maxHeartbeats 20000000 in
set_option maxRecDepth 20000 in
theorem eo_M_home {d fu : Nat} {I : Nat → Nat → Int32} {L : Nat → Nat → Int64} {X : Nat × (Nat → Int32)} {Q : PQ} {res : Int32 × (Nat → Nat → Int32) × (Nat → Nat → Int64)}  (g : Q (some (.int res.1)) (HS res.2.1 res.2.2 X)) (q : FO_M_home fu  I L = some res) : Ev (d + 2) m_M_home [.ref 331] (HS I L X) Q := by
  unfold FO_M_home at q
  refine ev_start (d := d + 1) rfl rfl rfl (Nat.le_of_ble_eq_true rfl) ?_
  show Wp (Ev (d + 1)) cd_M_home (0, 0) (some .int) _ _ Q 0 [(0, .ref 331)] [] (HS I L X)
  refine w_iconst (Ev.cm _) rfl ?_
  refine w_istore_n (ls2 := [(0, .ref 331), (1, .int 0)]) (Ev.cm _) rfl rfl ?_
  refine w_iconst (Ev.cm _) rfl ?_
  refine w_istore_n (ls2 := [(0, .ref 331), (1, .int 0), (2, .int 0)]) (Ev.cm _) rfl rfl ?_
  show Wp _ _ _ _ _ _ _ 4 [(0, .ref 331), (1, .int 0), (2, .int 0)] [] (HS I L X)
  refine Wp.sub [0, 1, 2] (ls2 := [(0, .ref 331), (1, .int 0), (2, .int 0)]) rfl ?_
  exact lo_M_home_4 g fu _ _ _ _ q
def LO_M_doubles_18 (fu : Nat) (k_4 : Int32 → Int32 → (Nat → Nat → Int32) → (Nat → Nat → Int64) → Option (Int32 × (Nat → Nat → Int32) × (Nat → Nat → Int64))) : Nat → Int32 → Int32 → Int32 → (Nat → Nat → Int32) → (Nat → Nat → Int64) → Option (Int32 × (Nat → Nat → Int32) × (Nat → Nat → Int64))
  | 0, _, _, _, _, _ => none
  | n + 1, x1, x2, x3, I, L => if I 332 0 ≤ x3 then (k_4 x1 (x2 + 1) I L) else ((FO_M_placeOf fu x2 I L).bind (fun u1 => let r1 := u1.1; let I1 := u1.2.1; let L1 := u1.2.2; (FO_M_placeOf fu x3 I1 L1).bind (fun u2 => let r2 := u2.1; let I2 := u2.2.1; let L2 := u2.2.2; if r1 = r2 then (LO_M_doubles_18 fu k_4 n (x1 + 1) x2 (x3 + 1) I2 L2) else (LO_M_doubles_18 fu k_4 n (x1 + 0) x2 (x3 + 1) I2 L2))))
set_option maxHeartbeats 20000000 in
set_option maxRecDepth 20000 in
theorem lo_M_doubles_18 {d fu n0 s0 : Nat} {X : Nat × (Nat → Int32)} {Q : PQ} {k_4 : Int32 → Int32 → (Nat → Nat → Int32) → (Nat → Nat → Int64) → Option (Int32 × (Nat → Nat → Int32) × (Nat → Nat → Int64))} {res : Int32 × (Nat → Nat → Int32) × (Nat → Nat → Int64)}  (g : Q (some (.int res.1)) (HS res.2.1 res.2.2 X)) (hk_4 : ∀ (x1 : Int32) (x2 : Int32) (I : Nat → Nat → Int32) (L : Nat → Nat → Int64), k_4 x1 x2 I L = some res → Wp (Ev (d + 1)) cd_M_doubles (0, 0) (some .int) n0 s0 Q 4 [(0, .ref 331), (1, .int x1), (2, .int x2)] [] (HS I L X)) : ∀ (n : Nat) (x1 : Int32) (x2 : Int32) (x3 : Int32) (I : Nat → Nat → Int32) (L : Nat → Nat → Int64), LO_M_doubles_18 fu k_4 n x1 x2 x3 I L = some res → Wp (Ev (d + 1)) cd_M_doubles (0, 0) (some .int) n0 s0 Q 18 [(0, .ref 331), (1, .int x1), (2, .int x2), (3, .int x3)] [] (HS I L X) := by
  intro n
  induction n with
  | zero => intro _ _ _ _ _ q; cases q
  | succ n ih =>
    intro x1 x2 x3 I L q
    unfold LO_M_doubles_18 at q
    refine w_iload_n (Ev.cm _) rfl rfl ?_
    refine w_aload_n (Ev.cm _) rfl rfl ?_
    refine w_getR (q := 332) (Ev.cm _) rfl (Nat.le_of_ble_eq_true rfl) rfl rfl ?_
    refine w_iconst (Ev.cm _) rfl ?_
    refine w_iald (Ev.cm _) rfl (Nat.le_of_ble_eq_true rfl) rfl (show vp_in 0 1541 from vpI 1541 (by decide) (by decide) (by decide)) ?_
    refine w_icmp_ge (Ev.cm _) rfl (fun c1 => ?_) (fun c1 => ?_)
    · have c1 : I 332 0 ≤ x3 := c1
      rw [if_pos c1] at q
      refine w_iinc (ls2 := [(0, .ref 331), (1, .int x1), (2, .int (x2 + 1)), (3, .int x3)]) (Ev.cm _) rfl rfl rfl ?_
      refine w_goto (Ev.cm _) rfl ?_
      show Wp _ _ _ _ _ _ _ 4 [(0, .ref 331), (1, .int x1), (2, .int (x2 + 1)), (3, .int x3)] [] (HS I L X)
      refine Wp.sub [0, 1, 2] (ls2 := [(0, .ref 331), (1, .int x1), (2, .int (x2 + 1))]) rfl ?_
      exact hk_4 _ _ _ _ q
    · have c1 : ¬ (I 332 0 ≤ x3) := c1
      rw [if_neg c1] at q
      refine w_iload_n (Ev.cm _) rfl rfl ?_
      refine w_aload_n (Ev.cm _) rfl rfl ?_
      refine w_iload_n (Ev.cm _) rfl rfl ?_
      obtain ⟨⟨r1, I1, L1⟩, e1, q⟩ := obs q
      dsimp only at q
      refine w_cvirt (o := 331) (as := [.int x2]) (st := [.int x1]) (Ev.cm _) rfl rfl rfl (Nat.le_of_ble_eq_true rfl) (Nat.le_of_ble_eq_true rfl) rfl (Nat.le_of_ble_eq_true rfl) (eo_M_placeOf (g := ?_) e1)
      show Wp _ _ _ _ _ _ _ 34 [(0, .ref 331), (1, .int x1), (2, .int x2), (3, .int x3)] [.int r1, .int x1] (HS I1 L1 X)
      refine w_aload_n (Ev.cm _) rfl rfl ?_
      refine w_iload_n (Ev.cm _) rfl rfl ?_
      obtain ⟨⟨r2, I2, L2⟩, e2, q⟩ := obs q
      dsimp only at q
      refine w_cvirt (o := 331) (as := [.int x3]) (st := [.int r1, .int x1]) (Ev.cm _) rfl rfl rfl (Nat.le_of_ble_eq_true rfl) (Nat.le_of_ble_eq_true rfl) rfl (Nat.le_of_ble_eq_true rfl) (eo_M_placeOf (g := ?_) e2)
      show Wp _ _ _ _ _ _ _ 39 [(0, .ref 331), (1, .int x1), (2, .int x2), (3, .int x3)] [.int r2, .int r1, .int x1] (HS I2 L2 X)
      refine w_icmp_ne (Ev.cm _) rfl (fun c2 => ?_) (fun c2 => ?_)
      · have c2 : ¬ (r1 = r2) := c2
        rw [if_neg c2] at q
        refine w_iconst (Ev.cm _) rfl ?_
        refine w_iadd (Ev.cm _) rfl ?_
        refine w_istore_n (ls2 := [(0, .ref 331), (1, .int (x1 + 0)), (2, .int x2), (3, .int x3)]) (Ev.cm _) rfl rfl ?_
        refine w_iinc (ls2 := [(0, .ref 331), (1, .int (x1 + 0)), (2, .int x2), (3, .int (x3 + 1))]) (Ev.cm _) rfl rfl rfl ?_
        refine w_goto (Ev.cm _) rfl ?_
        show Wp _ _ _ _ _ _ _ 18 [(0, .ref 331), (1, .int (x1 + 0)), (2, .int x2), (3, .int (x3 + 1))] [] (HS I2 L2 X)
        refine Wp.sub [0, 1, 2, 3] (ls2 := [(0, .ref 331), (1, .int (x1 + 0)), (2, .int x2), (3, .int (x3 + 1))]) rfl ?_
        exact ih _ _ _ _ _ q
      · have c2 : r1 = r2 := c2
        rw [if_pos c2] at q
        refine w_iconst (Ev.cm _) rfl ?_
        refine w_goto (Ev.cm _) rfl ?_
        refine w_iadd (Ev.cm _) rfl ?_
        refine w_istore_n (ls2 := [(0, .ref 331), (1, .int (x1 + 1)), (2, .int x2), (3, .int x3)]) (Ev.cm _) rfl rfl ?_
        refine w_iinc (ls2 := [(0, .ref 331), (1, .int (x1 + 1)), (2, .int x2), (3, .int (x3 + 1))]) (Ev.cm _) rfl rfl rfl ?_
        refine w_goto (Ev.cm _) rfl ?_
        show Wp _ _ _ _ _ _ _ 18 [(0, .ref 331), (1, .int (x1 + 1)), (2, .int x2), (3, .int (x3 + 1))] [] (HS I2 L2 X)
        refine Wp.sub [0, 1, 2, 3] (ls2 := [(0, .ref 331), (1, .int (x1 + 1)), (2, .int x2), (3, .int (x3 + 1))]) rfl ?_
        exact ih _ _ _ _ _ q
def LO_M_doubles_4 (fu : Nat) : Nat → Int32 → Int32 → (Nat → Nat → Int32) → (Nat → Nat → Int64) → Option (Int32 × (Nat → Nat → Int32) × (Nat → Nat → Int64))
  | 0, _, _, _, _ => none
  | n + 1, x1, x2, I, L => if I 332 0 ≤ x2 then (some (x1, I, L)) else (LO_M_doubles_18 fu (fun x1 x2 I L => LO_M_doubles_4 fu n x1 x2 I L) fu x1 x2 (x2 + 1) I L)
set_option maxHeartbeats 20000000 in
set_option maxRecDepth 20000 in
theorem lo_M_doubles_4 {d fu n0 s0 : Nat} {X : Nat × (Nat → Int32)} {Q : PQ} {res : Int32 × (Nat → Nat → Int32) × (Nat → Nat → Int64)}  (g : Q (some (.int res.1)) (HS res.2.1 res.2.2 X)) : ∀ (n : Nat) (x1 : Int32) (x2 : Int32) (I : Nat → Nat → Int32) (L : Nat → Nat → Int64), LO_M_doubles_4 fu n x1 x2 I L = some res → Wp (Ev (d + 1)) cd_M_doubles (0, 0) (some .int) n0 s0 Q 4 [(0, .ref 331), (1, .int x1), (2, .int x2)] [] (HS I L X) := by
  intro n
  induction n with
  | zero => intro _ _ _ _ q; cases q
  | succ n ih =>
    intro x1 x2 I L q
    unfold LO_M_doubles_4 at q
    refine w_iload_n (Ev.cm _) rfl rfl ?_
    refine w_aload_n (Ev.cm _) rfl rfl ?_
    refine w_getR (q := 332) (Ev.cm _) rfl (Nat.le_of_ble_eq_true rfl) rfl rfl ?_
    refine w_iconst (Ev.cm _) rfl ?_
    refine w_iald (Ev.cm _) rfl (Nat.le_of_ble_eq_true rfl) rfl (show vp_in 0 1541 from vpI 1541 (by decide) (by decide) (by decide)) ?_
    refine w_icmp_ge (Ev.cm _) rfl (fun c1 => ?_) (fun c1 => ?_)
    · have c1 : I 332 0 ≤ x2 := c1
      rw [if_pos c1] at q
      refine w_iload_n (Ev.cm _) rfl rfl ?_
      refine w_ireturn (Ev.cm _) rfl trivial rf0 ?_
      cases q
      exact g
    · have c1 : ¬ (I 332 0 ≤ x2) := c1
      rw [if_neg c1] at q
      refine w_iload_n (Ev.cm _) rfl rfl ?_
      refine w_iconst (Ev.cm _) rfl ?_
      refine w_iadd (Ev.cm _) rfl ?_
      refine w_istore_n (ls2 := [(0, .ref 331), (1, .int x1), (2, .int x2), (3, .int (x2 + 1))]) (Ev.cm _) rfl rfl ?_
      show Wp _ _ _ _ _ _ _ 18 [(0, .ref 331), (1, .int x1), (2, .int x2), (3, .int (x2 + 1))] [] (HS I L X)
      refine Wp.sub [0, 1, 2, 3] (ls2 := [(0, .ref 331), (1, .int x1), (2, .int x2), (3, .int (x2 + 1))]) rfl ?_
      exact lo_M_doubles_18 g (fun x1 x2 I L q => ih x1 x2 I L q) fu _ _ _ _ _ q
def FO_M_doubles (fu : Nat) (I : Nat → Nat → Int32) (L : Nat → Nat → Int64) : Option (Int32 × (Nat → Nat → Int32) × (Nat → Nat → Int64)) := LO_M_doubles_4 fu fu 0 0 I L
set_option maxHeartbeats 20000000 in
set_option maxRecDepth 20000 in
theorem eo_M_doubles {d fu : Nat} {I : Nat → Nat → Int32} {L : Nat → Nat → Int64} {X : Nat × (Nat → Int32)} {Q : PQ} {res : Int32 × (Nat → Nat → Int32) × (Nat → Nat → Int64)}  (g : Q (some (.int res.1)) (HS res.2.1 res.2.2 X)) (q : FO_M_doubles fu  I L = some res) : Ev (d + 2) m_M_doubles [.ref 331] (HS I L X) Q := by
  unfold FO_M_doubles at q
  refine ev_start (d := d + 1) rfl rfl rfl (Nat.le_of_ble_eq_true rfl) ?_
  show Wp (Ev (d + 1)) cd_M_doubles (0, 0) (some .int) _ _ Q 0 [(0, .ref 331)] [] (HS I L X)
  refine w_iconst (Ev.cm _) rfl ?_
  refine w_istore_n (ls2 := [(0, .ref 331), (1, .int 0)]) (Ev.cm _) rfl rfl ?_
  refine w_iconst (Ev.cm _) rfl ?_
  refine w_istore_n (ls2 := [(0, .ref 331), (1, .int 0), (2, .int 0)]) (Ev.cm _) rfl rfl ?_
  show Wp _ _ _ _ _ _ _ 4 [(0, .ref 331), (1, .int 0), (2, .int 0)] [] (HS I L X)
  refine Wp.sub [0, 1, 2] (ls2 := [(0, .ref 331), (1, .int 0), (2, .int 0)]) rfl ?_
  exact lo_M_doubles_4 g fu _ _ _ _ q
def FO_M_isStep (fu : Nat) (p0 : Int32) (p1 : Int32) (p2 : Int32) (I : Nat → Nat → Int32) (L : Nat → Nat → Int64) : Option (Int32 × (Nat → Nat → Int32) × (Nat → Nat → Int64)) := if p1 = p2 then (some (0, I, L)) else (if (-3 : Int32) ≤ (p2 - p1) ∧ (p2 - p1) ≤ (3 : Int32) then (if p2 ≤ p1 then ((FO_M_heardAt fu p0 p2 0 I L).bind (fun u1 => let r1 := u1.1; let I1 := u1.2.1; let L1 := u1.2.2; if r1 = 0 then (some (1, I1, L1)) else (some (0, I1, L1)))) else ((FO_M_heardAt fu p0 p2 1 I L).bind (fun u2 => let r2 := u2.1; let I2 := u2.2.1; let L2 := u2.2.2; if r2 = 0 then (some (1, I2, L2)) else (some (0, I2, L2))))) else (some (0, I, L)))
set_option maxHeartbeats 20000000 in
set_option maxRecDepth 20000 in
theorem eo_M_isStep {d fu : Nat} {p0 : Int32} {p1 : Int32} {p2 : Int32} {I : Nat → Nat → Int32} {L : Nat → Nat → Int64} {X : Nat × (Nat → Int32)} {Q : PQ} {res : Int32 × (Nat → Nat → Int32) × (Nat → Nat → Int64)}  (g : Q (some (.int res.1)) (HS res.2.1 res.2.2 X)) (q : FO_M_isStep fu p0 p1 p2 I L = some res) : Ev (d + 9) m_M_isStep [.ref 331, .int p0, .int p1, .int p2] (HS I L X) Q := by
  unfold FO_M_isStep at q
  refine ev_start (d := d + 8) rfl rfl rfl (Nat.le_of_ble_eq_true rfl) ?_
  show Wp (Ev (d + 8)) cd_M_isStep (0, 0) (some .boolean) _ _ Q 0 [(0, .ref 331), (1, .int p0), (2, .int p1), (3, .int p2)] [] (HS I L X)
  refine w_iload_n (Ev.cm _) rfl rfl ?_
  refine w_iload_n (Ev.cm _) rfl rfl ?_
  refine w_icmp_eq (Ev.cm _) rfl (fun c1 => ?_) (fun c1 => ?_)
  · have c1 : p1 = p2 := c1
    rw [if_pos c1] at q
    refine w_iconst (Ev.cm _) rfl ?_
    refine w_ireturn (Ev.cm _) rfl (by first | exact rok_0 | exact rok_1 | exact rok_b) rf0 ?_
    cases q
    exact g
  · have c1 : ¬ (p1 = p2) := c1
    rw [if_neg c1] at q
    refine w_iload_n (Ev.cm _) rfl rfl ?_
    refine w_iload_n (Ev.cm _) rfl rfl ?_
    refine w_isub (Ev.cm _) rfl ?_
    refine w_bipush (Ev.cm _) rfl ?_
    refine w_iconst (Ev.cm _) rfl ?_
    refine w_cstat (as := [.int (p2 - p1), .int (-3), .int 3]) (st := []) (Ev.cm _) rfl rfl rfl (Nat.le_of_ble_eq_true rfl) (Nat.le_of_ble_eq_true rfl) (m_isIn ?_)
    show Wp _ _ _ _ _ _ _ 14 [(0, .ref 331), (1, .int p0), (2, .int p1), (3, .int p2)] [.int (bI ((-3 : Int32) ≤ (p2 - p1) ∧ (p2 - p1) ≤ (3 : Int32)))] (HS I L X)
    refine w_if_eq (Ev.cm _) rfl (fun c2 => ?_) (fun c2 => ?_)
    · have c2 : ¬ ((-3 : Int32) ≤ (p2 - p1) ∧ (p2 - p1) ≤ (3 : Int32)) := bI_0.mp c2
      rw [if_neg c2] at q
      refine w_iconst (Ev.cm _) rfl ?_
      refine w_ireturn (Ev.cm _) rfl (by first | exact rok_0 | exact rok_1 | exact rok_b) rf0 ?_
      cases q
      exact g
    · have c2 : (-3 : Int32) ≤ (p2 - p1) ∧ (p2 - p1) ≤ (3 : Int32) := bI_1.mp c2
      rw [if_pos c2] at q
      refine w_aload_n (Ev.cm _) rfl rfl ?_
      refine w_iload_n (Ev.cm _) rfl rfl ?_
      refine w_iload_n (Ev.cm _) rfl rfl ?_
      refine w_iload_n (Ev.cm _) rfl rfl ?_
      refine w_iload_n (Ev.cm _) rfl rfl ?_
      refine w_icmp_le (Ev.cm _) rfl (fun c3 => ?_) (fun c3 => ?_)
      · have c3 : p2 ≤ p1 := c3
        rw [if_pos c3] at q
        refine w_iconst (Ev.cm _) rfl ?_
        obtain ⟨⟨r1, I1, L1⟩, e1, q⟩ := obs q
        dsimp only at q
        refine w_cvirt (o := 331) (as := [.int p0, .int p2, .int 0]) (st := []) (Ev.cm _) rfl rfl rfl (Nat.le_of_ble_eq_true rfl) (Nat.le_of_ble_eq_true rfl) rfl (Nat.le_of_ble_eq_true rfl) (eo_M_heardAt (g := ?_) e1)
        show Wp _ _ _ _ _ _ _ 33 [(0, .ref 331), (1, .int p0), (2, .int p1), (3, .int p2)] [.int r1] (HS I1 L1 X)
        refine w_if_ne (Ev.cm _) rfl (fun c4 => ?_) (fun c4 => ?_)
        · have c4 : ¬ (r1 = 0) := c4
          rw [if_neg c4] at q
          refine w_iconst (Ev.cm _) rfl ?_
          refine w_ireturn (Ev.cm _) rfl (by first | exact rok_0 | exact rok_1 | exact rok_b) rf0 ?_
          cases q
          exact g
        · have c4 : r1 = 0 := c4
          rw [if_pos c4] at q
          refine w_iconst (Ev.cm _) rfl ?_
          refine w_goto (Ev.cm _) rfl ?_
          refine w_ireturn (Ev.cm _) rfl (by first | exact rok_0 | exact rok_1 | exact rok_b) rf0 ?_
          cases q
          exact g
      · have c3 : ¬ (p2 ≤ p1) := c3
        rw [if_neg c3] at q
        refine w_iconst (Ev.cm _) rfl ?_
        refine w_goto (Ev.cm _) rfl ?_
        obtain ⟨⟨r2, I2, L2⟩, e2, q⟩ := obs q
        dsimp only at q
        refine w_cvirt (o := 331) (as := [.int p0, .int p2, .int 1]) (st := []) (Ev.cm _) rfl rfl rfl (Nat.le_of_ble_eq_true rfl) (Nat.le_of_ble_eq_true rfl) rfl (Nat.le_of_ble_eq_true rfl) (eo_M_heardAt (g := ?_) e2)
        show Wp _ _ _ _ _ _ _ 33 [(0, .ref 331), (1, .int p0), (2, .int p1), (3, .int p2)] [.int r2] (HS I2 L2 X)
        refine w_if_ne (Ev.cm _) rfl (fun c5 => ?_) (fun c5 => ?_)
        · have c5 : ¬ (r2 = 0) := c5
          rw [if_neg c5] at q
          refine w_iconst (Ev.cm _) rfl ?_
          refine w_ireturn (Ev.cm _) rfl (by first | exact rok_0 | exact rok_1 | exact rok_b) rf0 ?_
          cases q
          exact g
        · have c5 : r2 = 0 := c5
          rw [if_pos c5] at q
          refine w_iconst (Ev.cm _) rfl ?_
          refine w_goto (Ev.cm _) rfl ?_
          refine w_ireturn (Ev.cm _) rfl (by first | exact rok_0 | exact rok_1 | exact rok_b) rf0 ?_
          cases q
          exact g
def LO_M_layFar_53 (fu : Nat) (k_34 : Int32 → Int32 → Int32 → (Nat → Nat → Int32) → (Nat → Nat → Int64) → Option (Unit × (Nat → Nat → Int32) × (Nat → Nat → Int64))) (k_43 : Int32 → Int32 → Int32 → Int32 → (Nat → Nat → Int32) → (Nat → Nat → Int64) → Option (Unit × (Nat → Nat → Int32) × (Nat → Nat → Int64))) : Nat → Int32 → Int32 → Int32 → Int32 → Int32 → (Nat → Nat → Int32) → (Nat → Nat → Int64) → Option (Unit × (Nat → Nat → Int32) × (Nat → Nat → Int64))
  | 0, _, _, _, _, _, _, _ => none
  | n + 1, x1, x2, x3, x4, x5, I, L => if 12 < x5 then (k_43 x1 x2 x3 (x4 + 1) I L) else (if 0 ≤ x5 ∧ x5 < 13 then (if 0 ≤ x4 ∧ x4 < 13 then (if I 341 x4.toNatClampNeg ≤ (I 341 x5.toNatClampNeg) + 1 then (LO_M_layFar_53 fu k_34 k_43 n x1 x2 x3 x4 (x5 + 1) I L) else ((FO_M_isStep fu x1 x4 x5 I L).bind (fun u3 => let r3 := u3.1; let I3 := u3.2.1; let L3 := u3.2.2; if r3 = 0 then (LO_M_layFar_53 fu k_34 k_43 n x1 x2 x3 x4 (x5 + 1) I3 L3) else (if 0 ≤ x5 ∧ x5 < 13 then (if 0 ≤ x4 ∧ x4 < 13 then (LO_M_layFar_53 fu k_34 k_43 n x1 x2 x3 x4 (x5 + 1) (sI I3 341 x4.toNatClampNeg ((I3 341 x5.toNatClampNeg) + 1)) L3) else none) else none)))) else none) else none)
set_option maxHeartbeats 20000000 in
set_option maxRecDepth 20000 in
theorem lo_M_layFar_53 {d fu n0 s0 : Nat} {X : Nat × (Nat → Int32)} {Q : PQ} {k_34 : Int32 → Int32 → Int32 → (Nat → Nat → Int32) → (Nat → Nat → Int64) → Option (Unit × (Nat → Nat → Int32) × (Nat → Nat → Int64))} {k_43 : Int32 → Int32 → Int32 → Int32 → (Nat → Nat → Int32) → (Nat → Nat → Int64) → Option (Unit × (Nat → Nat → Int32) × (Nat → Nat → Int64))} {res : Unit × (Nat → Nat → Int32) × (Nat → Nat → Int64)}  (g : Q none (HS res.2.1 res.2.2 X)) (hk_34 : ∀ (x1 : Int32) (x2 : Int32) (x3 : Int32) (I : Nat → Nat → Int32) (L : Nat → Nat → Int64), k_34 x1 x2 x3 I L = some res → Wp (Ev (d + 9)) cd_M_layFar (0, 0) none n0 s0 Q 34 [(0, .ref 331), (1, .int x1), (2, .int x2), (3, .int x3)] [] (HS I L X)) (hk_43 : ∀ (x1 : Int32) (x2 : Int32) (x3 : Int32) (x4 : Int32) (I : Nat → Nat → Int32) (L : Nat → Nat → Int64), k_43 x1 x2 x3 x4 I L = some res → Wp (Ev (d + 9)) cd_M_layFar (0, 0) none n0 s0 Q 43 [(0, .ref 331), (1, .int x1), (2, .int x2), (3, .int x3), (4, .int x4)] [] (HS I L X)) : ∀ (n : Nat) (x1 : Int32) (x2 : Int32) (x3 : Int32) (x4 : Int32) (x5 : Int32) (I : Nat → Nat → Int32) (L : Nat → Nat → Int64), LO_M_layFar_53 fu k_34 k_43 n x1 x2 x3 x4 x5 I L = some res → Wp (Ev (d + 9)) cd_M_layFar (0, 0) none n0 s0 Q 53 [(0, .ref 331), (1, .int x1), (2, .int x2), (3, .int x3), (4, .int x4), (5, .int x5)] [] (HS I L X) := by
  intro n
  induction n with
  | zero => intro _ _ _ _ _ _ _ q; cases q
  | succ n ih =>
    intro x1 x2 x3 x4 x5 I L q
    unfold LO_M_layFar_53 at q
    refine w_iload (Ev.cm _) rfl rfl ?_
    refine w_bipush (Ev.cm _) rfl ?_
    refine w_icmp_gt (Ev.cm _) rfl (fun c1 => ?_) (fun c1 => ?_)
    · have c1 : 12 < x5 := c1
      rw [if_pos c1] at q
      refine w_iinc (ls2 := [(0, .ref 331), (1, .int x1), (2, .int x2), (3, .int x3), (4, .int (x4 + 1)), (5, .int x5)]) (Ev.cm _) rfl rfl rfl ?_
      refine w_goto (Ev.cm _) rfl ?_
      show Wp _ _ _ _ _ _ _ 43 [(0, .ref 331), (1, .int x1), (2, .int x2), (3, .int x3), (4, .int (x4 + 1)), (5, .int x5)] [] (HS I L X)
      refine Wp.sub [0, 1, 2, 3, 4] (ls2 := [(0, .ref 331), (1, .int x1), (2, .int x2), (3, .int x3), (4, .int (x4 + 1))]) rfl ?_
      exact hk_43 _ _ _ _ _ _ q
    · have c1 : ¬ (12 < x5) := c1
      rw [if_neg c1] at q
      refine w_aload_n (Ev.cm _) rfl rfl ?_
      refine w_getR (q := 341) (Ev.cm _) rfl (Nat.le_of_ble_eq_true rfl) rfl rfl ?_
      refine w_iload (Ev.cm _) rfl rfl ?_
      obtain ⟨b1, q⟩ := ois q
      refine w_iald (Ev.cm _) rfl (Nat.le_of_ble_eq_true rfl) rfl (show vp_in x5 13 from vpI 13 (by decide) b1.1 b1.2) ?_
      refine w_iconst (Ev.cm _) rfl ?_
      refine w_iadd (Ev.cm _) rfl ?_
      refine w_aload_n (Ev.cm _) rfl rfl ?_
      refine w_getR (q := 341) (Ev.cm _) rfl (Nat.le_of_ble_eq_true rfl) rfl rfl ?_
      refine w_iload (Ev.cm _) rfl rfl ?_
      obtain ⟨b2, q⟩ := ois q
      refine w_iald (Ev.cm _) rfl (Nat.le_of_ble_eq_true rfl) rfl (show vp_in x4 13 from vpI 13 (by decide) b2.1 b2.2) ?_
      refine w_icmp_ge (Ev.cm _) rfl (fun c2 => ?_) (fun c2 => ?_)
      · have c2 : I 341 x4.toNatClampNeg ≤ (I 341 x5.toNatClampNeg) + 1 := c2
        rw [if_pos c2] at q
        refine w_iinc (ls2 := [(0, .ref 331), (1, .int x1), (2, .int x2), (3, .int x3), (4, .int x4), (5, .int (x5 + 1))]) (Ev.cm _) rfl rfl rfl ?_
        refine w_goto (Ev.cm _) rfl ?_
        show Wp _ _ _ _ _ _ _ 53 [(0, .ref 331), (1, .int x1), (2, .int x2), (3, .int x3), (4, .int x4), (5, .int (x5 + 1))] [] (HS I L X)
        refine Wp.sub [0, 1, 2, 3, 4, 5] (ls2 := [(0, .ref 331), (1, .int x1), (2, .int x2), (3, .int x3), (4, .int x4), (5, .int (x5 + 1))]) rfl ?_
        exact ih _ _ _ _ _ _ _ q
      · have c2 : ¬ (I 341 x4.toNatClampNeg ≤ (I 341 x5.toNatClampNeg) + 1) := c2
        rw [if_neg c2] at q
        refine w_aload_n (Ev.cm _) rfl rfl ?_
        refine w_iload_n (Ev.cm _) rfl rfl ?_
        refine w_iload (Ev.cm _) rfl rfl ?_
        refine w_iload (Ev.cm _) rfl rfl ?_
        obtain ⟨⟨r3, I3, L3⟩, e3, q⟩ := obs q
        dsimp only at q
        refine w_cvirt (o := 331) (as := [.int x1, .int x4, .int x5]) (st := []) (Ev.cm _) rfl rfl rfl (Nat.le_of_ble_eq_true rfl) (Nat.le_of_ble_eq_true rfl) rfl (Nat.le_of_ble_eq_true rfl) (eo_M_isStep (g := ?_) e3)
        show Wp _ _ _ _ _ _ _ 88 [(0, .ref 331), (1, .int x1), (2, .int x2), (3, .int x3), (4, .int x4), (5, .int x5)] [.int r3] (HS I3 L3 X)
        refine w_if_eq (Ev.cm _) rfl (fun c3 => ?_) (fun c3 => ?_)
        · have c3 : r3 = 0 := c3
          rw [if_pos c3] at q
          refine w_iinc (ls2 := [(0, .ref 331), (1, .int x1), (2, .int x2), (3, .int x3), (4, .int x4), (5, .int (x5 + 1))]) (Ev.cm _) rfl rfl rfl ?_
          refine w_goto (Ev.cm _) rfl ?_
          show Wp _ _ _ _ _ _ _ 53 [(0, .ref 331), (1, .int x1), (2, .int x2), (3, .int x3), (4, .int x4), (5, .int (x5 + 1))] [] (HS I3 L3 X)
          refine Wp.sub [0, 1, 2, 3, 4, 5] (ls2 := [(0, .ref 331), (1, .int x1), (2, .int x2), (3, .int x3), (4, .int x4), (5, .int (x5 + 1))]) rfl ?_
          exact ih _ _ _ _ _ _ _ q
        · have c3 : ¬ (r3 = 0) := c3
          rw [if_neg c3] at q
          refine w_aload_n (Ev.cm _) rfl rfl ?_
          refine w_getR (q := 341) (Ev.cm _) rfl (Nat.le_of_ble_eq_true rfl) rfl rfl ?_
          refine w_iload (Ev.cm _) rfl rfl ?_
          refine w_aload_n (Ev.cm _) rfl rfl ?_
          refine w_getR (q := 341) (Ev.cm _) rfl (Nat.le_of_ble_eq_true rfl) rfl rfl ?_
          refine w_iload (Ev.cm _) rfl rfl ?_
          obtain ⟨b4, q⟩ := ois q
          refine w_iald (Ev.cm _) rfl (Nat.le_of_ble_eq_true rfl) rfl (show vp_in x5 13 from vpI 13 (by decide) b4.1 b4.2) ?_
          refine w_iconst (Ev.cm _) rfl ?_
          refine w_iadd (Ev.cm _) rfl ?_
          obtain ⟨b5, q⟩ := ois q
          refine w_iast (Ev.cm _) rfl (Nat.le_of_ble_eq_true rfl) rfl (show vp_in x4 13 from vpI 13 (by decide) b5.1 b5.2) ?_
          refine w_iinc (ls2 := [(0, .ref 331), (1, .int x1), (2, .int x2), (3, .int x3), (4, .int x4), (5, .int (x5 + 1))]) (Ev.cm _) rfl rfl rfl ?_
          refine w_goto (Ev.cm _) rfl ?_
          show Wp _ _ _ _ _ _ _ 53 [(0, .ref 331), (1, .int x1), (2, .int x2), (3, .int x3), (4, .int x4), (5, .int (x5 + 1))] [] (HS (sI I3 341 x4.toNatClampNeg ((I3 341 x5.toNatClampNeg) + 1)) L3 X)
          refine Wp.sub [0, 1, 2, 3, 4, 5] (ls2 := [(0, .ref 331), (1, .int x1), (2, .int x2), (3, .int x3), (4, .int x4), (5, .int (x5 + 1))]) rfl ?_
          exact ih _ _ _ _ _ _ _ q
def LO_M_layFar_43 (fu : Nat) (k_34 : Int32 → Int32 → Int32 → (Nat → Nat → Int32) → (Nat → Nat → Int64) → Option (Unit × (Nat → Nat → Int32) × (Nat → Nat → Int64))) : Nat → Int32 → Int32 → Int32 → Int32 → (Nat → Nat → Int32) → (Nat → Nat → Int64) → Option (Unit × (Nat → Nat → Int32) × (Nat → Nat → Int64))
  | 0, _, _, _, _, _, _ => none
  | n + 1, x1, x2, x3, x4, I, L => if 12 < x4 then (k_34 x1 x2 (x3 + 1) I L) else (LO_M_layFar_53 fu k_34 (fun x1 x2 x3 x4 I L => LO_M_layFar_43 fu k_34 n x1 x2 x3 x4 I L) fu x1 x2 x3 x4 0 I L)
set_option maxHeartbeats 20000000 in
set_option maxRecDepth 20000 in
theorem lo_M_layFar_43 {d fu n0 s0 : Nat} {X : Nat × (Nat → Int32)} {Q : PQ} {k_34 : Int32 → Int32 → Int32 → (Nat → Nat → Int32) → (Nat → Nat → Int64) → Option (Unit × (Nat → Nat → Int32) × (Nat → Nat → Int64))} {res : Unit × (Nat → Nat → Int32) × (Nat → Nat → Int64)}  (g : Q none (HS res.2.1 res.2.2 X)) (hk_34 : ∀ (x1 : Int32) (x2 : Int32) (x3 : Int32) (I : Nat → Nat → Int32) (L : Nat → Nat → Int64), k_34 x1 x2 x3 I L = some res → Wp (Ev (d + 9)) cd_M_layFar (0, 0) none n0 s0 Q 34 [(0, .ref 331), (1, .int x1), (2, .int x2), (3, .int x3)] [] (HS I L X)) : ∀ (n : Nat) (x1 : Int32) (x2 : Int32) (x3 : Int32) (x4 : Int32) (I : Nat → Nat → Int32) (L : Nat → Nat → Int64), LO_M_layFar_43 fu k_34 n x1 x2 x3 x4 I L = some res → Wp (Ev (d + 9)) cd_M_layFar (0, 0) none n0 s0 Q 43 [(0, .ref 331), (1, .int x1), (2, .int x2), (3, .int x3), (4, .int x4)] [] (HS I L X) := by
  intro n
  induction n with
  | zero => intro _ _ _ _ _ _ q; cases q
  | succ n ih =>
    intro x1 x2 x3 x4 I L q
    unfold LO_M_layFar_43 at q
    refine w_iload (Ev.cm _) rfl rfl ?_
    refine w_bipush (Ev.cm _) rfl ?_
    refine w_icmp_gt (Ev.cm _) rfl (fun c1 => ?_) (fun c1 => ?_)
    · have c1 : 12 < x4 := c1
      rw [if_pos c1] at q
      refine w_iinc (ls2 := [(0, .ref 331), (1, .int x1), (2, .int x2), (3, .int (x3 + 1)), (4, .int x4)]) (Ev.cm _) rfl rfl rfl ?_
      refine w_goto (Ev.cm _) rfl ?_
      show Wp _ _ _ _ _ _ _ 34 [(0, .ref 331), (1, .int x1), (2, .int x2), (3, .int (x3 + 1)), (4, .int x4)] [] (HS I L X)
      refine Wp.sub [0, 1, 2, 3] (ls2 := [(0, .ref 331), (1, .int x1), (2, .int x2), (3, .int (x3 + 1))]) rfl ?_
      exact hk_34 _ _ _ _ _ q
    · have c1 : ¬ (12 < x4) := c1
      rw [if_neg c1] at q
      refine w_iconst (Ev.cm _) rfl ?_
      refine w_istore (ls2 := [(0, .ref 331), (1, .int x1), (2, .int x2), (3, .int x3), (4, .int x4), (5, .int 0)]) (Ev.cm _) rfl rfl ?_
      show Wp _ _ _ _ _ _ _ 53 [(0, .ref 331), (1, .int x1), (2, .int x2), (3, .int x3), (4, .int x4), (5, .int 0)] [] (HS I L X)
      refine Wp.sub [0, 1, 2, 3, 4, 5] (ls2 := [(0, .ref 331), (1, .int x1), (2, .int x2), (3, .int x3), (4, .int x4), (5, .int 0)]) rfl ?_
      exact lo_M_layFar_53 g hk_34 (fun x1 x2 x3 x4 I L q => ih x1 x2 x3 x4 I L q) fu _ _ _ _ _ _ _ q
def LO_M_layFar_34 (fu : Nat) : Nat → Int32 → Int32 → Int32 → (Nat → Nat → Int32) → (Nat → Nat → Int64) → Option (Unit × (Nat → Nat → Int32) × (Nat → Nat → Int64))
  | 0, _, _, _, _, _ => none
  | n + 1, x1, x2, x3, I, L => if 12 ≤ x3 then (some ((), I, L)) else (LO_M_layFar_43 fu (fun x1 x2 x3 I L => LO_M_layFar_34 fu n x1 x2 x3 I L) fu x1 x2 x3 0 I L)
set_option maxHeartbeats 20000000 in
set_option maxRecDepth 20000 in
theorem lo_M_layFar_34 {d fu n0 s0 : Nat} {X : Nat × (Nat → Int32)} {Q : PQ} {res : Unit × (Nat → Nat → Int32) × (Nat → Nat → Int64)}  (g : Q none (HS res.2.1 res.2.2 X)) : ∀ (n : Nat) (x1 : Int32) (x2 : Int32) (x3 : Int32) (I : Nat → Nat → Int32) (L : Nat → Nat → Int64), LO_M_layFar_34 fu n x1 x2 x3 I L = some res → Wp (Ev (d + 9)) cd_M_layFar (0, 0) none n0 s0 Q 34 [(0, .ref 331), (1, .int x1), (2, .int x2), (3, .int x3)] [] (HS I L X) := by
  intro n
  induction n with
  | zero => intro _ _ _ _ _ q; cases q
  | succ n ih =>
    intro x1 x2 x3 I L q
    unfold LO_M_layFar_34 at q
    refine w_iload_n (Ev.cm _) rfl rfl ?_
    refine w_bipush (Ev.cm _) rfl ?_
    refine w_icmp_ge (Ev.cm _) rfl (fun c1 => ?_) (fun c1 => ?_)
    · have c1 : 12 ≤ x3 := c1
      rw [if_pos c1] at q
      refine w_return (Ev.cm _) rfl rfl rf0 ?_
      cases q
      exact g
    · have c1 : ¬ (12 ≤ x3) := c1
      rw [if_neg c1] at q
      refine w_iconst (Ev.cm _) rfl ?_
      refine w_istore (ls2 := [(0, .ref 331), (1, .int x1), (2, .int x2), (3, .int x3), (4, .int 0)]) (Ev.cm _) rfl rfl ?_
      show Wp _ _ _ _ _ _ _ 43 [(0, .ref 331), (1, .int x1), (2, .int x2), (3, .int x3), (4, .int 0)] [] (HS I L X)
      refine Wp.sub [0, 1, 2, 3, 4] (ls2 := [(0, .ref 331), (1, .int x1), (2, .int x2), (3, .int x3), (4, .int 0)]) rfl ?_
      exact lo_M_layFar_43 g (fun x1 x2 x3 I L q => ih x1 x2 x3 I L q) fu _ _ _ _ _ _ q
def LO_M_layFar_2 (fu : Nat) : Nat → Int32 → Int32 → Int32 → (Nat → Nat → Int32) → (Nat → Nat → Int64) → Option (Unit × (Nat → Nat → Int32) × (Nat → Nat → Int64))
  | 0, _, _, _, _, _ => none
  | n + 1, x1, x2, x3, I, L => if 12 < x3 then (LO_M_layFar_34 fu fu x1 x2 0 I L) else (if x3 = x2 then (if 0 ≤ x3 ∧ x3 < 13 then (LO_M_layFar_2 fu n x1 x2 (x3 + 1) (sI I 341 x3.toNatClampNeg 0) L) else none) else (if 0 ≤ x3 ∧ x3 < 13 then (LO_M_layFar_2 fu n x1 x2 (x3 + 1) (sI I 341 x3.toNatClampNeg 1000000) L) else none))
set_option maxHeartbeats 20000000 in
set_option maxRecDepth 20000 in
theorem lo_M_layFar_2 {d fu n0 s0 : Nat} {X : Nat × (Nat → Int32)} {Q : PQ} {res : Unit × (Nat → Nat → Int32) × (Nat → Nat → Int64)}  (g : Q none (HS res.2.1 res.2.2 X)) : ∀ (n : Nat) (x1 : Int32) (x2 : Int32) (x3 : Int32) (I : Nat → Nat → Int32) (L : Nat → Nat → Int64), LO_M_layFar_2 fu n x1 x2 x3 I L = some res → Wp (Ev (d + 9)) cd_M_layFar (0, 0) none n0 s0 Q 2 [(0, .ref 331), (1, .int x1), (2, .int x2), (3, .int x3)] [] (HS I L X) := by
  intro n
  induction n with
  | zero => intro _ _ _ _ _ q; cases q
  | succ n ih =>
    intro x1 x2 x3 I L q
    unfold LO_M_layFar_2 at q
    refine w_iload_n (Ev.cm _) rfl rfl ?_
    refine w_bipush (Ev.cm _) rfl ?_
    refine w_icmp_gt (Ev.cm _) rfl (fun c1 => ?_) (fun c1 => ?_)
    · have c1 : 12 < x3 := c1
      rw [if_pos c1] at q
      refine w_iconst (Ev.cm _) rfl ?_
      refine w_istore_n (ls2 := [(0, .ref 331), (1, .int x1), (2, .int x2), (3, .int 0)]) (Ev.cm _) rfl rfl ?_
      show Wp _ _ _ _ _ _ _ 34 [(0, .ref 331), (1, .int x1), (2, .int x2), (3, .int 0)] [] (HS I L X)
      refine Wp.sub [0, 1, 2, 3] (ls2 := [(0, .ref 331), (1, .int x1), (2, .int x2), (3, .int 0)]) rfl ?_
      exact lo_M_layFar_34 g fu _ _ _ _ _ q
    · have c1 : ¬ (12 < x3) := c1
      rw [if_neg c1] at q
      refine w_aload_n (Ev.cm _) rfl rfl ?_
      refine w_getR (q := 341) (Ev.cm _) rfl (Nat.le_of_ble_eq_true rfl) rfl rfl ?_
      refine w_iload_n (Ev.cm _) rfl rfl ?_
      refine w_iload_n (Ev.cm _) rfl rfl ?_
      refine w_iload_n (Ev.cm _) rfl rfl ?_
      refine w_icmp_ne (Ev.cm _) rfl (fun c2 => ?_) (fun c2 => ?_)
      · have c2 : ¬ (x3 = x2) := c2
        rw [if_neg c2] at q
        refine w_ldc_w (Ev.cm _) rfl ?_
        obtain ⟨b1, q⟩ := ois q
        refine w_iast (Ev.cm _) rfl (Nat.le_of_ble_eq_true rfl) rfl (show vp_in x3 13 from vpI 13 (by decide) b1.1 b1.2) ?_
        refine w_iinc (ls2 := [(0, .ref 331), (1, .int x1), (2, .int x2), (3, .int (x3 + 1))]) (Ev.cm _) rfl rfl rfl ?_
        refine w_goto (Ev.cm _) rfl ?_
        show Wp _ _ _ _ _ _ _ 2 [(0, .ref 331), (1, .int x1), (2, .int x2), (3, .int (x3 + 1))] [] (HS (sI I 341 x3.toNatClampNeg 1000000) L X)
        refine Wp.sub [0, 1, 2, 3] (ls2 := [(0, .ref 331), (1, .int x1), (2, .int x2), (3, .int (x3 + 1))]) rfl ?_
        exact ih _ _ _ _ _ q
      · have c2 : x3 = x2 := c2
        rw [if_pos c2] at q
        refine w_iconst (Ev.cm _) rfl ?_
        refine w_goto (Ev.cm _) rfl ?_
        obtain ⟨b2, q⟩ := ois q
        refine w_iast (Ev.cm _) rfl (Nat.le_of_ble_eq_true rfl) rfl (show vp_in x3 13 from vpI 13 (by decide) b2.1 b2.2) ?_
        refine w_iinc (ls2 := [(0, .ref 331), (1, .int x1), (2, .int x2), (3, .int (x3 + 1))]) (Ev.cm _) rfl rfl rfl ?_
        refine w_goto (Ev.cm _) rfl ?_
        show Wp _ _ _ _ _ _ _ 2 [(0, .ref 331), (1, .int x1), (2, .int x2), (3, .int (x3 + 1))] [] (HS (sI I 341 x3.toNatClampNeg 0) L X)
        refine Wp.sub [0, 1, 2, 3] (ls2 := [(0, .ref 331), (1, .int x1), (2, .int x2), (3, .int (x3 + 1))]) rfl ?_
        exact ih _ _ _ _ _ q
def FO_M_layFar (fu : Nat) (p0 : Int32) (p1 : Int32) (I : Nat → Nat → Int32) (L : Nat → Nat → Int64) : Option (Unit × (Nat → Nat → Int32) × (Nat → Nat → Int64)) := LO_M_layFar_2 fu fu p0 p1 0 I L
set_option maxHeartbeats 20000000 in
set_option maxRecDepth 20000 in
theorem eo_M_layFar {d fu : Nat} {p0 : Int32} {p1 : Int32} {I : Nat → Nat → Int32} {L : Nat → Nat → Int64} {X : Nat × (Nat → Int32)} {Q : PQ} {res : Unit × (Nat → Nat → Int32) × (Nat → Nat → Int64)}  (g : Q none (HS res.2.1 res.2.2 X)) (q : FO_M_layFar fu p0 p1 I L = some res) : Ev (d + 10) m_M_layFar [.ref 331, .int p0, .int p1] (HS I L X) Q := by
  unfold FO_M_layFar at q
  refine ev_start (d := d + 9) rfl rfl rfl (Nat.le_of_ble_eq_true rfl) ?_
  show Wp (Ev (d + 9)) cd_M_layFar (0, 0) none _ _ Q 0 [(0, .ref 331), (1, .int p0), (2, .int p1)] [] (HS I L X)
  refine w_iconst (Ev.cm _) rfl ?_
  refine w_istore_n (ls2 := [(0, .ref 331), (1, .int p0), (2, .int p1), (3, .int 0)]) (Ev.cm _) rfl rfl ?_
  show Wp _ _ _ _ _ _ _ 2 [(0, .ref 331), (1, .int p0), (2, .int p1), (3, .int 0)] [] (HS I L X)
  refine Wp.sub [0, 1, 2, 3] (ls2 := [(0, .ref 331), (1, .int p0), (2, .int p1), (3, .int 0)]) rfl ?_
  exact lo_M_layFar_2 g fu _ _ _ _ _ q
