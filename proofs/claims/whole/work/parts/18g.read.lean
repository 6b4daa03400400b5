/-! methods, read back by program -/
def LO_R_cutTokens_10 (fu : Nat) : Nat → Int32 → Int32 → Int32 → (Nat → Nat → Int32) → (Nat → Nat → Int64) → Option (Unit × (Nat → Nat → Int32) × (Nat → Nat → Int64))
  | 0, _, _, _, _, _ => none
  | n + 1, x2, x3, x4, I, L => if 300 ≤ x4 then ((FO_R_addToken fu 0 x2 0 I L).bind (fun u1 => let r1 := u1.1; let I1 := u1.2.1; let L1 := u1.2.2; some ((), I1, L1))) else (if x2 ≤ x3 then ((FO_R_addToken fu 0 x2 0 I L).bind (fun u2 => let r2 := u2.1; let I2 := u2.2.1; let L2 := u2.2.2; some ((), I2, L2))) else (if 0 ≤ x3 ∧ x3 < 300 then ((FO_R_isLetter fu (I 306 x3.toNatClampNeg) I L).bind (fun u4 => let r4 := u4.1; let I4 := u4.2.1; let L4 := u4.2.2; if r4 = 0 then ((FO_R_isDigit fu (I 306 x3.toNatClampNeg) I4 L4).bind (fun u5 => let r5 := u5.1; let I5 := u5.2.1; let L5 := u5.2.2; if r5 = 0 then (if I 306 x3.toNatClampNeg = 32 then (LO_R_cutTokens_10 fu n x2 (x3 + 1) (x4 + 1) I5 L5) else (if I 306 x3.toNatClampNeg = 10 then (LO_R_cutTokens_10 fu n x2 (x3 + 1) (x4 + 1) I5 L5) else (if x2 ≤ x3 + 1 then ((FO_R_signOf fu (I 306 x3.toNatClampNeg) (((x3 + 1) + 0) - x3) I5 L5).bind (fun u6 => let r6 := u6.1; let I6 := u6.2.1; let L6 := u6.2.2; (FO_R_addToken fu r6 x3 0 I6 L6).bind (fun u7 => let r7 := u7.1; let I7 := u7.2.1; let L7 := u7.2.2; LO_R_cutTokens_10 fu n x2 ((x3 + 1) + 0) (x4 + 1) I7 L7))) else (if 0 ≤ x3 + 1 ∧ x3 + 1 < 300 then (if I5 306 ((x3 + 1).toNatClampNeg) = 61 then (if I 306 x3.toNatClampNeg = 60 then ((FO_R_signOf fu (I 306 x3.toNatClampNeg) (((x3 + 1) + 1) - x3) I5 L5).bind (fun u11 => let r11 := u11.1; let I11 := u11.2.1; let L11 := u11.2.2; (FO_R_addToken fu r11 x3 0 I11 L11).bind (fun u12 => let r12 := u12.1; let I12 := u12.2.1; let L12 := u12.2.2; LO_R_cutTokens_10 fu n x2 ((x3 + 1) + 1) (x4 + 1) I12 L12))) else (if I 306 x3.toNatClampNeg = 62 then ((FO_R_signOf fu (I 306 x3.toNatClampNeg) (((x3 + 1) + 1) - x3) I5 L5).bind (fun u15 => let r15 := u15.1; let I15 := u15.2.1; let L15 := u15.2.2; (FO_R_addToken fu r15 x3 0 I15 L15).bind (fun u16 => let r16 := u16.1; let I16 := u16.2.1; let L16 := u16.2.2; LO_R_cutTokens_10 fu n x2 ((x3 + 1) + 1) (x4 + 1) I16 L16))) else ((FO_R_signOf fu (I 306 x3.toNatClampNeg) (((x3 + 1) + 0) - x3) I5 L5).bind (fun u13 => let r13 := u13.1; let I13 := u13.2.1; let L13 := u13.2.2; (FO_R_addToken fu r13 x3 0 I13 L13).bind (fun u14 => let r14 := u14.1; let I14 := u14.2.1; let L14 := u14.2.2; LO_R_cutTokens_10 fu n x2 ((x3 + 1) + 0) (x4 + 1) I14 L14))))) else ((FO_R_signOf fu (I 306 x3.toNatClampNeg) (((x3 + 1) + 0) - x3) I5 L5).bind (fun u9 => let r9 := u9.1; let I9 := u9.2.1; let L9 := u9.2.2; (FO_R_addToken fu r9 x3 0 I9 L9).bind (fun u10 => let r10 := u10.1; let I10 := u10.2.1; let L10 := u10.2.2; LO_R_cutTokens_10 fu n x2 ((x3 + 1) + 0) (x4 + 1) I10 L10)))) else none)))) else ((FO_R_behindRun fu x3 x2 0 I5 L5).bind (fun u17 => let r17 := u17.1; let I17 := u17.2.1; let L17 := u17.2.2; (FO_R_numberOf fu x3 r17 I17 L17).bind (fun u18 => let r18 := u18.1; let I18 := u18.2.1; let L18 := u18.2.2; (FO_R_addToken fu 2 x3 r18 I18 L18).bind (fun u19 => let r19 := u19.1; let I19 := u19.2.1; let L19 := u19.2.2; LO_R_cutTokens_10 fu n x2 r17 (x4 + 1) I19 L19)))))) else ((FO_R_behindRun fu x3 x2 1 I4 L4).bind (fun u20 => let r20 := u20.1; let I20 := u20.2.1; let L20 := u20.2.2; (FO_R_wordOf fu x3 r20 I20 L20).bind (fun u21 => let r21 := u21.1; let I21 := u21.2.1; let L21 := u21.2.2; (FO_R_addToken fu r21 x3 0 I21 L21).bind (fun u22 => let r22 := u22.1; let I22 := u22.2.1; let L22 := u22.2.2; LO_R_cutTokens_10 fu n x2 r20 (x4 + 1) I22 L22)))))) else none))
set_option maxHeartbeats 20000000 in
set_option maxRecDepth 20000 in
theorem lo_R_cutTokens_10 {d fu n0 s0 : Nat} {X : Nat × (Nat → Int32)} {Q : PQ} {res : Unit × (Nat → Nat → Int32) × (Nat → Nat → Int64)}  (g : Q none (HS res.2.1 res.2.2 X)) : ∀ (n : Nat) (x2 : Int32) (x3 : Int32) (x4 : Int32) (I : Nat → Nat → Int32) (L : Nat → Nat → Int64), LO_R_cutTokens_10 fu n x2 x3 x4 I L = some res → Wp (Ev (d + 3)) cd_R_cutTokens (0, 0) none n0 s0 Q 10 [(0, .ref 307), (1, .ref 306), (2, .int x2), (3, .int x3), (4, .int x4)] [] (HS I L X) := by
  intro n
  induction n with
  | zero => intro _ _ _ _ _ q; cases q
  | succ n ih =>
    intro x2 x3 x4 I L q
    unfold LO_R_cutTokens_10 at q
    refine w_iload (Ev.cm _) rfl rfl ?_
    refine w_sipush (Ev.cm _) rfl ?_
    refine w_icmp_ge (Ev.cm _) rfl (fun c1 => ?_) (fun c1 => ?_)
    · have c1 : 300 ≤ x4 := c1
      rw [if_pos c1] at q
      refine w_aload_n (Ev.cm _) rfl rfl ?_
      refine w_iconst (Ev.cm _) rfl ?_
      refine w_iload_n (Ev.cm _) rfl rfl ?_
      refine w_iconst (Ev.cm _) rfl ?_
      obtain ⟨⟨r1, I1, L1⟩, e1, q⟩ := obs q
      dsimp only at q
      refine w_cvirt (o := 307) (as := [.int 0, .int x2, .int 0]) (st := []) (Ev.cm _) rfl rfl rfl (Nat.le_of_ble_eq_true rfl) (Nat.le_of_ble_eq_true rfl) rfl (Nat.le_of_ble_eq_true rfl) (eo_R_addToken (g := ?_) e1)
      show Wp _ _ _ _ _ _ _ 191 [(0, .ref 307), (1, .ref 306), (2, .int x2), (3, .int x3), (4, .int x4)] [] (HS I1 L1 X)
      refine w_return (Ev.cm _) rfl rfl rf0 ?_
      cases q
      exact g
    · have c1 : ¬ (300 ≤ x4) := c1
      rw [if_neg c1] at q
      refine w_iload_n (Ev.cm _) rfl rfl ?_
      refine w_iload_n (Ev.cm _) rfl rfl ?_
      refine w_icmp_ge (Ev.cm _) rfl (fun c2 => ?_) (fun c2 => ?_)
      · have c2 : x2 ≤ x3 := c2
        rw [if_pos c2] at q
        refine w_aload_n (Ev.cm _) rfl rfl ?_
        refine w_iconst (Ev.cm _) rfl ?_
        refine w_iload_n (Ev.cm _) rfl rfl ?_
        refine w_iconst (Ev.cm _) rfl ?_
        obtain ⟨⟨r2, I2, L2⟩, e2, q⟩ := obs q
        dsimp only at q
        refine w_cvirt (o := 307) (as := [.int 0, .int x2, .int 0]) (st := []) (Ev.cm _) rfl rfl rfl (Nat.le_of_ble_eq_true rfl) (Nat.le_of_ble_eq_true rfl) rfl (Nat.le_of_ble_eq_true rfl) (eo_R_addToken (g := ?_) e2)
        show Wp _ _ _ _ _ _ _ 191 [(0, .ref 307), (1, .ref 306), (2, .int x2), (3, .int x3), (4, .int x4)] [] (HS I2 L2 X)
        refine w_return (Ev.cm _) rfl rfl rf0 ?_
        cases q
        exact g
      · have c2 : ¬ (x2 ≤ x3) := c2
        rw [if_neg c2] at q
        refine w_aload_n (Ev.cm _) rfl rfl ?_
        refine w_iload_n (Ev.cm _) rfl rfl ?_
        obtain ⟨b3, q⟩ := ois q
        refine w_iald (Ev.cm _) rfl (Nat.le_of_ble_eq_true rfl) rfl (show vp_in x3 300 from vpI 300 (by decide) b3.1 b3.2) ?_
        refine w_istore (ls2 := [(0, .ref 307), (1, .ref 306), (2, .int x2), (3, .int x3), (4, .int x4), (5, .int (I 306 x3.toNatClampNeg))]) (Ev.cm _) rfl rfl ?_
        refine w_iload_n (Ev.cm _) rfl rfl ?_
        refine w_iconst (Ev.cm _) rfl ?_
        refine w_iadd (Ev.cm _) rfl ?_
        refine w_istore (ls2 := [(0, .ref 307), (1, .ref 306), (2, .int x2), (3, .int x3), (4, .int x4), (5, .int (I 306 x3.toNatClampNeg)), (6, .int (x3 + 1))]) (Ev.cm _) rfl rfl ?_
        refine w_iload (Ev.cm _) rfl rfl ?_
        obtain ⟨⟨r4, I4, L4⟩, e4, q⟩ := obs q
        dsimp only at q
        refine w_cstat (as := [.int (I 306 x3.toNatClampNeg)]) (st := []) (Ev.cm _) rfl rfl rfl (Nat.le_of_ble_eq_true rfl) (Nat.le_of_ble_eq_true rfl) (eo_R_isLetter (g := ?_) e4)
        show Wp _ _ _ _ _ _ _ 38 [(0, .ref 307), (1, .ref 306), (2, .int x2), (3, .int x3), (4, .int x4), (5, .int (I 306 x3.toNatClampNeg)), (6, .int (x3 + 1))] [.int r4] (HS I4 L4 X)
        refine w_if_eq (Ev.cm _) rfl (fun c3 => ?_) (fun c3 => ?_)
        · have c3 : r4 = 0 := c3
          rw [if_pos c3] at q
          refine w_iload (Ev.cm _) rfl rfl ?_
          obtain ⟨⟨r5, I5, L5⟩, e5, q⟩ := obs q
          dsimp only at q
          refine w_cstat (as := [.int (I 306 x3.toNatClampNeg)]) (st := []) (Ev.cm _) rfl rfl rfl (Nat.le_of_ble_eq_true rfl) (Nat.le_of_ble_eq_true rfl) (eo_R_isDigit (g := ?_) e5)
          show Wp _ _ _ _ _ _ _ 71 [(0, .ref 307), (1, .ref 306), (2, .int x2), (3, .int x3), (4, .int x4), (5, .int (I 306 x3.toNatClampNeg)), (6, .int (x3 + 1))] [.int r5] (HS I5 L5 X)
          refine w_if_eq (Ev.cm _) rfl (fun c4 => ?_) (fun c4 => ?_)
          · have c4 : r5 = 0 := c4
            rw [if_pos c4] at q
            refine w_iload (Ev.cm _) rfl rfl ?_
            refine w_bipush (Ev.cm _) rfl ?_
            refine w_icmp_eq (Ev.cm _) rfl (fun c5 => ?_) (fun c5 => ?_)
            · have c5 : I 306 x3.toNatClampNeg = 32 := c5
              rw [if_pos c5] at q
              refine w_iload (Ev.cm _) rfl rfl ?_
              refine w_istore_n (ls2 := [(0, .ref 307), (1, .ref 306), (2, .int x2), (3, .int (x3 + 1)), (4, .int x4), (5, .int (I 306 x3.toNatClampNeg)), (6, .int (x3 + 1))]) (Ev.cm _) rfl rfl ?_
              refine w_iinc (ls2 := [(0, .ref 307), (1, .ref 306), (2, .int x2), (3, .int (x3 + 1)), (4, .int (x4 + 1)), (5, .int (I 306 x3.toNatClampNeg)), (6, .int (x3 + 1))]) (Ev.cm _) rfl rfl rfl ?_
              refine w_goto (Ev.cm _) rfl ?_
              show Wp _ _ _ _ _ _ _ 10 [(0, .ref 307), (1, .ref 306), (2, .int x2), (3, .int (x3 + 1)), (4, .int (x4 + 1)), (5, .int (I 306 x3.toNatClampNeg)), (6, .int (x3 + 1))] [] (HS I5 L5 X)
              refine Wp.sub [0, 1, 2, 3, 4] (ls2 := [(0, .ref 307), (1, .ref 306), (2, .int x2), (3, .int (x3 + 1)), (4, .int (x4 + 1))]) rfl ?_
              exact ih _ _ _ _ _ q
            · have c5 : ¬ (I 306 x3.toNatClampNeg = 32) := c5
              rw [if_neg c5] at q
              refine w_iload (Ev.cm _) rfl rfl ?_
              refine w_bipush (Ev.cm _) rfl ?_
              refine w_icmp_eq (Ev.cm _) rfl (fun c6 => ?_) (fun c6 => ?_)
              · have c6 : I 306 x3.toNatClampNeg = 10 := c6
                rw [if_pos c6] at q
                refine w_iload (Ev.cm _) rfl rfl ?_
                refine w_istore_n (ls2 := [(0, .ref 307), (1, .ref 306), (2, .int x2), (3, .int (x3 + 1)), (4, .int x4), (5, .int (I 306 x3.toNatClampNeg)), (6, .int (x3 + 1))]) (Ev.cm _) rfl rfl ?_
                refine w_iinc (ls2 := [(0, .ref 307), (1, .ref 306), (2, .int x2), (3, .int (x3 + 1)), (4, .int (x4 + 1)), (5, .int (I 306 x3.toNatClampNeg)), (6, .int (x3 + 1))]) (Ev.cm _) rfl rfl rfl ?_
                refine w_goto (Ev.cm _) rfl ?_
                show Wp _ _ _ _ _ _ _ 10 [(0, .ref 307), (1, .ref 306), (2, .int x2), (3, .int (x3 + 1)), (4, .int (x4 + 1)), (5, .int (I 306 x3.toNatClampNeg)), (6, .int (x3 + 1))] [] (HS I5 L5 X)
                refine Wp.sub [0, 1, 2, 3, 4] (ls2 := [(0, .ref 307), (1, .ref 306), (2, .int x2), (3, .int (x3 + 1)), (4, .int (x4 + 1))]) rfl ?_
                exact ih _ _ _ _ _ q
              · have c6 : ¬ (I 306 x3.toNatClampNeg = 10) := c6
                rw [if_neg c6] at q
                refine w_iload (Ev.cm _) rfl rfl ?_
                refine w_iload_n (Ev.cm _) rfl rfl ?_
                refine w_icmp_ge (Ev.cm _) rfl (fun c7 => ?_) (fun c7 => ?_)
                · have c7 : x2 ≤ x3 + 1 := c7
                  rw [if_pos c7] at q
                  refine w_iconst (Ev.cm _) rfl ?_
                  refine w_istore (ls2 := [(0, .ref 307), (1, .ref 306), (2, .int x2), (3, .int x3), (4, .int x4), (5, .int (I 306 x3.toNatClampNeg)), (6, .int (x3 + 1)), (7, .int 0)]) (Ev.cm _) rfl rfl ?_
                  refine w_iload (Ev.cm _) rfl rfl ?_
                  refine w_iload (Ev.cm _) rfl rfl ?_
                  refine w_bipush (Ev.cm _) rfl ?_
                  refine w_icmp_ne (Ev.cm _) rfl (fun _ => ?_) (fun q => absurd q (by decide))
                  refine w_iconst (Ev.cm _) rfl ?_
                  refine w_iadd (Ev.cm _) rfl ?_
                  refine w_istore (ls2 := [(0, .ref 307), (1, .ref 306), (2, .int x2), (3, .int x3), (4, .int x4), (5, .int (I 306 x3.toNatClampNeg)), (6, .int ((x3 + 1) + 0)), (7, .int 0)]) (Ev.cm _) rfl rfl ?_
                  refine w_aload_n (Ev.cm _) rfl rfl ?_
                  refine w_iload (Ev.cm _) rfl rfl ?_
                  refine w_iload (Ev.cm _) rfl rfl ?_
                  refine w_iload_n (Ev.cm _) rfl rfl ?_
                  refine w_isub (Ev.cm _) rfl ?_
                  obtain ⟨⟨r6, I6, L6⟩, e6, q⟩ := obs q
                  dsimp only at q
                  refine w_cstat (as := [.int (I 306 x3.toNatClampNeg), .int (((x3 + 1) + 0) - x3)]) (st := [.ref 307]) (Ev.cm _) rfl rfl rfl (Nat.le_of_ble_eq_true rfl) (Nat.le_of_ble_eq_true rfl) (eo_R_signOf (g := ?_) e6)
                  show Wp _ _ _ _ _ _ _ 170 [(0, .ref 307), (1, .ref 306), (2, .int x2), (3, .int x3), (4, .int x4), (5, .int (I 306 x3.toNatClampNeg)), (6, .int ((x3 + 1) + 0)), (7, .int 0)] [.int r6, .ref 307] (HS I6 L6 X)
                  refine w_iload_n (Ev.cm _) rfl rfl ?_
                  refine w_iconst (Ev.cm _) rfl ?_
                  obtain ⟨⟨r7, I7, L7⟩, e7, q⟩ := obs q
                  dsimp only at q
                  refine w_cvirt (o := 307) (as := [.int r6, .int x3, .int 0]) (st := []) (Ev.cm _) rfl rfl rfl (Nat.le_of_ble_eq_true rfl) (Nat.le_of_ble_eq_true rfl) rfl (Nat.le_of_ble_eq_true rfl) (eo_R_addToken (g := ?_) e7)
                  show Wp _ _ _ _ _ _ _ 175 [(0, .ref 307), (1, .ref 306), (2, .int x2), (3, .int x3), (4, .int x4), (5, .int (I 306 x3.toNatClampNeg)), (6, .int ((x3 + 1) + 0)), (7, .int 0)] [] (HS I7 L7 X)
                  refine w_iload (Ev.cm _) rfl rfl ?_
                  refine w_istore_n (ls2 := [(0, .ref 307), (1, .ref 306), (2, .int x2), (3, .int ((x3 + 1) + 0)), (4, .int x4), (5, .int (I 306 x3.toNatClampNeg)), (6, .int ((x3 + 1) + 0)), (7, .int 0)]) (Ev.cm _) rfl rfl ?_
                  refine w_iinc (ls2 := [(0, .ref 307), (1, .ref 306), (2, .int x2), (3, .int ((x3 + 1) + 0)), (4, .int (x4 + 1)), (5, .int (I 306 x3.toNatClampNeg)), (6, .int ((x3 + 1) + 0)), (7, .int 0)]) (Ev.cm _) rfl rfl rfl ?_
                  refine w_goto (Ev.cm _) rfl ?_
                  show Wp _ _ _ _ _ _ _ 10 [(0, .ref 307), (1, .ref 306), (2, .int x2), (3, .int ((x3 + 1) + 0)), (4, .int (x4 + 1)), (5, .int (I 306 x3.toNatClampNeg)), (6, .int ((x3 + 1) + 0)), (7, .int 0)] [] (HS I7 L7 X)
                  refine Wp.sub [0, 1, 2, 3, 4] (ls2 := [(0, .ref 307), (1, .ref 306), (2, .int x2), (3, .int ((x3 + 1) + 0)), (4, .int (x4 + 1))]) rfl ?_
                  exact ih _ _ _ _ _ q
                · have c7 : ¬ (x2 ≤ x3 + 1) := c7
                  rw [if_neg c7] at q
                  refine w_aload_n (Ev.cm _) rfl rfl ?_
                  refine w_iload (Ev.cm _) rfl rfl ?_
                  obtain ⟨b8, q⟩ := ois q
                  refine w_iald (Ev.cm _) rfl (Nat.le_of_ble_eq_true rfl) rfl (show vp_in (x3 + 1) 300 from vpI 300 (by decide) b8.1 b8.2) ?_
                  refine w_goto (Ev.cm _) rfl ?_
                  refine w_istore (ls2 := [(0, .ref 307), (1, .ref 306), (2, .int x2), (3, .int x3), (4, .int x4), (5, .int (I 306 x3.toNatClampNeg)), (6, .int (x3 + 1)), (7, .int (I5 306 ((x3 + 1).toNatClampNeg)))]) (Ev.cm _) rfl rfl ?_
                  refine w_iload (Ev.cm _) rfl rfl ?_
                  refine w_iload (Ev.cm _) rfl rfl ?_
                  refine w_bipush (Ev.cm _) rfl ?_
                  refine w_icmp_ne (Ev.cm _) rfl (fun c9 => ?_) (fun c9 => ?_)
                  · have c9 : ¬ (I5 306 ((x3 + 1).toNatClampNeg) = 61) := c9
                    rw [if_neg c9] at q
                    refine w_iconst (Ev.cm _) rfl ?_
                    refine w_iadd (Ev.cm _) rfl ?_
                    refine w_istore (ls2 := [(0, .ref 307), (1, .ref 306), (2, .int x2), (3, .int x3), (4, .int x4), (5, .int (I 306 x3.toNatClampNeg)), (6, .int ((x3 + 1) + 0)), (7, .int (I5 306 ((x3 + 1).toNatClampNeg)))]) (Ev.cm _) rfl rfl ?_
                    refine w_aload_n (Ev.cm _) rfl rfl ?_
                    refine w_iload (Ev.cm _) rfl rfl ?_
                    refine w_iload (Ev.cm _) rfl rfl ?_
                    refine w_iload_n (Ev.cm _) rfl rfl ?_
                    refine w_isub (Ev.cm _) rfl ?_
                    obtain ⟨⟨r9, I9, L9⟩, e9, q⟩ := obs q
                    dsimp only at q
                    refine w_cstat (as := [.int (I 306 x3.toNatClampNeg), .int (((x3 + 1) + 0) - x3)]) (st := [.ref 307]) (Ev.cm _) rfl rfl rfl (Nat.le_of_ble_eq_true rfl) (Nat.le_of_ble_eq_true rfl) (eo_R_signOf (g := ?_) e9)
                    show Wp _ _ _ _ _ _ _ 170 [(0, .ref 307), (1, .ref 306), (2, .int x2), (3, .int x3), (4, .int x4), (5, .int (I 306 x3.toNatClampNeg)), (6, .int ((x3 + 1) + 0)), (7, .int (I5 306 ((x3 + 1).toNatClampNeg)))] [.int r9, .ref 307] (HS I9 L9 X)
                    refine w_iload_n (Ev.cm _) rfl rfl ?_
                    refine w_iconst (Ev.cm _) rfl ?_
                    obtain ⟨⟨r10, I10, L10⟩, e10, q⟩ := obs q
                    dsimp only at q
                    refine w_cvirt (o := 307) (as := [.int r9, .int x3, .int 0]) (st := []) (Ev.cm _) rfl rfl rfl (Nat.le_of_ble_eq_true rfl) (Nat.le_of_ble_eq_true rfl) rfl (Nat.le_of_ble_eq_true rfl) (eo_R_addToken (g := ?_) e10)
                    show Wp _ _ _ _ _ _ _ 175 [(0, .ref 307), (1, .ref 306), (2, .int x2), (3, .int x3), (4, .int x4), (5, .int (I 306 x3.toNatClampNeg)), (6, .int ((x3 + 1) + 0)), (7, .int (I5 306 ((x3 + 1).toNatClampNeg)))] [] (HS I10 L10 X)
                    refine w_iload (Ev.cm _) rfl rfl ?_
                    refine w_istore_n (ls2 := [(0, .ref 307), (1, .ref 306), (2, .int x2), (3, .int ((x3 + 1) + 0)), (4, .int x4), (5, .int (I 306 x3.toNatClampNeg)), (6, .int ((x3 + 1) + 0)), (7, .int (I5 306 ((x3 + 1).toNatClampNeg)))]) (Ev.cm _) rfl rfl ?_
                    refine w_iinc (ls2 := [(0, .ref 307), (1, .ref 306), (2, .int x2), (3, .int ((x3 + 1) + 0)), (4, .int (x4 + 1)), (5, .int (I 306 x3.toNatClampNeg)), (6, .int ((x3 + 1) + 0)), (7, .int (I5 306 ((x3 + 1).toNatClampNeg)))]) (Ev.cm _) rfl rfl rfl ?_
                    refine w_goto (Ev.cm _) rfl ?_
                    show Wp _ _ _ _ _ _ _ 10 [(0, .ref 307), (1, .ref 306), (2, .int x2), (3, .int ((x3 + 1) + 0)), (4, .int (x4 + 1)), (5, .int (I 306 x3.toNatClampNeg)), (6, .int ((x3 + 1) + 0)), (7, .int (I5 306 ((x3 + 1).toNatClampNeg)))] [] (HS I10 L10 X)
                    refine Wp.sub [0, 1, 2, 3, 4] (ls2 := [(0, .ref 307), (1, .ref 306), (2, .int x2), (3, .int ((x3 + 1) + 0)), (4, .int (x4 + 1))]) rfl ?_
                    exact ih _ _ _ _ _ q
                  · have c9 : I5 306 ((x3 + 1).toNatClampNeg) = 61 := c9
                    rw [if_pos c9] at q
                    refine w_iload (Ev.cm _) rfl rfl ?_
                    refine w_bipush (Ev.cm _) rfl ?_
                    refine w_icmp_eq (Ev.cm _) rfl (fun c10 => ?_) (fun c10 => ?_)
                    · have c10 : I 306 x3.toNatClampNeg = 60 := c10
                      rw [if_pos c10] at q
                      refine w_iconst (Ev.cm _) rfl ?_
                      refine w_goto (Ev.cm _) rfl ?_
                      refine w_iadd (Ev.cm _) rfl ?_
                      refine w_istore (ls2 := [(0, .ref 307), (1, .ref 306), (2, .int x2), (3, .int x3), (4, .int x4), (5, .int (I 306 x3.toNatClampNeg)), (6, .int ((x3 + 1) + 1)), (7, .int (I5 306 ((x3 + 1).toNatClampNeg)))]) (Ev.cm _) rfl rfl ?_
                      refine w_aload_n (Ev.cm _) rfl rfl ?_
                      refine w_iload (Ev.cm _) rfl rfl ?_
                      refine w_iload (Ev.cm _) rfl rfl ?_
                      refine w_iload_n (Ev.cm _) rfl rfl ?_
                      refine w_isub (Ev.cm _) rfl ?_
                      obtain ⟨⟨r11, I11, L11⟩, e11, q⟩ := obs q
                      dsimp only at q
                      refine w_cstat (as := [.int (I 306 x3.toNatClampNeg), .int (((x3 + 1) + 1) - x3)]) (st := [.ref 307]) (Ev.cm _) rfl rfl rfl (Nat.le_of_ble_eq_true rfl) (Nat.le_of_ble_eq_true rfl) (eo_R_signOf (g := ?_) e11)
                      show Wp _ _ _ _ _ _ _ 170 [(0, .ref 307), (1, .ref 306), (2, .int x2), (3, .int x3), (4, .int x4), (5, .int (I 306 x3.toNatClampNeg)), (6, .int ((x3 + 1) + 1)), (7, .int (I5 306 ((x3 + 1).toNatClampNeg)))] [.int r11, .ref 307] (HS I11 L11 X)
                      refine w_iload_n (Ev.cm _) rfl rfl ?_
                      refine w_iconst (Ev.cm _) rfl ?_
                      obtain ⟨⟨r12, I12, L12⟩, e12, q⟩ := obs q
                      dsimp only at q
                      refine w_cvirt (o := 307) (as := [.int r11, .int x3, .int 0]) (st := []) (Ev.cm _) rfl rfl rfl (Nat.le_of_ble_eq_true rfl) (Nat.le_of_ble_eq_true rfl) rfl (Nat.le_of_ble_eq_true rfl) (eo_R_addToken (g := ?_) e12)
                      show Wp _ _ _ _ _ _ _ 175 [(0, .ref 307), (1, .ref 306), (2, .int x2), (3, .int x3), (4, .int x4), (5, .int (I 306 x3.toNatClampNeg)), (6, .int ((x3 + 1) + 1)), (7, .int (I5 306 ((x3 + 1).toNatClampNeg)))] [] (HS I12 L12 X)
                      refine w_iload (Ev.cm _) rfl rfl ?_
                      refine w_istore_n (ls2 := [(0, .ref 307), (1, .ref 306), (2, .int x2), (3, .int ((x3 + 1) + 1)), (4, .int x4), (5, .int (I 306 x3.toNatClampNeg)), (6, .int ((x3 + 1) + 1)), (7, .int (I5 306 ((x3 + 1).toNatClampNeg)))]) (Ev.cm _) rfl rfl ?_
                      refine w_iinc (ls2 := [(0, .ref 307), (1, .ref 306), (2, .int x2), (3, .int ((x3 + 1) + 1)), (4, .int (x4 + 1)), (5, .int (I 306 x3.toNatClampNeg)), (6, .int ((x3 + 1) + 1)), (7, .int (I5 306 ((x3 + 1).toNatClampNeg)))]) (Ev.cm _) rfl rfl rfl ?_
                      refine w_goto (Ev.cm _) rfl ?_
                      show Wp _ _ _ _ _ _ _ 10 [(0, .ref 307), (1, .ref 306), (2, .int x2), (3, .int ((x3 + 1) + 1)), (4, .int (x4 + 1)), (5, .int (I 306 x3.toNatClampNeg)), (6, .int ((x3 + 1) + 1)), (7, .int (I5 306 ((x3 + 1).toNatClampNeg)))] [] (HS I12 L12 X)
                      refine Wp.sub [0, 1, 2, 3, 4] (ls2 := [(0, .ref 307), (1, .ref 306), (2, .int x2), (3, .int ((x3 + 1) + 1)), (4, .int (x4 + 1))]) rfl ?_
                      exact ih _ _ _ _ _ q
                    · have c10 : ¬ (I 306 x3.toNatClampNeg = 60) := c10
                      rw [if_neg c10] at q
                      refine w_iload (Ev.cm _) rfl rfl ?_
                      refine w_bipush (Ev.cm _) rfl ?_
                      refine w_icmp_ne (Ev.cm _) rfl (fun c11 => ?_) (fun c11 => ?_)
                      · have c11 : ¬ (I 306 x3.toNatClampNeg = 62) := c11
                        rw [if_neg c11] at q
                        refine w_iconst (Ev.cm _) rfl ?_
                        refine w_iadd (Ev.cm _) rfl ?_
                        refine w_istore (ls2 := [(0, .ref 307), (1, .ref 306), (2, .int x2), (3, .int x3), (4, .int x4), (5, .int (I 306 x3.toNatClampNeg)), (6, .int ((x3 + 1) + 0)), (7, .int (I5 306 ((x3 + 1).toNatClampNeg)))]) (Ev.cm _) rfl rfl ?_
                        refine w_aload_n (Ev.cm _) rfl rfl ?_
                        refine w_iload (Ev.cm _) rfl rfl ?_
                        refine w_iload (Ev.cm _) rfl rfl ?_
                        refine w_iload_n (Ev.cm _) rfl rfl ?_
                        refine w_isub (Ev.cm _) rfl ?_
                        obtain ⟨⟨r13, I13, L13⟩, e13, q⟩ := obs q
                        dsimp only at q
                        refine w_cstat (as := [.int (I 306 x3.toNatClampNeg), .int (((x3 + 1) + 0) - x3)]) (st := [.ref 307]) (Ev.cm _) rfl rfl rfl (Nat.le_of_ble_eq_true rfl) (Nat.le_of_ble_eq_true rfl) (eo_R_signOf (g := ?_) e13)
                        show Wp _ _ _ _ _ _ _ 170 [(0, .ref 307), (1, .ref 306), (2, .int x2), (3, .int x3), (4, .int x4), (5, .int (I 306 x3.toNatClampNeg)), (6, .int ((x3 + 1) + 0)), (7, .int (I5 306 ((x3 + 1).toNatClampNeg)))] [.int r13, .ref 307] (HS I13 L13 X)
                        refine w_iload_n (Ev.cm _) rfl rfl ?_
                        refine w_iconst (Ev.cm _) rfl ?_
                        obtain ⟨⟨r14, I14, L14⟩, e14, q⟩ := obs q
                        dsimp only at q
                        refine w_cvirt (o := 307) (as := [.int r13, .int x3, .int 0]) (st := []) (Ev.cm _) rfl rfl rfl (Nat.le_of_ble_eq_true rfl) (Nat.le_of_ble_eq_true rfl) rfl (Nat.le_of_ble_eq_true rfl) (eo_R_addToken (g := ?_) e14)
                        show Wp _ _ _ _ _ _ _ 175 [(0, .ref 307), (1, .ref 306), (2, .int x2), (3, .int x3), (4, .int x4), (5, .int (I 306 x3.toNatClampNeg)), (6, .int ((x3 + 1) + 0)), (7, .int (I5 306 ((x3 + 1).toNatClampNeg)))] [] (HS I14 L14 X)
                        refine w_iload (Ev.cm _) rfl rfl ?_
                        refine w_istore_n (ls2 := [(0, .ref 307), (1, .ref 306), (2, .int x2), (3, .int ((x3 + 1) + 0)), (4, .int x4), (5, .int (I 306 x3.toNatClampNeg)), (6, .int ((x3 + 1) + 0)), (7, .int (I5 306 ((x3 + 1).toNatClampNeg)))]) (Ev.cm _) rfl rfl ?_
                        refine w_iinc (ls2 := [(0, .ref 307), (1, .ref 306), (2, .int x2), (3, .int ((x3 + 1) + 0)), (4, .int (x4 + 1)), (5, .int (I 306 x3.toNatClampNeg)), (6, .int ((x3 + 1) + 0)), (7, .int (I5 306 ((x3 + 1).toNatClampNeg)))]) (Ev.cm _) rfl rfl rfl ?_
                        refine w_goto (Ev.cm _) rfl ?_
                        show Wp _ _ _ _ _ _ _ 10 [(0, .ref 307), (1, .ref 306), (2, .int x2), (3, .int ((x3 + 1) + 0)), (4, .int (x4 + 1)), (5, .int (I 306 x3.toNatClampNeg)), (6, .int ((x3 + 1) + 0)), (7, .int (I5 306 ((x3 + 1).toNatClampNeg)))] [] (HS I14 L14 X)
                        refine Wp.sub [0, 1, 2, 3, 4] (ls2 := [(0, .ref 307), (1, .ref 306), (2, .int x2), (3, .int ((x3 + 1) + 0)), (4, .int (x4 + 1))]) rfl ?_
                        exact ih _ _ _ _ _ q
                      · have c11 : I 306 x3.toNatClampNeg = 62 := c11
                        rw [if_pos c11] at q
                        refine w_iconst (Ev.cm _) rfl ?_
                        refine w_goto (Ev.cm _) rfl ?_
                        refine w_iadd (Ev.cm _) rfl ?_
                        refine w_istore (ls2 := [(0, .ref 307), (1, .ref 306), (2, .int x2), (3, .int x3), (4, .int x4), (5, .int (I 306 x3.toNatClampNeg)), (6, .int ((x3 + 1) + 1)), (7, .int (I5 306 ((x3 + 1).toNatClampNeg)))]) (Ev.cm _) rfl rfl ?_
                        refine w_aload_n (Ev.cm _) rfl rfl ?_
                        refine w_iload (Ev.cm _) rfl rfl ?_
                        refine w_iload (Ev.cm _) rfl rfl ?_
                        refine w_iload_n (Ev.cm _) rfl rfl ?_
                        refine w_isub (Ev.cm _) rfl ?_
                        obtain ⟨⟨r15, I15, L15⟩, e15, q⟩ := obs q
                        dsimp only at q
                        refine w_cstat (as := [.int (I 306 x3.toNatClampNeg), .int (((x3 + 1) + 1) - x3)]) (st := [.ref 307]) (Ev.cm _) rfl rfl rfl (Nat.le_of_ble_eq_true rfl) (Nat.le_of_ble_eq_true rfl) (eo_R_signOf (g := ?_) e15)
                        show Wp _ _ _ _ _ _ _ 170 [(0, .ref 307), (1, .ref 306), (2, .int x2), (3, .int x3), (4, .int x4), (5, .int (I 306 x3.toNatClampNeg)), (6, .int ((x3 + 1) + 1)), (7, .int (I5 306 ((x3 + 1).toNatClampNeg)))] [.int r15, .ref 307] (HS I15 L15 X)
                        refine w_iload_n (Ev.cm _) rfl rfl ?_
                        refine w_iconst (Ev.cm _) rfl ?_
                        obtain ⟨⟨r16, I16, L16⟩, e16, q⟩ := obs q
                        dsimp only at q
                        refine w_cvirt (o := 307) (as := [.int r15, .int x3, .int 0]) (st := []) (Ev.cm _) rfl rfl rfl (Nat.le_of_ble_eq_true rfl) (Nat.le_of_ble_eq_true rfl) rfl (Nat.le_of_ble_eq_true rfl) (eo_R_addToken (g := ?_) e16)
                        show Wp _ _ _ _ _ _ _ 175 [(0, .ref 307), (1, .ref 306), (2, .int x2), (3, .int x3), (4, .int x4), (5, .int (I 306 x3.toNatClampNeg)), (6, .int ((x3 + 1) + 1)), (7, .int (I5 306 ((x3 + 1).toNatClampNeg)))] [] (HS I16 L16 X)
                        refine w_iload (Ev.cm _) rfl rfl ?_
                        refine w_istore_n (ls2 := [(0, .ref 307), (1, .ref 306), (2, .int x2), (3, .int ((x3 + 1) + 1)), (4, .int x4), (5, .int (I 306 x3.toNatClampNeg)), (6, .int ((x3 + 1) + 1)), (7, .int (I5 306 ((x3 + 1).toNatClampNeg)))]) (Ev.cm _) rfl rfl ?_
                        refine w_iinc (ls2 := [(0, .ref 307), (1, .ref 306), (2, .int x2), (3, .int ((x3 + 1) + 1)), (4, .int (x4 + 1)), (5, .int (I 306 x3.toNatClampNeg)), (6, .int ((x3 + 1) + 1)), (7, .int (I5 306 ((x3 + 1).toNatClampNeg)))]) (Ev.cm _) rfl rfl rfl ?_
                        refine w_goto (Ev.cm _) rfl ?_
                        show Wp _ _ _ _ _ _ _ 10 [(0, .ref 307), (1, .ref 306), (2, .int x2), (3, .int ((x3 + 1) + 1)), (4, .int (x4 + 1)), (5, .int (I 306 x3.toNatClampNeg)), (6, .int ((x3 + 1) + 1)), (7, .int (I5 306 ((x3 + 1).toNatClampNeg)))] [] (HS I16 L16 X)
                        refine Wp.sub [0, 1, 2, 3, 4] (ls2 := [(0, .ref 307), (1, .ref 306), (2, .int x2), (3, .int ((x3 + 1) + 1)), (4, .int (x4 + 1))]) rfl ?_
                        exact ih _ _ _ _ _ q
          · have c4 : ¬ (r5 = 0) := c4
            rw [if_neg c4] at q
            refine w_aload_n (Ev.cm _) rfl rfl ?_
            refine w_iload_n (Ev.cm _) rfl rfl ?_
            refine w_iload_n (Ev.cm _) rfl rfl ?_
            refine w_iconst (Ev.cm _) rfl ?_
            obtain ⟨⟨r17, I17, L17⟩, e17, q⟩ := obs q
            dsimp only at q
            refine w_cstat (as := [.ref 306, .int x3, .int x2, .int 0]) (st := []) (Ev.cm _) rfl rfl rfl (Nat.le_of_ble_eq_true rfl) (Nat.le_of_ble_eq_true rfl) (eo_R_behindRun (g := ?_) e17)
            show Wp _ _ _ _ _ _ _ 81 [(0, .ref 307), (1, .ref 306), (2, .int x2), (3, .int x3), (4, .int x4), (5, .int (I 306 x3.toNatClampNeg)), (6, .int (x3 + 1))] [.int r17] (HS I17 L17 X)
            refine w_istore (ls2 := [(0, .ref 307), (1, .ref 306), (2, .int x2), (3, .int x3), (4, .int x4), (5, .int (I 306 x3.toNatClampNeg)), (6, .int r17)]) (Ev.cm _) rfl rfl ?_
            refine w_aload_n (Ev.cm _) rfl rfl ?_
            refine w_iconst (Ev.cm _) rfl ?_
            refine w_iload_n (Ev.cm _) rfl rfl ?_
            refine w_aload_n (Ev.cm _) rfl rfl ?_
            refine w_iload_n (Ev.cm _) rfl rfl ?_
            refine w_iload (Ev.cm _) rfl rfl ?_
            obtain ⟨⟨r18, I18, L18⟩, e18, q⟩ := obs q
            dsimp only at q
            refine w_cstat (as := [.ref 306, .int x3, .int r17]) (st := [.int x3, .int 2, .ref 307]) (Ev.cm _) rfl rfl rfl (Nat.le_of_ble_eq_true rfl) (Nat.le_of_ble_eq_true rfl) (eo_R_numberOf (g := ?_) e18)
            show Wp _ _ _ _ _ _ _ 93 [(0, .ref 307), (1, .ref 306), (2, .int x2), (3, .int x3), (4, .int x4), (5, .int (I 306 x3.toNatClampNeg)), (6, .int r17)] [.int r18, .int x3, .int 2, .ref 307] (HS I18 L18 X)
            obtain ⟨⟨r19, I19, L19⟩, e19, q⟩ := obs q
            dsimp only at q
            refine w_cvirt (o := 307) (as := [.int 2, .int x3, .int r18]) (st := []) (Ev.cm _) rfl rfl rfl (Nat.le_of_ble_eq_true rfl) (Nat.le_of_ble_eq_true rfl) rfl (Nat.le_of_ble_eq_true rfl) (eo_R_addToken (g := ?_) e19)
            show Wp _ _ _ _ _ _ _ 96 [(0, .ref 307), (1, .ref 306), (2, .int x2), (3, .int x3), (4, .int x4), (5, .int (I 306 x3.toNatClampNeg)), (6, .int r17)] [] (HS I19 L19 X)
            refine w_goto (Ev.cm _) rfl ?_
            refine w_iload (Ev.cm _) rfl rfl ?_
            refine w_istore_n (ls2 := [(0, .ref 307), (1, .ref 306), (2, .int x2), (3, .int r17), (4, .int x4), (5, .int (I 306 x3.toNatClampNeg)), (6, .int r17)]) (Ev.cm _) rfl rfl ?_
            refine w_iinc (ls2 := [(0, .ref 307), (1, .ref 306), (2, .int x2), (3, .int r17), (4, .int (x4 + 1)), (5, .int (I 306 x3.toNatClampNeg)), (6, .int r17)]) (Ev.cm _) rfl rfl rfl ?_
            refine w_goto (Ev.cm _) rfl ?_
            show Wp _ _ _ _ _ _ _ 10 [(0, .ref 307), (1, .ref 306), (2, .int x2), (3, .int r17), (4, .int (x4 + 1)), (5, .int (I 306 x3.toNatClampNeg)), (6, .int r17)] [] (HS I19 L19 X)
            refine Wp.sub [0, 1, 2, 3, 4] (ls2 := [(0, .ref 307), (1, .ref 306), (2, .int x2), (3, .int r17), (4, .int (x4 + 1))]) rfl ?_
            exact ih _ _ _ _ _ q
        · have c3 : ¬ (r4 = 0) := c3
          rw [if_neg c3] at q
          refine w_aload_n (Ev.cm _) rfl rfl ?_
          refine w_iload_n (Ev.cm _) rfl rfl ?_
          refine w_iload_n (Ev.cm _) rfl rfl ?_
          refine w_iconst (Ev.cm _) rfl ?_
          obtain ⟨⟨r20, I20, L20⟩, e20, q⟩ := obs q
          dsimp only at q
          refine w_cstat (as := [.ref 306, .int x3, .int x2, .int 1]) (st := []) (Ev.cm _) rfl rfl rfl (Nat.le_of_ble_eq_true rfl) (Nat.le_of_ble_eq_true rfl) (eo_R_behindRun (g := ?_) e20)
          show Wp _ _ _ _ _ _ _ 48 [(0, .ref 307), (1, .ref 306), (2, .int x2), (3, .int x3), (4, .int x4), (5, .int (I 306 x3.toNatClampNeg)), (6, .int (x3 + 1))] [.int r20] (HS I20 L20 X)
          refine w_istore (ls2 := [(0, .ref 307), (1, .ref 306), (2, .int x2), (3, .int x3), (4, .int x4), (5, .int (I 306 x3.toNatClampNeg)), (6, .int r20)]) (Ev.cm _) rfl rfl ?_
          refine w_aload_n (Ev.cm _) rfl rfl ?_
          refine w_aload_n (Ev.cm _) rfl rfl ?_
          refine w_iload_n (Ev.cm _) rfl rfl ?_
          refine w_iload (Ev.cm _) rfl rfl ?_
          obtain ⟨⟨r21, I21, L21⟩, e21, q⟩ := obs q
          dsimp only at q
          refine w_cstat (as := [.ref 306, .int x3, .int r20]) (st := [.ref 307]) (Ev.cm _) rfl rfl rfl (Nat.le_of_ble_eq_true rfl) (Nat.le_of_ble_eq_true rfl) (eo_R_wordOf (g := ?_) e21)
          show Wp _ _ _ _ _ _ _ 58 [(0, .ref 307), (1, .ref 306), (2, .int x2), (3, .int x3), (4, .int x4), (5, .int (I 306 x3.toNatClampNeg)), (6, .int r20)] [.int r21, .ref 307] (HS I21 L21 X)
          refine w_iload_n (Ev.cm _) rfl rfl ?_
          refine w_iconst (Ev.cm _) rfl ?_
          obtain ⟨⟨r22, I22, L22⟩, e22, q⟩ := obs q
          dsimp only at q
          refine w_cvirt (o := 307) (as := [.int r21, .int x3, .int 0]) (st := []) (Ev.cm _) rfl rfl rfl (Nat.le_of_ble_eq_true rfl) (Nat.le_of_ble_eq_true rfl) rfl (Nat.le_of_ble_eq_true rfl) (eo_R_addToken (g := ?_) e22)
          show Wp _ _ _ _ _ _ _ 63 [(0, .ref 307), (1, .ref 306), (2, .int x2), (3, .int x3), (4, .int x4), (5, .int (I 306 x3.toNatClampNeg)), (6, .int r20)] [] (HS I22 L22 X)
          refine w_goto (Ev.cm _) rfl ?_
          refine w_iload (Ev.cm _) rfl rfl ?_
          refine w_istore_n (ls2 := [(0, .ref 307), (1, .ref 306), (2, .int x2), (3, .int r20), (4, .int x4), (5, .int (I 306 x3.toNatClampNeg)), (6, .int r20)]) (Ev.cm _) rfl rfl ?_
          refine w_iinc (ls2 := [(0, .ref 307), (1, .ref 306), (2, .int x2), (3, .int r20), (4, .int (x4 + 1)), (5, .int (I 306 x3.toNatClampNeg)), (6, .int r20)]) (Ev.cm _) rfl rfl rfl ?_
          refine w_goto (Ev.cm _) rfl ?_
          show Wp _ _ _ _ _ _ _ 10 [(0, .ref 307), (1, .ref 306), (2, .int x2), (3, .int r20), (4, .int (x4 + 1)), (5, .int (I 306 x3.toNatClampNeg)), (6, .int r20)] [] (HS I22 L22 X)
          refine Wp.sub [0, 1, 2, 3, 4] (ls2 := [(0, .ref 307), (1, .ref 306), (2, .int x2), (3, .int r20), (4, .int (x4 + 1))]) rfl ?_
          exact ih _ _ _ _ _ q
def FO_R_cutTokens (fu : Nat) (p1 : Int32) (I : Nat → Nat → Int32) (L : Nat → Nat → Int64) : Option (Unit × (Nat → Nat → Int32) × (Nat → Nat → Int64)) := LO_R_cutTokens_10 fu fu p1 0 0 (sI I 307 7 0) L
set_option maxHeartbeats 20000000 in
set_option maxRecDepth 20000 in
theorem eo_R_cutTokens {d fu : Nat} {p1 : Int32} {I : Nat → Nat → Int32} {L : Nat → Nat → Int64} {X : Nat × (Nat → Int32)} {Q : PQ} {res : Unit × (Nat → Nat → Int32) × (Nat → Nat → Int64)}  (g : Q none (HS res.2.1 res.2.2 X)) (q : FO_R_cutTokens fu p1 I L = some res) : Ev (d + 4) m_R_cutTokens [.ref 307, .ref 306, .int p1] (HS I L X) Q := by
  unfold FO_R_cutTokens at q
  refine ev_start (d := d + 3) rfl rfl rfl (Nat.le_of_ble_eq_true rfl) ?_
  show Wp (Ev (d + 3)) cd_R_cutTokens (0, 0) none _ _ Q 0 [(0, .ref 307), (1, .ref 306), (2, .int p1)] [] (HS I L X)
  refine w_aload_n (Ev.cm _) rfl rfl ?_
  refine w_iconst (Ev.cm _) rfl ?_
  refine w_putI (Ev.cm _) rfl (Nat.le_of_ble_eq_true rfl) rfl ?_
  refine w_iconst (Ev.cm _) rfl ?_
  refine w_istore_n (ls2 := [(0, .ref 307), (1, .ref 306), (2, .int p1), (3, .int 0)]) (Ev.cm _) rfl rfl ?_
  refine w_iconst (Ev.cm _) rfl ?_
  refine w_istore (ls2 := [(0, .ref 307), (1, .ref 306), (2, .int p1), (3, .int 0), (4, .int 0)]) (Ev.cm _) rfl rfl ?_
  show Wp _ _ _ _ _ _ _ 10 [(0, .ref 307), (1, .ref 306), (2, .int p1), (3, .int 0), (4, .int 0)] [] (HS (sI I 307 7 0) L X)
  refine Wp.sub [0, 1, 2, 3, 4] (ls2 := [(0, .ref 307), (1, .ref 306), (2, .int p1), (3, .int 0), (4, .int 0)]) rfl ?_
  exact lo_R_cutTokens_10 g fu _ _ _ _ _ q
def FO_R_readPair (fu : Nat) (p0 : Int32) (p1 : Int32) (p2 : Int32) (p3 : Int32) (p4 : Int32) (I : Nat → Nat → Int32) (L : Nat → Nat → Int64) : Option (Int32 × (Nat → Nat → Int32) × (Nat → Nat → Int64)) := (FO_R_passNumber fu 1 p1 I L).bind (fun u1 => let r1 := u1.1; let I1 := u1.2.1; let L1 := u1.2.2; if r1 = 0 then (some (0, I1, L1)) else ((FO_R_pass fu p2 I1 L1).bind (fun u2 => let r2 := u2.1; let I2 := u2.2.1; let L2 := u2.2.2; if r2 = 0 then (some (0, I2, L2)) else ((FO_T_addClause fu p0 (I 307 10) (I2 307 10) I2 L2).bind (fun u3 => let r3 := u3.1; let I3 := u3.2.1; let L3 := u3.2.2; (FO_R_passNumber fu p3 p4 I3 L3).bind (fun u4 => let r4 := u4.1; let I4 := u4.2.1; let L4 := u4.2.2; if r4 = 0 ∨ r4 = 1 then (some (r4, I4, L4)) else none))))))
set_option maxHeartbeats 20000000 in
set_option maxRecDepth 20000 in
theorem eo_R_readPair {d fu : Nat} {p0 : Int32} {p1 : Int32} {p2 : Int32} {p3 : Int32} {p4 : Int32} {I : Nat → Nat → Int32} {L : Nat → Nat → Int64} {X : Nat × (Nat → Int32)} {Q : PQ} {res : Int32 × (Nat → Nat → Int32) × (Nat → Nat → Int64)}  (g : Q (some (.int res.1)) (HS res.2.1 res.2.2 X)) (q : FO_R_readPair fu p0 p1 p2 p3 p4 I L = some res) : Ev (d + 4) m_R_readPair [.ref 307, .int p0, .int p1, .int p2, .int p3, .int p4] (HS I L X) Q := by
  unfold FO_R_readPair at q
  refine ev_start (d := d + 3) rfl rfl rfl (Nat.le_of_ble_eq_true rfl) ?_
  show Wp (Ev (d + 3)) cd_R_readPair (0, 0) (some .boolean) _ _ Q 0 [(0, .ref 307), (1, .int p0), (2, .int p1), (3, .int p2), (4, .int p3), (5, .int p4)] [] (HS I L X)
  refine w_aload_n (Ev.cm _) rfl rfl ?_
  refine w_getI (Ev.cm _) rfl (Nat.le_of_ble_eq_true rfl) rfl ?_
  refine w_istore (ls2 := [(0, .ref 307), (1, .int p0), (2, .int p1), (3, .int p2), (4, .int p3), (5, .int p4), (6, .int (I 307 10))]) (Ev.cm _) rfl rfl ?_
  refine w_aload_n (Ev.cm _) rfl rfl ?_
  refine w_iconst (Ev.cm _) rfl ?_
  refine w_iload_n (Ev.cm _) rfl rfl ?_
  obtain ⟨⟨r1, I1, L1⟩, e1, q⟩ := obs q
  dsimp only at q
  refine w_cvirt (o := 307) (as := [.int 1, .int p1]) (st := []) (Ev.cm _) rfl rfl rfl (Nat.le_of_ble_eq_true rfl) (Nat.le_of_ble_eq_true rfl) rfl (Nat.le_of_ble_eq_true rfl) (eo_R_passNumber (g := ?_) e1)
  show Wp _ _ _ _ _ _ _ 12 [(0, .ref 307), (1, .int p0), (2, .int p1), (3, .int p2), (4, .int p3), (5, .int p4), (6, .int (I 307 10))] [.int r1] (HS I1 L1 X)
  refine w_if_eq (Ev.cm _) rfl (fun c1 => ?_) (fun c1 => ?_)
  · have c1 : r1 = 0 := c1
    rw [if_pos c1] at q
    refine w_iconst (Ev.cm _) rfl ?_
    refine w_ireturn (Ev.cm _) rfl (by first | exact rok_0 | exact rok_1 | exact rok_b) rf0 ?_
    cases q
    exact g
  · have c1 : ¬ (r1 = 0) := c1
    rw [if_neg c1] at q
    refine w_aload_n (Ev.cm _) rfl rfl ?_
    refine w_iload_n (Ev.cm _) rfl rfl ?_
    obtain ⟨⟨r2, I2, L2⟩, e2, q⟩ := obs q
    dsimp only at q
    refine w_cvirt (o := 307) (as := [.int p2]) (st := []) (Ev.cm _) rfl rfl rfl (Nat.le_of_ble_eq_true rfl) (Nat.le_of_ble_eq_true rfl) rfl (Nat.le_of_ble_eq_true rfl) (eo_R_pass (g := ?_) e2)
    show Wp _ _ _ _ _ _ _ 20 [(0, .ref 307), (1, .int p0), (2, .int p1), (3, .int p2), (4, .int p3), (5, .int p4), (6, .int (I 307 10))] [.int r2] (HS I2 L2 X)
    refine w_if_ne (Ev.cm _) rfl (fun c2 => ?_) (fun c2 => ?_)
    · have c2 : ¬ (r2 = 0) := c2
      rw [if_neg c2] at q
      refine w_aload_n (Ev.cm _) rfl rfl ?_
      refine w_getR (q := 308) (Ev.cm _) rfl (Nat.le_of_ble_eq_true rfl) rfl rfl ?_
      refine w_iload_n (Ev.cm _) rfl rfl ?_
      refine w_iload (Ev.cm _) rfl rfl ?_
      refine w_aload_n (Ev.cm _) rfl rfl ?_
      refine w_getI (Ev.cm _) rfl (Nat.le_of_ble_eq_true rfl) rfl ?_
      obtain ⟨⟨r3, I3, L3⟩, e3, q⟩ := obs q
      dsimp only at q
      refine w_cvirt (o := 308) (as := [.int p0, .int (I 307 10), .int (I2 307 10)]) (st := []) (Ev.cm _) rfl rfl rfl (Nat.le_of_ble_eq_true rfl) (Nat.le_of_ble_eq_true rfl) rfl (Nat.le_of_ble_eq_true rfl) (eo_T_addClause (g := ?_) e3)
      show Wp _ _ _ _ _ _ _ 39 [(0, .ref 307), (1, .int p0), (2, .int p1), (3, .int p2), (4, .int p3), (5, .int p4), (6, .int (I 307 10))] [] (HS I3 L3 X)
      refine w_aload_n (Ev.cm _) rfl rfl ?_
      refine w_iload (Ev.cm _) rfl rfl ?_
      refine w_iload (Ev.cm _) rfl rfl ?_
      obtain ⟨⟨r4, I4, L4⟩, e4, q⟩ := obs q
      dsimp only at q
      refine w_cvirt (o := 307) (as := [.int p3, .int p4]) (st := []) (Ev.cm _) rfl rfl rfl (Nat.le_of_ble_eq_true rfl) (Nat.le_of_ble_eq_true rfl) rfl (Nat.le_of_ble_eq_true rfl) (eo_R_passNumber (g := ?_) e4)
      show Wp _ _ _ _ _ _ _ 47 [(0, .ref 307), (1, .int p0), (2, .int p1), (3, .int p2), (4, .int p3), (5, .int p4), (6, .int (I 307 10))] [.int r4] (HS I4 L4 X)
      obtain ⟨b5, q⟩ := ois q
      refine w_ireturn (Ev.cm _) rfl (show rok (some .boolean) _ from b5) rf0 ?_
      cases q
      exact g
    · have c2 : r2 = 0 := c2
      rw [if_pos c2] at q
      refine w_iconst (Ev.cm _) rfl ?_
      refine w_ireturn (Ev.cm _) rfl (by first | exact rok_0 | exact rok_1 | exact rok_b) rf0 ?_
      cases q
      exact g
def FO_R_readSingle (fu : Nat) (p0 : Int32) (p1 : Int32) (I : Nat → Nat → Int32) (L : Nat → Nat → Int64) : Option (Int32 × (Nat → Nat → Int32) × (Nat → Nat → Int64)) := (FO_T_addClause fu p0 (I 307 10) 0 I L).bind (fun u1 => let r1 := u1.1; let I1 := u1.2.1; let L1 := u1.2.2; (FO_R_passNumber fu 1 p1 I1 L1).bind (fun u2 => let r2 := u2.1; let I2 := u2.2.1; let L2 := u2.2.2; if r2 = 0 ∨ r2 = 1 then (some (r2, I2, L2)) else none))
set_option maxHeartbeats 20000000 in
set_option maxRecDepth 20000 in
theorem eo_R_readSingle {d fu : Nat} {p0 : Int32} {p1 : Int32} {I : Nat → Nat → Int32} {L : Nat → Nat → Int64} {X : Nat × (Nat → Int32)} {Q : PQ} {res : Int32 × (Nat → Nat → Int32) × (Nat → Nat → Int64)}  (g : Q (some (.int res.1)) (HS res.2.1 res.2.2 X)) (q : FO_R_readSingle fu p0 p1 I L = some res) : Ev (d + 4) m_R_readSingle [.ref 307, .int p0, .int p1] (HS I L X) Q := by
  unfold FO_R_readSingle at q
  refine ev_start (d := d + 3) rfl rfl rfl (Nat.le_of_ble_eq_true rfl) ?_
  show Wp (Ev (d + 3)) cd_R_readSingle (0, 0) (some .boolean) _ _ Q 0 [(0, .ref 307), (1, .int p0), (2, .int p1)] [] (HS I L X)
  refine w_aload_n (Ev.cm _) rfl rfl ?_
  refine w_getR (q := 308) (Ev.cm _) rfl (Nat.le_of_ble_eq_true rfl) rfl rfl ?_
  refine w_iload_n (Ev.cm _) rfl rfl ?_
  refine w_aload_n (Ev.cm _) rfl rfl ?_
  refine w_getI (Ev.cm _) rfl (Nat.le_of_ble_eq_true rfl) rfl ?_
  refine w_iconst (Ev.cm _) rfl ?_
  obtain ⟨⟨r1, I1, L1⟩, e1, q⟩ := obs q
  dsimp only at q
  refine w_cvirt (o := 308) (as := [.int p0, .int (I 307 10), .int 0]) (st := []) (Ev.cm _) rfl rfl rfl (Nat.le_of_ble_eq_true rfl) (Nat.le_of_ble_eq_true rfl) rfl (Nat.le_of_ble_eq_true rfl) (eo_T_addClause (g := ?_) e1)
  show Wp _ _ _ _ _ _ _ 13 [(0, .ref 307), (1, .int p0), (2, .int p1)] [] (HS I1 L1 X)
  refine w_aload_n (Ev.cm _) rfl rfl ?_
  refine w_iconst (Ev.cm _) rfl ?_
  refine w_iload_n (Ev.cm _) rfl rfl ?_
  obtain ⟨⟨r2, I2, L2⟩, e2, q⟩ := obs q
  dsimp only at q
  refine w_cvirt (o := 307) (as := [.int 1, .int p1]) (st := []) (Ev.cm _) rfl rfl rfl (Nat.le_of_ble_eq_true rfl) (Nat.le_of_ble_eq_true rfl) rfl (Nat.le_of_ble_eq_true rfl) (eo_R_passNumber (g := ?_) e2)
  show Wp _ _ _ _ _ _ _ 19 [(0, .ref 307), (1, .int p0), (2, .int p1)] [.int r2] (HS I2 L2 X)
  obtain ⟨b3, q⟩ := ois q
  refine w_ireturn (Ev.cm _) rfl (show rok (some .boolean) _ from b3) rf0 ?_
  cases q
  exact g
def FO_R_one (fu : Nat) (kO : Int32 → Int32 → (Nat → Nat → Int32) → (Nat → Nat → Int64) → Option (Int32 × (Nat → Nat → Int32) × (Nat → Nat → Int64))) (kA : Int32 → (Nat → Nat → Int32) → (Nat → Nat → Int64) → Option (Int32 × (Nat → Nat → Int32) × (Nat → Nat → Int64))) (p0 : Int32) (I : Nat → Nat → Int32) (L : Nat → Nat → Int64) : Option (Int32 × (Nat → Nat → Int32) × (Nat → Nat → Int64)) := if I 307 9 = 2 then ((FO_T_addCode fu 2 (I 307 10) I L).bind (fun u34 => let r34 := u34.1; let I34 := u34.2.1; let L34 := u34.2.2; (FO_R_passNumber fu 0 9999 I34 L34).bind (fun u35 => let r35 := u35.1; let I35 := u35.2.1; let L35 := u35.2.2; if r35 = 0 ∨ r35 = 1 then (some (r35, I35, L35)) else none))) else (if (30 : Int32) ≤ (I 307 9) ∧ (I 307 9) ≤ (37 : Int32) then (if I 307 11 = 39 then (if I 307 9 < 33 then ((FO_T_addCode fu 60 ((I 307 9) - 30) I L).bind (fun u30 => let r30 := u30.1; let I30 := u30.2.1; let L30 := u30.2.2; (FO_R_comeTo fu ((I30 307 8) + 1) I30 L30).bind (fun u31 => let r31 := u31.1; let I31 := u31.2.1; let L31 := u31.2.2; some (1, I31, L31)))) else ((FO_R_fail fu 5 I L).bind (fun u32 => let r32 := u32.1; let I32 := u32.2.1; let L32 := u32.2.2; if r32 = 0 ∨ r32 = 1 then (some (r32, I32, L32)) else none))) else ((FO_T_addCode fu 60 ((I 307 9) - 30) I L).bind (fun u28 => let r28 := u28.1; let I28 := u28.2.1; let L28 := u28.2.2; (FO_R_comeTo fu ((I28 307 8) + 1) I28 L28).bind (fun u29 => let r29 := u29.1; let I29 := u29.2.1; let L29 := u29.2.2; some (1, I29, L29))))) else (if I 307 9 = 18 then (if p0 < 8 then ((FO_R_comeTo fu ((I 307 8) + 1) I L).bind (fun u1 => let r1 := u1.1; let I1 := u1.2.1; let L1 := u1.2.2; (kO (I 307 9) (p0 + 1) I1 L1).bind (fun u2 => let r2 := u2.1; let I2 := u2.2.1; let L2 := u2.2.2; if r2 = 0 ∨ r2 = 1 then (some (r2, I2, L2)) else none))) else ((FO_R_fail fu 3 I L).bind (fun u4 => let r4 := u4.1; let I4 := u4.2.1; let L4 := u4.2.2; if r4 = 0 ∨ r4 = 1 then (some (r4, I4, L4)) else none))) else (if I 307 9 = 15 then (if p0 < 8 then ((FO_R_comeTo fu ((I 307 8) + 1) I L).bind (fun u6 => let r6 := u6.1; let I6 := u6.2.1; let L6 := u6.2.2; (kO (I 307 9) (p0 + 1) I6 L6).bind (fun u7 => let r7 := u7.1; let I7 := u7.2.1; let L7 := u7.2.2; if r7 = 0 ∨ r7 = 1 then (some (r7, I7, L7)) else none))) else ((FO_R_fail fu 3 I L).bind (fun u9 => let r9 := u9.1; let I9 := u9.2.1; let L9 := u9.2.2; if r9 = 0 ∨ r9 = 1 then (some (r9, I9, L9)) else none))) else (if I 307 9 = 45 then (if p0 < 8 then ((FO_R_comeTo fu ((I 307 8) + 1) I L).bind (fun u11 => let r11 := u11.1; let I11 := u11.2.1; let L11 := u11.2.2; (kO (I 307 9) (p0 + 1) I11 L11).bind (fun u12 => let r12 := u12.1; let I12 := u12.2.1; let L12 := u12.2.2; if r12 = 0 ∨ r12 = 1 then (some (r12, I12, L12)) else none))) else ((FO_R_fail fu 3 I L).bind (fun u14 => let r14 := u14.1; let I14 := u14.2.1; let L14 := u14.2.2; if r14 = 0 ∨ r14 = 1 then (some (r14, I14, L14)) else none))) else (if I 307 9 = 46 then (if p0 < 8 then ((FO_R_comeTo fu ((I 307 8) + 1) I L).bind (fun u16 => let r16 := u16.1; let I16 := u16.2.1; let L16 := u16.2.2; (kO (I 307 9) (p0 + 1) I16 L16).bind (fun u17 => let r17 := u17.1; let I17 := u17.2.1; let L17 := u17.2.2; if r17 = 0 ∨ r17 = 1 then (some (r17, I17, L17)) else none))) else ((FO_R_fail fu 3 I L).bind (fun u19 => let r19 := u19.1; let I19 := u19.2.1; let L19 := u19.2.2; if r19 = 0 ∨ r19 = 1 then (some (r19, I19, L19)) else none))) else (if I 307 9 = 47 then (if p0 < 8 then ((FO_R_comeTo fu ((I 307 8) + 1) I L).bind (fun u21 => let r21 := u21.1; let I21 := u21.2.1; let L21 := u21.2.2; (kO (I 307 9) (p0 + 1) I21 L21).bind (fun u22 => let r22 := u22.1; let I22 := u22.2.1; let L22 := u22.2.2; if r22 = 0 ∨ r22 = 1 then (some (r22, I22, L22)) else none))) else ((FO_R_fail fu 3 I L).bind (fun u24 => let r24 := u24.1; let I24 := u24.2.1; let L24 := u24.2.2; if r24 = 0 ∨ r24 = 1 then (some (r24, I24, L24)) else none))) else ((FO_R_fail fu 1 I L).bind (fun u26 => let r26 := u26.1; let I26 := u26.2.1; let L26 := u26.2.2; if r26 = 0 ∨ r26 = 1 then (some (r26, I26, L26)) else none))))))))
set_option maxHeartbeats 20000000 in
set_option maxRecDepth 20000 in
theorem eo_R_one {d fu : Nat} {kO : Int32 → Int32 → (Nat → Nat → Int32) → (Nat → Nat → Int64) → Option (Int32 × (Nat → Nat → Int32) × (Nat → Nat → Int64))} {kA : Int32 → (Nat → Nat → Int32) → (Nat → Nat → Int64) → Option (Int32 × (Nat → Nat → Int32) × (Nat → Nat → Int64))} {p0 : Int32} {I : Nat → Nat → Int32} {L : Nat → Nat → Int64} {X : Nat × (Nat → Int32)} {Q : PQ} {res : Int32 × (Nat → Nat → Int32) × (Nat → Nat → Int64)}  (hO : cbO (d + 4) kO) (hA : cbA (d + 4) kA) (g : Q (some (.int res.1)) (HS res.2.1 res.2.2 X)) (q : FO_R_one fu kO kA p0 I L = some res) : Ev (d + 5) m_R_one [.ref 307, .int p0] (HS I L X) Q := by
  unfold FO_R_one at q
  refine ev_start (d := d + 4) rfl rfl rfl (Nat.le_of_ble_eq_true rfl) ?_
  show Wp (Ev (d + 4)) cd_R_one (0, 0) (some .boolean) _ _ Q 0 [(0, .ref 307), (1, .int p0)] [] (HS I L X)
  refine w_aload_n (Ev.cm _) rfl rfl ?_
  refine w_getI (Ev.cm _) rfl (Nat.le_of_ble_eq_true rfl) rfl ?_
  refine w_istore_n (ls2 := [(0, .ref 307), (1, .int p0), (2, .int (I 307 9))]) (Ev.cm _) rfl rfl ?_
  refine w_iload_n (Ev.cm _) rfl rfl ?_
  refine w_iconst (Ev.cm _) rfl ?_
  refine w_icmp_ne (Ev.cm _) rfl (fun c1 => ?_) (fun c1 => ?_)
  · have c1 : ¬ (I 307 9 = 2) := c1
    rw [if_neg c1] at q
    refine w_iload_n (Ev.cm _) rfl rfl ?_
    refine w_bipush (Ev.cm _) rfl ?_
    refine w_bipush (Ev.cm _) rfl ?_
    refine w_cnest (as := [.int (I 307 9), .int 30, .int 37]) (st := []) (Ev.cm _) rfl rfl rfl (Nat.le_of_ble_eq_true rfl) (Nat.le_of_ble_eq_true rfl) (x_within ?_)
    show Wp _ _ _ _ _ _ _ 40 [(0, .ref 307), (1, .int p0), (2, .int (I 307 9))] [.int (bI ((30 : Int32) ≤ (I 307 9) ∧ (I 307 9) ≤ (37 : Int32)))] (HS I L X)
    refine w_if_eq (Ev.cm _) rfl (fun c2 => ?_) (fun c2 => ?_)
    · have c2 : ¬ ((30 : Int32) ≤ (I 307 9) ∧ (I 307 9) ≤ (37 : Int32)) := bI_0.mp c2
      rw [if_neg c2] at q
      refine w_iload_n (Ev.cm _) rfl rfl ?_
      refine w_bipush (Ev.cm _) rfl ?_
      refine w_icmp_eq (Ev.cm _) rfl (fun c3 => ?_) (fun c3 => ?_)
      · have c3 : I 307 9 = 18 := c3
        rw [if_pos c3] at q
        refine w_iload_n (Ev.cm _) rfl rfl ?_
        refine w_bipush (Ev.cm _) rfl ?_
        refine w_icmp_lt (Ev.cm _) rfl (fun c4 => ?_) (fun c4 => ?_)
        · have c4 : p0 < 8 := c4
          rw [if_pos c4] at q
          refine w_aload_n (Ev.cm _) rfl rfl ?_
          refine w_aload_n (Ev.cm _) rfl rfl ?_
          refine w_getI (Ev.cm _) rfl (Nat.le_of_ble_eq_true rfl) rfl ?_
          refine w_iconst (Ev.cm _) rfl ?_
          refine w_iadd (Ev.cm _) rfl ?_
          obtain ⟨⟨r1, I1, L1⟩, e1, q⟩ := obs q
          dsimp only at q
          refine w_cvirt (o := 307) (as := [.int ((I 307 8) + 1)]) (st := []) (Ev.cm _) rfl rfl rfl (Nat.le_of_ble_eq_true rfl) (Nat.le_of_ble_eq_true rfl) rfl (Nat.le_of_ble_eq_true rfl) (eo_R_comeTo (g := ?_) e1)
          show Wp _ _ _ _ _ _ _ 148 [(0, .ref 307), (1, .int p0), (2, .int (I 307 9))] [] (HS I1 L1 X)
          refine w_aload_n (Ev.cm _) rfl rfl ?_
          refine w_iload_n (Ev.cm _) rfl rfl ?_
          refine w_iload_n (Ev.cm _) rfl rfl ?_
          refine w_iconst (Ev.cm _) rfl ?_
          refine w_iadd (Ev.cm _) rfl ?_
          obtain ⟨⟨r2, I2, L2⟩, e2, q⟩ := obs q
          dsimp only at q
          refine w_cvirt (o := 307) (as := [.int (I 307 9), .int (p0 + 1)]) (st := []) (Ev.cm _) rfl rfl rfl (Nat.le_of_ble_eq_true rfl) (Nat.le_of_ble_eq_true rfl) rfl (Nat.le_of_ble_eq_true rfl) (ev_le (show d + 4 ≤ d + 4 by omega) (hO _ _ _ _ _ _ _  ?_ e2))
          show Wp _ _ _ _ _ _ _ 156 [(0, .ref 307), (1, .int p0), (2, .int (I 307 9))] [.int r2] (HS I2 L2 X)
          obtain ⟨b3, q⟩ := ois q
          refine w_ireturn (Ev.cm _) rfl (show rok (some .boolean) _ from b3) rf0 ?_
          cases q
          exact g
        · have c4 : ¬ (p0 < 8) := c4
          rw [if_neg c4] at q
          refine w_aload_n (Ev.cm _) rfl rfl ?_
          refine w_iconst (Ev.cm _) rfl ?_
          obtain ⟨⟨r4, I4, L4⟩, e4, q⟩ := obs q
          dsimp only at q
          refine w_cvirt (o := 307) (as := [.int 3]) (st := []) (Ev.cm _) rfl rfl rfl (Nat.le_of_ble_eq_true rfl) (Nat.le_of_ble_eq_true rfl) rfl (Nat.le_of_ble_eq_true rfl) (eo_R_fail (g := ?_) e4)
          show Wp _ _ _ _ _ _ _ 137 [(0, .ref 307), (1, .int p0), (2, .int (I 307 9))] [.int r4] (HS I4 L4 X)
          obtain ⟨b5, q⟩ := ois q
          refine w_ireturn (Ev.cm _) rfl (show rok (some .boolean) _ from b5) rf0 ?_
          cases q
          exact g
      · have c3 : ¬ (I 307 9 = 18) := c3
        rw [if_neg c3] at q
        refine w_iload_n (Ev.cm _) rfl rfl ?_
        refine w_bipush (Ev.cm _) rfl ?_
        refine w_icmp_eq (Ev.cm _) rfl (fun c5 => ?_) (fun c5 => ?_)
        · have c5 : I 307 9 = 15 := c5
          rw [if_pos c5] at q
          refine w_iload_n (Ev.cm _) rfl rfl ?_
          refine w_bipush (Ev.cm _) rfl ?_
          refine w_icmp_lt (Ev.cm _) rfl (fun c6 => ?_) (fun c6 => ?_)
          · have c6 : p0 < 8 := c6
            rw [if_pos c6] at q
            refine w_aload_n (Ev.cm _) rfl rfl ?_
            refine w_aload_n (Ev.cm _) rfl rfl ?_
            refine w_getI (Ev.cm _) rfl (Nat.le_of_ble_eq_true rfl) rfl ?_
            refine w_iconst (Ev.cm _) rfl ?_
            refine w_iadd (Ev.cm _) rfl ?_
            obtain ⟨⟨r6, I6, L6⟩, e6, q⟩ := obs q
            dsimp only at q
            refine w_cvirt (o := 307) (as := [.int ((I 307 8) + 1)]) (st := []) (Ev.cm _) rfl rfl rfl (Nat.le_of_ble_eq_true rfl) (Nat.le_of_ble_eq_true rfl) rfl (Nat.le_of_ble_eq_true rfl) (eo_R_comeTo (g := ?_) e6)
            show Wp _ _ _ _ _ _ _ 148 [(0, .ref 307), (1, .int p0), (2, .int (I 307 9))] [] (HS I6 L6 X)
            refine w_aload_n (Ev.cm _) rfl rfl ?_
            refine w_iload_n (Ev.cm _) rfl rfl ?_
            refine w_iload_n (Ev.cm _) rfl rfl ?_
            refine w_iconst (Ev.cm _) rfl ?_
            refine w_iadd (Ev.cm _) rfl ?_
            obtain ⟨⟨r7, I7, L7⟩, e7, q⟩ := obs q
            dsimp only at q
            refine w_cvirt (o := 307) (as := [.int (I 307 9), .int (p0 + 1)]) (st := []) (Ev.cm _) rfl rfl rfl (Nat.le_of_ble_eq_true rfl) (Nat.le_of_ble_eq_true rfl) rfl (Nat.le_of_ble_eq_true rfl) (ev_le (show d + 4 ≤ d + 4 by omega) (hO _ _ _ _ _ _ _  ?_ e7))
            show Wp _ _ _ _ _ _ _ 156 [(0, .ref 307), (1, .int p0), (2, .int (I 307 9))] [.int r7] (HS I7 L7 X)
            obtain ⟨b8, q⟩ := ois q
            refine w_ireturn (Ev.cm _) rfl (show rok (some .boolean) _ from b8) rf0 ?_
            cases q
            exact g
          · have c6 : ¬ (p0 < 8) := c6
            rw [if_neg c6] at q
            refine w_aload_n (Ev.cm _) rfl rfl ?_
            refine w_iconst (Ev.cm _) rfl ?_
            obtain ⟨⟨r9, I9, L9⟩, e9, q⟩ := obs q
            dsimp only at q
            refine w_cvirt (o := 307) (as := [.int 3]) (st := []) (Ev.cm _) rfl rfl rfl (Nat.le_of_ble_eq_true rfl) (Nat.le_of_ble_eq_true rfl) rfl (Nat.le_of_ble_eq_true rfl) (eo_R_fail (g := ?_) e9)
            show Wp _ _ _ _ _ _ _ 137 [(0, .ref 307), (1, .int p0), (2, .int (I 307 9))] [.int r9] (HS I9 L9 X)
            obtain ⟨b10, q⟩ := ois q
            refine w_ireturn (Ev.cm _) rfl (show rok (some .boolean) _ from b10) rf0 ?_
            cases q
            exact g
        · have c5 : ¬ (I 307 9 = 15) := c5
          rw [if_neg c5] at q
          refine w_iload_n (Ev.cm _) rfl rfl ?_
          refine w_bipush (Ev.cm _) rfl ?_
          refine w_icmp_eq (Ev.cm _) rfl (fun c7 => ?_) (fun c7 => ?_)
          · have c7 : I 307 9 = 45 := c7
            rw [if_pos c7] at q
            refine w_iload_n (Ev.cm _) rfl rfl ?_
            refine w_bipush (Ev.cm _) rfl ?_
            refine w_icmp_lt (Ev.cm _) rfl (fun c8 => ?_) (fun c8 => ?_)
            · have c8 : p0 < 8 := c8
              rw [if_pos c8] at q
              refine w_aload_n (Ev.cm _) rfl rfl ?_
              refine w_aload_n (Ev.cm _) rfl rfl ?_
              refine w_getI (Ev.cm _) rfl (Nat.le_of_ble_eq_true rfl) rfl ?_
              refine w_iconst (Ev.cm _) rfl ?_
              refine w_iadd (Ev.cm _) rfl ?_
              obtain ⟨⟨r11, I11, L11⟩, e11, q⟩ := obs q
              dsimp only at q
              refine w_cvirt (o := 307) (as := [.int ((I 307 8) + 1)]) (st := []) (Ev.cm _) rfl rfl rfl (Nat.le_of_ble_eq_true rfl) (Nat.le_of_ble_eq_true rfl) rfl (Nat.le_of_ble_eq_true rfl) (eo_R_comeTo (g := ?_) e11)
              show Wp _ _ _ _ _ _ _ 148 [(0, .ref 307), (1, .int p0), (2, .int (I 307 9))] [] (HS I11 L11 X)
              refine w_aload_n (Ev.cm _) rfl rfl ?_
              refine w_iload_n (Ev.cm _) rfl rfl ?_
              refine w_iload_n (Ev.cm _) rfl rfl ?_
              refine w_iconst (Ev.cm _) rfl ?_
              refine w_iadd (Ev.cm _) rfl ?_
              obtain ⟨⟨r12, I12, L12⟩, e12, q⟩ := obs q
              dsimp only at q
              refine w_cvirt (o := 307) (as := [.int (I 307 9), .int (p0 + 1)]) (st := []) (Ev.cm _) rfl rfl rfl (Nat.le_of_ble_eq_true rfl) (Nat.le_of_ble_eq_true rfl) rfl (Nat.le_of_ble_eq_true rfl) (ev_le (show d + 4 ≤ d + 4 by omega) (hO _ _ _ _ _ _ _  ?_ e12))
              show Wp _ _ _ _ _ _ _ 156 [(0, .ref 307), (1, .int p0), (2, .int (I 307 9))] [.int r12] (HS I12 L12 X)
              obtain ⟨b13, q⟩ := ois q
              refine w_ireturn (Ev.cm _) rfl (show rok (some .boolean) _ from b13) rf0 ?_
              cases q
              exact g
            · have c8 : ¬ (p0 < 8) := c8
              rw [if_neg c8] at q
              refine w_aload_n (Ev.cm _) rfl rfl ?_
              refine w_iconst (Ev.cm _) rfl ?_
              obtain ⟨⟨r14, I14, L14⟩, e14, q⟩ := obs q
              dsimp only at q
              refine w_cvirt (o := 307) (as := [.int 3]) (st := []) (Ev.cm _) rfl rfl rfl (Nat.le_of_ble_eq_true rfl) (Nat.le_of_ble_eq_true rfl) rfl (Nat.le_of_ble_eq_true rfl) (eo_R_fail (g := ?_) e14)
              show Wp _ _ _ _ _ _ _ 137 [(0, .ref 307), (1, .int p0), (2, .int (I 307 9))] [.int r14] (HS I14 L14 X)
              obtain ⟨b15, q⟩ := ois q
              refine w_ireturn (Ev.cm _) rfl (show rok (some .boolean) _ from b15) rf0 ?_
              cases q
              exact g
          · have c7 : ¬ (I 307 9 = 45) := c7
            rw [if_neg c7] at q
            refine w_iload_n (Ev.cm _) rfl rfl ?_
            refine w_bipush (Ev.cm _) rfl ?_
            refine w_icmp_eq (Ev.cm _) rfl (fun c9 => ?_) (fun c9 => ?_)
            · have c9 : I 307 9 = 46 := c9
              rw [if_pos c9] at q
              refine w_iload_n (Ev.cm _) rfl rfl ?_
              refine w_bipush (Ev.cm _) rfl ?_
              refine w_icmp_lt (Ev.cm _) rfl (fun c10 => ?_) (fun c10 => ?_)
              · have c10 : p0 < 8 := c10
                rw [if_pos c10] at q
                refine w_aload_n (Ev.cm _) rfl rfl ?_
                refine w_aload_n (Ev.cm _) rfl rfl ?_
                refine w_getI (Ev.cm _) rfl (Nat.le_of_ble_eq_true rfl) rfl ?_
                refine w_iconst (Ev.cm _) rfl ?_
                refine w_iadd (Ev.cm _) rfl ?_
                obtain ⟨⟨r16, I16, L16⟩, e16, q⟩ := obs q
                dsimp only at q
                refine w_cvirt (o := 307) (as := [.int ((I 307 8) + 1)]) (st := []) (Ev.cm _) rfl rfl rfl (Nat.le_of_ble_eq_true rfl) (Nat.le_of_ble_eq_true rfl) rfl (Nat.le_of_ble_eq_true rfl) (eo_R_comeTo (g := ?_) e16)
                show Wp _ _ _ _ _ _ _ 148 [(0, .ref 307), (1, .int p0), (2, .int (I 307 9))] [] (HS I16 L16 X)
                refine w_aload_n (Ev.cm _) rfl rfl ?_
                refine w_iload_n (Ev.cm _) rfl rfl ?_
                refine w_iload_n (Ev.cm _) rfl rfl ?_
                refine w_iconst (Ev.cm _) rfl ?_
                refine w_iadd (Ev.cm _) rfl ?_
                obtain ⟨⟨r17, I17, L17⟩, e17, q⟩ := obs q
                dsimp only at q
                refine w_cvirt (o := 307) (as := [.int (I 307 9), .int (p0 + 1)]) (st := []) (Ev.cm _) rfl rfl rfl (Nat.le_of_ble_eq_true rfl) (Nat.le_of_ble_eq_true rfl) rfl (Nat.le_of_ble_eq_true rfl) (ev_le (show d + 4 ≤ d + 4 by omega) (hO _ _ _ _ _ _ _  ?_ e17))
                show Wp _ _ _ _ _ _ _ 156 [(0, .ref 307), (1, .int p0), (2, .int (I 307 9))] [.int r17] (HS I17 L17 X)
                obtain ⟨b18, q⟩ := ois q
                refine w_ireturn (Ev.cm _) rfl (show rok (some .boolean) _ from b18) rf0 ?_
                cases q
                exact g
              · have c10 : ¬ (p0 < 8) := c10
                rw [if_neg c10] at q
                refine w_aload_n (Ev.cm _) rfl rfl ?_
                refine w_iconst (Ev.cm _) rfl ?_
                obtain ⟨⟨r19, I19, L19⟩, e19, q⟩ := obs q
                dsimp only at q
                refine w_cvirt (o := 307) (as := [.int 3]) (st := []) (Ev.cm _) rfl rfl rfl (Nat.le_of_ble_eq_true rfl) (Nat.le_of_ble_eq_true rfl) rfl (Nat.le_of_ble_eq_true rfl) (eo_R_fail (g := ?_) e19)
                show Wp _ _ _ _ _ _ _ 137 [(0, .ref 307), (1, .int p0), (2, .int (I 307 9))] [.int r19] (HS I19 L19 X)
                obtain ⟨b20, q⟩ := ois q
                refine w_ireturn (Ev.cm _) rfl (show rok (some .boolean) _ from b20) rf0 ?_
                cases q
                exact g
            · have c9 : ¬ (I 307 9 = 46) := c9
              rw [if_neg c9] at q
              refine w_iload_n (Ev.cm _) rfl rfl ?_
              refine w_bipush (Ev.cm _) rfl ?_
              refine w_icmp_eq (Ev.cm _) rfl (fun c11 => ?_) (fun c11 => ?_)
              · have c11 : I 307 9 = 47 := c11
                rw [if_pos c11] at q
                refine w_iload_n (Ev.cm _) rfl rfl ?_
                refine w_bipush (Ev.cm _) rfl ?_
                refine w_icmp_lt (Ev.cm _) rfl (fun c12 => ?_) (fun c12 => ?_)
                · have c12 : p0 < 8 := c12
                  rw [if_pos c12] at q
                  refine w_aload_n (Ev.cm _) rfl rfl ?_
                  refine w_aload_n (Ev.cm _) rfl rfl ?_
                  refine w_getI (Ev.cm _) rfl (Nat.le_of_ble_eq_true rfl) rfl ?_
                  refine w_iconst (Ev.cm _) rfl ?_
                  refine w_iadd (Ev.cm _) rfl ?_
                  obtain ⟨⟨r21, I21, L21⟩, e21, q⟩ := obs q
                  dsimp only at q
                  refine w_cvirt (o := 307) (as := [.int ((I 307 8) + 1)]) (st := []) (Ev.cm _) rfl rfl rfl (Nat.le_of_ble_eq_true rfl) (Nat.le_of_ble_eq_true rfl) rfl (Nat.le_of_ble_eq_true rfl) (eo_R_comeTo (g := ?_) e21)
                  show Wp _ _ _ _ _ _ _ 148 [(0, .ref 307), (1, .int p0), (2, .int (I 307 9))] [] (HS I21 L21 X)
                  refine w_aload_n (Ev.cm _) rfl rfl ?_
                  refine w_iload_n (Ev.cm _) rfl rfl ?_
                  refine w_iload_n (Ev.cm _) rfl rfl ?_
                  refine w_iconst (Ev.cm _) rfl ?_
                  refine w_iadd (Ev.cm _) rfl ?_
                  obtain ⟨⟨r22, I22, L22⟩, e22, q⟩ := obs q
                  dsimp only at q
                  refine w_cvirt (o := 307) (as := [.int (I 307 9), .int (p0 + 1)]) (st := []) (Ev.cm _) rfl rfl rfl (Nat.le_of_ble_eq_true rfl) (Nat.le_of_ble_eq_true rfl) rfl (Nat.le_of_ble_eq_true rfl) (ev_le (show d + 4 ≤ d + 4 by omega) (hO _ _ _ _ _ _ _  ?_ e22))
                  show Wp _ _ _ _ _ _ _ 156 [(0, .ref 307), (1, .int p0), (2, .int (I 307 9))] [.int r22] (HS I22 L22 X)
                  obtain ⟨b23, q⟩ := ois q
                  refine w_ireturn (Ev.cm _) rfl (show rok (some .boolean) _ from b23) rf0 ?_
                  cases q
                  exact g
                · have c12 : ¬ (p0 < 8) := c12
                  rw [if_neg c12] at q
                  refine w_aload_n (Ev.cm _) rfl rfl ?_
                  refine w_iconst (Ev.cm _) rfl ?_
                  obtain ⟨⟨r24, I24, L24⟩, e24, q⟩ := obs q
                  dsimp only at q
                  refine w_cvirt (o := 307) (as := [.int 3]) (st := []) (Ev.cm _) rfl rfl rfl (Nat.le_of_ble_eq_true rfl) (Nat.le_of_ble_eq_true rfl) rfl (Nat.le_of_ble_eq_true rfl) (eo_R_fail (g := ?_) e24)
                  show Wp _ _ _ _ _ _ _ 137 [(0, .ref 307), (1, .int p0), (2, .int (I 307 9))] [.int r24] (HS I24 L24 X)
                  obtain ⟨b25, q⟩ := ois q
                  refine w_ireturn (Ev.cm _) rfl (show rok (some .boolean) _ from b25) rf0 ?_
                  cases q
                  exact g
              · have c11 : ¬ (I 307 9 = 47) := c11
                rw [if_neg c11] at q
                refine w_aload_n (Ev.cm _) rfl rfl ?_
                refine w_iconst (Ev.cm _) rfl ?_
                obtain ⟨⟨r26, I26, L26⟩, e26, q⟩ := obs q
                dsimp only at q
                refine w_cvirt (o := 307) (as := [.int 1]) (st := []) (Ev.cm _) rfl rfl rfl (Nat.le_of_ble_eq_true rfl) (Nat.le_of_ble_eq_true rfl) rfl (Nat.le_of_ble_eq_true rfl) (eo_R_fail (g := ?_) e26)
                show Wp _ _ _ _ _ _ _ 125 [(0, .ref 307), (1, .int p0), (2, .int (I 307 9))] [.int r26] (HS I26 L26 X)
                obtain ⟨b27, q⟩ := ois q
                refine w_ireturn (Ev.cm _) rfl (show rok (some .boolean) _ from b27) rf0 ?_
                cases q
                exact g
    · have c2 : (30 : Int32) ≤ (I 307 9) ∧ (I 307 9) ≤ (37 : Int32) := bI_1.mp c2
      rw [if_pos c2] at q
      refine w_aload_n (Ev.cm _) rfl rfl ?_
      refine w_getI (Ev.cm _) rfl (Nat.le_of_ble_eq_true rfl) rfl ?_
      refine w_bipush (Ev.cm _) rfl ?_
      refine w_icmp_ne (Ev.cm _) rfl (fun c13 => ?_) (fun c13 => ?_)
      · have c13 : ¬ (I 307 11 = 39) := c13
        rw [if_neg c13] at q
        refine w_aload_n (Ev.cm _) rfl rfl ?_
        refine w_getR (q := 308) (Ev.cm _) rfl (Nat.le_of_ble_eq_true rfl) rfl rfl ?_
        refine w_bipush (Ev.cm _) rfl ?_
        refine w_iload_n (Ev.cm _) rfl rfl ?_
        refine w_bipush (Ev.cm _) rfl ?_
        refine w_isub (Ev.cm _) rfl ?_
        obtain ⟨⟨r28, I28, L28⟩, e28, q⟩ := obs q
        dsimp only at q
        refine w_cvirt (o := 308) (as := [.int 60, .int ((I 307 9) - 30)]) (st := []) (Ev.cm _) rfl rfl rfl (Nat.le_of_ble_eq_true rfl) (Nat.le_of_ble_eq_true rfl) rfl (Nat.le_of_ble_eq_true rfl) (eo_T_addCode (g := ?_) e28)
        show Wp _ _ _ _ _ _ _ 77 [(0, .ref 307), (1, .int p0), (2, .int (I 307 9))] [.int r28] (HS I28 L28 X)
        refine w_pop (Ev.cm _) rfl rfl ?_
        refine w_aload_n (Ev.cm _) rfl rfl ?_
        refine w_aload_n (Ev.cm _) rfl rfl ?_
        refine w_getI (Ev.cm _) rfl (Nat.le_of_ble_eq_true rfl) rfl ?_
        refine w_iconst (Ev.cm _) rfl ?_
        refine w_iadd (Ev.cm _) rfl ?_
        obtain ⟨⟨r29, I29, L29⟩, e29, q⟩ := obs q
        dsimp only at q
        refine w_cvirt (o := 307) (as := [.int ((I28 307 8) + 1)]) (st := []) (Ev.cm _) rfl rfl rfl (Nat.le_of_ble_eq_true rfl) (Nat.le_of_ble_eq_true rfl) rfl (Nat.le_of_ble_eq_true rfl) (eo_R_comeTo (g := ?_) e29)
        show Wp _ _ _ _ _ _ _ 88 [(0, .ref 307), (1, .int p0), (2, .int (I 307 9))] [] (HS I29 L29 X)
        refine w_iconst (Ev.cm _) rfl ?_
        refine w_ireturn (Ev.cm _) rfl (by first | exact rok_0 | exact rok_1 | exact rok_b) rf0 ?_
        cases q
        exact g
      · have c13 : I 307 11 = 39 := c13
        rw [if_pos c13] at q
        refine w_iload_n (Ev.cm _) rfl rfl ?_
        refine w_bipush (Ev.cm _) rfl ?_
        refine w_icmp_lt (Ev.cm _) rfl (fun c14 => ?_) (fun c14 => ?_)
        · have c14 : I 307 9 < 33 := c14
          rw [if_pos c14] at q
          refine w_aload_n (Ev.cm _) rfl rfl ?_
          refine w_getR (q := 308) (Ev.cm _) rfl (Nat.le_of_ble_eq_true rfl) rfl rfl ?_
          refine w_bipush (Ev.cm _) rfl ?_
          refine w_iload_n (Ev.cm _) rfl rfl ?_
          refine w_bipush (Ev.cm _) rfl ?_
          refine w_isub (Ev.cm _) rfl ?_
          obtain ⟨⟨r30, I30, L30⟩, e30, q⟩ := obs q
          dsimp only at q
          refine w_cvirt (o := 308) (as := [.int 60, .int ((I 307 9) - 30)]) (st := []) (Ev.cm _) rfl rfl rfl (Nat.le_of_ble_eq_true rfl) (Nat.le_of_ble_eq_true rfl) rfl (Nat.le_of_ble_eq_true rfl) (eo_T_addCode (g := ?_) e30)
          show Wp _ _ _ _ _ _ _ 77 [(0, .ref 307), (1, .int p0), (2, .int (I 307 9))] [.int r30] (HS I30 L30 X)
          refine w_pop (Ev.cm _) rfl rfl ?_
          refine w_aload_n (Ev.cm _) rfl rfl ?_
          refine w_aload_n (Ev.cm _) rfl rfl ?_
          refine w_getI (Ev.cm _) rfl (Nat.le_of_ble_eq_true rfl) rfl ?_
          refine w_iconst (Ev.cm _) rfl ?_
          refine w_iadd (Ev.cm _) rfl ?_
          obtain ⟨⟨r31, I31, L31⟩, e31, q⟩ := obs q
          dsimp only at q
          refine w_cvirt (o := 307) (as := [.int ((I30 307 8) + 1)]) (st := []) (Ev.cm _) rfl rfl rfl (Nat.le_of_ble_eq_true rfl) (Nat.le_of_ble_eq_true rfl) rfl (Nat.le_of_ble_eq_true rfl) (eo_R_comeTo (g := ?_) e31)
          show Wp _ _ _ _ _ _ _ 88 [(0, .ref 307), (1, .int p0), (2, .int (I 307 9))] [] (HS I31 L31 X)
          refine w_iconst (Ev.cm _) rfl ?_
          refine w_ireturn (Ev.cm _) rfl (by first | exact rok_0 | exact rok_1 | exact rok_b) rf0 ?_
          cases q
          exact g
        · have c14 : ¬ (I 307 9 < 33) := c14
          rw [if_neg c14] at q
          refine w_aload_n (Ev.cm _) rfl rfl ?_
          refine w_iconst (Ev.cm _) rfl ?_
          obtain ⟨⟨r32, I32, L32⟩, e32, q⟩ := obs q
          dsimp only at q
          refine w_cvirt (o := 307) (as := [.int 5]) (st := []) (Ev.cm _) rfl rfl rfl (Nat.le_of_ble_eq_true rfl) (Nat.le_of_ble_eq_true rfl) rfl (Nat.le_of_ble_eq_true rfl) (eo_R_fail (g := ?_) e32)
          show Wp _ _ _ _ _ _ _ 63 [(0, .ref 307), (1, .int p0), (2, .int (I 307 9))] [.int r32] (HS I32 L32 X)
          obtain ⟨b33, q⟩ := ois q
          refine w_ireturn (Ev.cm _) rfl (show rok (some .boolean) _ from b33) rf0 ?_
          cases q
          exact g
  · have c1 : I 307 9 = 2 := c1
    rw [if_pos c1] at q
    refine w_aload_n (Ev.cm _) rfl rfl ?_
    refine w_getR (q := 308) (Ev.cm _) rfl (Nat.le_of_ble_eq_true rfl) rfl rfl ?_
    refine w_iconst (Ev.cm _) rfl ?_
    refine w_aload_n (Ev.cm _) rfl rfl ?_
    refine w_getI (Ev.cm _) rfl (Nat.le_of_ble_eq_true rfl) rfl ?_
    obtain ⟨⟨r34, I34, L34⟩, e34, q⟩ := obs q
    dsimp only at q
    refine w_cvirt (o := 308) (as := [.int 2, .int (I 307 10)]) (st := []) (Ev.cm _) rfl rfl rfl (Nat.le_of_ble_eq_true rfl) (Nat.le_of_ble_eq_true rfl) rfl (Nat.le_of_ble_eq_true rfl) (eo_T_addCode (g := ?_) e34)
    show Wp _ _ _ _ _ _ _ 22 [(0, .ref 307), (1, .int p0), (2, .int (I 307 9))] [.int r34] (HS I34 L34 X)
    refine w_pop (Ev.cm _) rfl rfl ?_
    refine w_aload_n (Ev.cm _) rfl rfl ?_
    refine w_iconst (Ev.cm _) rfl ?_
    refine w_sipush (Ev.cm _) rfl ?_
    obtain ⟨⟨r35, I35, L35⟩, e35, q⟩ := obs q
    dsimp only at q
    refine w_cvirt (o := 307) (as := [.int 0, .int 9999]) (st := []) (Ev.cm _) rfl rfl rfl (Nat.le_of_ble_eq_true rfl) (Nat.le_of_ble_eq_true rfl) rfl (Nat.le_of_ble_eq_true rfl) (eo_R_passNumber (g := ?_) e35)
    show Wp _ _ _ _ _ _ _ 31 [(0, .ref 307), (1, .int p0), (2, .int (I 307 9))] [.int r35] (HS I35 L35 X)
    obtain ⟨b36, q⟩ := ois q
    refine w_ireturn (Ev.cm _) rfl (show rok (some .boolean) _ from b36) rf0 ?_
    cases q
    exact g
def FO_Q_copyState_1 (fu : Nat) (I : Nat → Nat → Int32) (L : Nat → Nat → Int64) : Option (Unit × (Nat → Nat → Int32) × (Nat → Nat → Int64)) := (FO_H_copyHouse fu 2 138 I L).bind (fun u1 => let r1 := u1.1; let I1 := u1.2.1; let L1 := u1.2.2; (FO_S_copySteps_6 fu  I1 L1).bind (fun u2 => let r2 := u2.1; let I2 := u2.2.1; let L2 := u2.2.2; (some (va_up (sI I2 1 2 (I2 137 2)) 128 (va_cpy ((sI I2 1 2 (I2 137 2)) 264) ((sI I2 1 2 (I2 137 2)) 128) 0 0 6))).bind (fun I3 => (some (va_up I3 129 (va_cpy (I3 265) (I3 129) 0 0 6))).bind (fun I4 => (some (va_up I4 130 (va_cpy (I4 266) (I4 130) 0 0 6))).bind (fun I5 => (some (va_up (sI (sI I5 1 6 (I5 137 6)) 1 7 (I5 137 7)) 131 (va_cpy ((sI (sI I5 1 6 (I5 137 6)) 1 7 (I5 137 7)) 267) ((sI (sI I5 1 6 (I5 137 6)) 1 7 (I5 137 7)) 131) 0 0 9))).bind (fun I6 => (some (va_up I6 132 (va_cpy (I6 268) (I6 132) 0 0 9))).bind (fun I7 => (some (va_up I7 133 (va_cpy (I7 269) (I7 133) 0 0 6))).bind (fun I8 => (some (va_up (sI I8 1 11 (I8 137 11)) 134 (va_cpy ((sI I8 1 11 (I8 137 11)) 270) ((sI I8 1 11 (I8 137 11)) 134) 0 0 5))).bind (fun I9 => (some (va_up (sI I9 1 13 (I9 137 13)) 135 (va_cpy ((sI I9 1 13 (I9 137 13)) 271) ((sI I9 1 13 (I9 137 13)) 135) 0 0 6))).bind (fun I10 => (some (va_up I10 136 (va_cpy (I10 272) (I10 136) 0 0 24))).bind (fun I11 => some ((), sI I11 1 16 (I11 137 16), L2))))))))))))
set_option maxHeartbeats 20000000 in
set_option maxRecDepth 20000 in
theorem eo_Q_copyState_1 {d fu : Nat} {I : Nat → Nat → Int32} {L : Nat → Nat → Int64} {X : Nat × (Nat → Int32)} {Q : PQ} {res : Unit × (Nat → Nat → Int32) × (Nat → Nat → Int64)}  (g : Q none (HS res.2.1 res.2.2 X)) (q : FO_Q_copyState_1 fu  I L = some res) : Ev (d + 5) m_Q_copyState [.ref 1, .ref 137] (HS I L X) Q := by
  unfold FO_Q_copyState_1 at q
  refine ev_start (d := d + 4) rfl rfl rfl (Nat.le_of_ble_eq_true rfl) ?_
  show Wp (Ev (d + 4)) cd_Q_copyState (0, 0) none _ _ Q 0 [(0, .ref 1), (1, .ref 137)] [] (HS I L X)
  refine w_aload_n (Ev.cm _) rfl rfl ?_
  refine w_getR (q := 2) (Ev.cm _) rfl (Nat.le_of_ble_eq_true rfl) rfl rfl ?_
  refine w_aload_n (Ev.cm _) rfl rfl ?_
  refine w_getR (q := 138) (Ev.cm _) rfl (Nat.le_of_ble_eq_true rfl) rfl rfl ?_
  obtain ⟨⟨r1, I1, L1⟩, e1, q⟩ := obs q
  dsimp only at q
  refine w_cvirt (o := 2) (as := [.ref 138]) (st := []) (Ev.cm _) rfl rfl rfl (Nat.le_of_ble_eq_true rfl) (Nat.le_of_ble_eq_true rfl) rfl (Nat.le_of_ble_eq_true rfl) (eo_H_copyHouse isH_2 isH_138 (g := ?_) e1)
  show Wp _ _ _ _ _ _ _ 11 [(0, .ref 1), (1, .ref 137)] [] (HS I1 L1 X)
  refine w_aload_n (Ev.cm _) rfl rfl ?_
  refine w_getR (q := 6) (Ev.cm _) rfl (Nat.le_of_ble_eq_true rfl) rfl rfl ?_
  refine w_aload_n (Ev.cm _) rfl rfl ?_
  refine w_getR (q := 142) (Ev.cm _) rfl (Nat.le_of_ble_eq_true rfl) rfl rfl ?_
  obtain ⟨⟨r2, I2, L2⟩, e2, q⟩ := obs q
  dsimp only at q
  refine w_cvirt (o := 6) (as := [.ref 142]) (st := []) (Ev.cm _) rfl rfl rfl (Nat.le_of_ble_eq_true rfl) (Nat.le_of_ble_eq_true rfl) rfl (Nat.le_of_ble_eq_true rfl) (eo_S_copySteps_6 (g := ?_) e2)
  show Wp _ _ _ _ _ _ _ 22 [(0, .ref 1), (1, .ref 137)] [] (HS I2 L2 X)
  refine w_aload_n (Ev.cm _) rfl rfl ?_
  refine w_aload_n (Ev.cm _) rfl rfl ?_
  refine w_getI (Ev.cm _) rfl (Nat.le_of_ble_eq_true rfl) rfl ?_
  refine w_putI (Ev.cm _) rfl (Nat.le_of_ble_eq_true rfl) rfl ?_
  refine w_aload_n (Ev.cm _) rfl rfl ?_
  refine w_getR (q := 264) (Ev.cm _) rfl (Nat.le_of_ble_eq_true rfl) rfl rfl ?_
  refine w_aload_n (Ev.cm _) rfl rfl ?_
  refine w_getR (q := 128) (Ev.cm _) rfl (Nat.le_of_ble_eq_true rfl) rfl rfl ?_
  obtain ⟨I3, e3, q⟩ := obs q
  try dsimp only at q
  refine w_cnest (as := [.ref 264, .ref 128]) (st := []) (Ev.cm _) rfl rfl rfl (Nat.le_of_ble_eq_true rfl) (Nat.le_of_ble_eq_true rfl) (e_copyRow_e (Nat.le_of_ble_eq_true rfl) (Nat.le_of_ble_eq_true rfl) (n := 6) rfl rfl (by decide) e3 ?_)
  show Wp _ _ _ _ _ _ _ 41 [(0, .ref 1), (1, .ref 137)] [] (HS I3 L2 X)
  refine w_aload_n (Ev.cm _) rfl rfl ?_
  refine w_getR (q := 265) (Ev.cm _) rfl (Nat.le_of_ble_eq_true rfl) rfl rfl ?_
  refine w_aload_n (Ev.cm _) rfl rfl ?_
  refine w_getR (q := 129) (Ev.cm _) rfl (Nat.le_of_ble_eq_true rfl) rfl rfl ?_
  obtain ⟨I4, e4, q⟩ := obs q
  try dsimp only at q
  refine w_cnest (as := [.ref 265, .ref 129]) (st := []) (Ev.cm _) rfl rfl rfl (Nat.le_of_ble_eq_true rfl) (Nat.le_of_ble_eq_true rfl) (e_copyRow_e (Nat.le_of_ble_eq_true rfl) (Nat.le_of_ble_eq_true rfl) (n := 6) rfl rfl (by decide) e4 ?_)
  show Wp _ _ _ _ _ _ _ 52 [(0, .ref 1), (1, .ref 137)] [] (HS I4 L2 X)
  refine w_aload_n (Ev.cm _) rfl rfl ?_
  refine w_getR (q := 266) (Ev.cm _) rfl (Nat.le_of_ble_eq_true rfl) rfl rfl ?_
  refine w_aload_n (Ev.cm _) rfl rfl ?_
  refine w_getR (q := 130) (Ev.cm _) rfl (Nat.le_of_ble_eq_true rfl) rfl rfl ?_
  obtain ⟨I5, e5, q⟩ := obs q
  try dsimp only at q
  refine w_cnest (as := [.ref 266, .ref 130]) (st := []) (Ev.cm _) rfl rfl rfl (Nat.le_of_ble_eq_true rfl) (Nat.le_of_ble_eq_true rfl) (e_copyRow_e (Nat.le_of_ble_eq_true rfl) (Nat.le_of_ble_eq_true rfl) (n := 6) rfl rfl (by decide) e5 ?_)
  show Wp _ _ _ _ _ _ _ 63 [(0, .ref 1), (1, .ref 137)] [] (HS I5 L2 X)
  refine w_aload_n (Ev.cm _) rfl rfl ?_
  refine w_aload_n (Ev.cm _) rfl rfl ?_
  refine w_getI (Ev.cm _) rfl (Nat.le_of_ble_eq_true rfl) rfl ?_
  refine w_putI (Ev.cm _) rfl (Nat.le_of_ble_eq_true rfl) rfl ?_
  refine w_aload_n (Ev.cm _) rfl rfl ?_
  refine w_aload_n (Ev.cm _) rfl rfl ?_
  refine w_getI (Ev.cm _) rfl (Nat.le_of_ble_eq_true rfl) rfl ?_
  refine w_putI (Ev.cm _) rfl (Nat.le_of_ble_eq_true rfl) rfl ?_
  refine w_aload_n (Ev.cm _) rfl rfl ?_
  refine w_getR (q := 267) (Ev.cm _) rfl (Nat.le_of_ble_eq_true rfl) rfl rfl ?_
  refine w_aload_n (Ev.cm _) rfl rfl ?_
  refine w_getR (q := 131) (Ev.cm _) rfl (Nat.le_of_ble_eq_true rfl) rfl rfl ?_
  obtain ⟨I6, e6, q⟩ := obs q
  try dsimp only at q
  refine w_cnest (as := [.ref 267, .ref 131]) (st := []) (Ev.cm _) rfl rfl rfl (Nat.le_of_ble_eq_true rfl) (Nat.le_of_ble_eq_true rfl) (e_copyRow_e (Nat.le_of_ble_eq_true rfl) (Nat.le_of_ble_eq_true rfl) (n := 9) rfl rfl (by decide) e6 ?_)
  show Wp _ _ _ _ _ _ _ 90 [(0, .ref 1), (1, .ref 137)] [] (HS I6 L2 X)
  refine w_aload_n (Ev.cm _) rfl rfl ?_
  refine w_getR (q := 268) (Ev.cm _) rfl (Nat.le_of_ble_eq_true rfl) rfl rfl ?_
  refine w_aload_n (Ev.cm _) rfl rfl ?_
  refine w_getR (q := 132) (Ev.cm _) rfl (Nat.le_of_ble_eq_true rfl) rfl rfl ?_
  obtain ⟨I7, e7, q⟩ := obs q
  try dsimp only at q
  refine w_cnest (as := [.ref 268, .ref 132]) (st := []) (Ev.cm _) rfl rfl rfl (Nat.le_of_ble_eq_true rfl) (Nat.le_of_ble_eq_true rfl) (e_copyRow_e (Nat.le_of_ble_eq_true rfl) (Nat.le_of_ble_eq_true rfl) (n := 9) rfl rfl (by decide) e7 ?_)
  show Wp _ _ _ _ _ _ _ 101 [(0, .ref 1), (1, .ref 137)] [] (HS I7 L2 X)
  refine w_aload_n (Ev.cm _) rfl rfl ?_
  refine w_getR (q := 269) (Ev.cm _) rfl (Nat.le_of_ble_eq_true rfl) rfl rfl ?_
  refine w_aload_n (Ev.cm _) rfl rfl ?_
  refine w_getR (q := 133) (Ev.cm _) rfl (Nat.le_of_ble_eq_true rfl) rfl rfl ?_
  obtain ⟨I8, e8, q⟩ := obs q
  try dsimp only at q
  refine w_cnest (as := [.ref 269, .ref 133]) (st := []) (Ev.cm _) rfl rfl rfl (Nat.le_of_ble_eq_true rfl) (Nat.le_of_ble_eq_true rfl) (e_copyRow_e (Nat.le_of_ble_eq_true rfl) (Nat.le_of_ble_eq_true rfl) (n := 6) rfl rfl (by decide) e8 ?_)
  show Wp _ _ _ _ _ _ _ 112 [(0, .ref 1), (1, .ref 137)] [] (HS I8 L2 X)
  refine w_aload_n (Ev.cm _) rfl rfl ?_
  refine w_aload_n (Ev.cm _) rfl rfl ?_
  refine w_getI (Ev.cm _) rfl (Nat.le_of_ble_eq_true rfl) rfl ?_
  refine w_putI (Ev.cm _) rfl (Nat.le_of_ble_eq_true rfl) rfl ?_
  refine w_aload_n (Ev.cm _) rfl rfl ?_
  refine w_getR (q := 270) (Ev.cm _) rfl (Nat.le_of_ble_eq_true rfl) rfl rfl ?_
  refine w_aload_n (Ev.cm _) rfl rfl ?_
  refine w_getR (q := 134) (Ev.cm _) rfl (Nat.le_of_ble_eq_true rfl) rfl rfl ?_
  obtain ⟨I9, e9, q⟩ := obs q
  try dsimp only at q
  refine w_cnest (as := [.ref 270, .ref 134]) (st := []) (Ev.cm _) rfl rfl rfl (Nat.le_of_ble_eq_true rfl) (Nat.le_of_ble_eq_true rfl) (e_copyRow_e (Nat.le_of_ble_eq_true rfl) (Nat.le_of_ble_eq_true rfl) (n := 5) rfl rfl (by decide) e9 ?_)
  show Wp _ _ _ _ _ _ _ 131 [(0, .ref 1), (1, .ref 137)] [] (HS I9 L2 X)
  refine w_aload_n (Ev.cm _) rfl rfl ?_
  refine w_aload_n (Ev.cm _) rfl rfl ?_
  refine w_getI (Ev.cm _) rfl (Nat.le_of_ble_eq_true rfl) rfl ?_
  refine w_putI (Ev.cm _) rfl (Nat.le_of_ble_eq_true rfl) rfl ?_
  refine w_aload_n (Ev.cm _) rfl rfl ?_
  refine w_getR (q := 271) (Ev.cm _) rfl (Nat.le_of_ble_eq_true rfl) rfl rfl ?_
  refine w_aload_n (Ev.cm _) rfl rfl ?_
  refine w_getR (q := 135) (Ev.cm _) rfl (Nat.le_of_ble_eq_true rfl) rfl rfl ?_
  obtain ⟨I10, e10, q⟩ := obs q
  try dsimp only at q
  refine w_cnest (as := [.ref 271, .ref 135]) (st := []) (Ev.cm _) rfl rfl rfl (Nat.le_of_ble_eq_true rfl) (Nat.le_of_ble_eq_true rfl) (e_copyRow_e (Nat.le_of_ble_eq_true rfl) (Nat.le_of_ble_eq_true rfl) (n := 6) rfl rfl (by decide) e10 ?_)
  show Wp _ _ _ _ _ _ _ 150 [(0, .ref 1), (1, .ref 137)] [] (HS I10 L2 X)
  refine w_aload_n (Ev.cm _) rfl rfl ?_
  refine w_getR (q := 272) (Ev.cm _) rfl (Nat.le_of_ble_eq_true rfl) rfl rfl ?_
  refine w_aload_n (Ev.cm _) rfl rfl ?_
  refine w_getR (q := 136) (Ev.cm _) rfl (Nat.le_of_ble_eq_true rfl) rfl rfl ?_
  obtain ⟨I11, e11, q⟩ := obs q
  try dsimp only at q
  refine w_cnest (as := [.ref 272, .ref 136]) (st := []) (Ev.cm _) rfl rfl rfl (Nat.le_of_ble_eq_true rfl) (Nat.le_of_ble_eq_true rfl) (e_copyRow_e (Nat.le_of_ble_eq_true rfl) (Nat.le_of_ble_eq_true rfl) (n := 24) rfl rfl (by decide) e11 ?_)
  show Wp _ _ _ _ _ _ _ 161 [(0, .ref 1), (1, .ref 137)] [] (HS I11 L2 X)
  refine w_aload_n (Ev.cm _) rfl rfl ?_
  refine w_aload_n (Ev.cm _) rfl rfl ?_
  refine w_getI (Ev.cm _) rfl (Nat.le_of_ble_eq_true rfl) rfl ?_
  refine w_putI (Ev.cm _) rfl (Nat.le_of_ble_eq_true rfl) rfl ?_
  refine w_return (Ev.cm _) rfl rfl rf0 ?_
  cases q
  exact g
def FO_Q_copyState_137 (fu : Nat) (I : Nat → Nat → Int32) (L : Nat → Nat → Int64) : Option (Unit × (Nat → Nat → Int32) × (Nat → Nat → Int64)) := (FO_H_copyHouse fu 138 2 I L).bind (fun u1 => let r1 := u1.1; let I1 := u1.2.1; let L1 := u1.2.2; (FO_S_copySteps_142 fu  I1 L1).bind (fun u2 => let r2 := u2.1; let I2 := u2.2.1; let L2 := u2.2.2; (some (va_up (sI I2 137 2 (I2 1 2)) 264 (va_cpy ((sI I2 137 2 (I2 1 2)) 128) ((sI I2 137 2 (I2 1 2)) 264) 0 0 6))).bind (fun I3 => (some (va_up I3 265 (va_cpy (I3 129) (I3 265) 0 0 6))).bind (fun I4 => (some (va_up I4 266 (va_cpy (I4 130) (I4 266) 0 0 6))).bind (fun I5 => (some (va_up (sI (sI I5 137 6 (I5 1 6)) 137 7 (I5 1 7)) 267 (va_cpy ((sI (sI I5 137 6 (I5 1 6)) 137 7 (I5 1 7)) 131) ((sI (sI I5 137 6 (I5 1 6)) 137 7 (I5 1 7)) 267) 0 0 9))).bind (fun I6 => (some (va_up I6 268 (va_cpy (I6 132) (I6 268) 0 0 9))).bind (fun I7 => (some (va_up I7 269 (va_cpy (I7 133) (I7 269) 0 0 6))).bind (fun I8 => (some (va_up (sI I8 137 11 (I8 1 11)) 270 (va_cpy ((sI I8 137 11 (I8 1 11)) 134) ((sI I8 137 11 (I8 1 11)) 270) 0 0 5))).bind (fun I9 => (some (va_up (sI I9 137 13 (I9 1 13)) 271 (va_cpy ((sI I9 137 13 (I9 1 13)) 135) ((sI I9 137 13 (I9 1 13)) 271) 0 0 6))).bind (fun I10 => (some (va_up I10 272 (va_cpy (I10 136) (I10 272) 0 0 24))).bind (fun I11 => some ((), sI I11 137 16 (I11 1 16), L2))))))))))))
set_option maxHeartbeats 20000000 in
set_option maxRecDepth 20000 in
theorem eo_Q_copyState_137 {d fu : Nat} {I : Nat → Nat → Int32} {L : Nat → Nat → Int64} {X : Nat × (Nat → Int32)} {Q : PQ} {res : Unit × (Nat → Nat → Int32) × (Nat → Nat → Int64)}  (g : Q none (HS res.2.1 res.2.2 X)) (q : FO_Q_copyState_137 fu  I L = some res) : Ev (d + 5) m_Q_copyState [.ref 137, .ref 1] (HS I L X) Q := by
  unfold FO_Q_copyState_137 at q
  refine ev_start (d := d + 4) rfl rfl rfl (Nat.le_of_ble_eq_true rfl) ?_
  show Wp (Ev (d + 4)) cd_Q_copyState (0, 0) none _ _ Q 0 [(0, .ref 137), (1, .ref 1)] [] (HS I L X)
  refine w_aload_n (Ev.cm _) rfl rfl ?_
  refine w_getR (q := 138) (Ev.cm _) rfl (Nat.le_of_ble_eq_true rfl) rfl rfl ?_
  refine w_aload_n (Ev.cm _) rfl rfl ?_
  refine w_getR (q := 2) (Ev.cm _) rfl (Nat.le_of_ble_eq_true rfl) rfl rfl ?_
  obtain ⟨⟨r1, I1, L1⟩, e1, q⟩ := obs q
  dsimp only at q
  refine w_cvirt (o := 138) (as := [.ref 2]) (st := []) (Ev.cm _) rfl rfl rfl (Nat.le_of_ble_eq_true rfl) (Nat.le_of_ble_eq_true rfl) rfl (Nat.le_of_ble_eq_true rfl) (eo_H_copyHouse isH_138 isH_2 (g := ?_) e1)
  show Wp _ _ _ _ _ _ _ 11 [(0, .ref 137), (1, .ref 1)] [] (HS I1 L1 X)
  refine w_aload_n (Ev.cm _) rfl rfl ?_
  refine w_getR (q := 142) (Ev.cm _) rfl (Nat.le_of_ble_eq_true rfl) rfl rfl ?_
  refine w_aload_n (Ev.cm _) rfl rfl ?_
  refine w_getR (q := 6) (Ev.cm _) rfl (Nat.le_of_ble_eq_true rfl) rfl rfl ?_
  obtain ⟨⟨r2, I2, L2⟩, e2, q⟩ := obs q
  dsimp only at q
  refine w_cvirt (o := 142) (as := [.ref 6]) (st := []) (Ev.cm _) rfl rfl rfl (Nat.le_of_ble_eq_true rfl) (Nat.le_of_ble_eq_true rfl) rfl (Nat.le_of_ble_eq_true rfl) (eo_S_copySteps_142 (g := ?_) e2)
  show Wp _ _ _ _ _ _ _ 22 [(0, .ref 137), (1, .ref 1)] [] (HS I2 L2 X)
  refine w_aload_n (Ev.cm _) rfl rfl ?_
  refine w_aload_n (Ev.cm _) rfl rfl ?_
  refine w_getI (Ev.cm _) rfl (Nat.le_of_ble_eq_true rfl) rfl ?_
  refine w_putI (Ev.cm _) rfl (Nat.le_of_ble_eq_true rfl) rfl ?_
  refine w_aload_n (Ev.cm _) rfl rfl ?_
  refine w_getR (q := 128) (Ev.cm _) rfl (Nat.le_of_ble_eq_true rfl) rfl rfl ?_
  refine w_aload_n (Ev.cm _) rfl rfl ?_
  refine w_getR (q := 264) (Ev.cm _) rfl (Nat.le_of_ble_eq_true rfl) rfl rfl ?_
  obtain ⟨I3, e3, q⟩ := obs q
  try dsimp only at q
  refine w_cnest (as := [.ref 128, .ref 264]) (st := []) (Ev.cm _) rfl rfl rfl (Nat.le_of_ble_eq_true rfl) (Nat.le_of_ble_eq_true rfl) (e_copyRow_e (Nat.le_of_ble_eq_true rfl) (Nat.le_of_ble_eq_true rfl) (n := 6) rfl rfl (by decide) e3 ?_)
  show Wp _ _ _ _ _ _ _ 41 [(0, .ref 137), (1, .ref 1)] [] (HS I3 L2 X)
  refine w_aload_n (Ev.cm _) rfl rfl ?_
  refine w_getR (q := 129) (Ev.cm _) rfl (Nat.le_of_ble_eq_true rfl) rfl rfl ?_
  refine w_aload_n (Ev.cm _) rfl rfl ?_
  refine w_getR (q := 265) (Ev.cm _) rfl (Nat.le_of_ble_eq_true rfl) rfl rfl ?_
  obtain ⟨I4, e4, q⟩ := obs q
  try dsimp only at q
  refine w_cnest (as := [.ref 129, .ref 265]) (st := []) (Ev.cm _) rfl rfl rfl (Nat.le_of_ble_eq_true rfl) (Nat.le_of_ble_eq_true rfl) (e_copyRow_e (Nat.le_of_ble_eq_true rfl) (Nat.le_of_ble_eq_true rfl) (n := 6) rfl rfl (by decide) e4 ?_)
  show Wp _ _ _ _ _ _ _ 52 [(0, .ref 137), (1, .ref 1)] [] (HS I4 L2 X)
  refine w_aload_n (Ev.cm _) rfl rfl ?_
  refine w_getR (q := 130) (Ev.cm _) rfl (Nat.le_of_ble_eq_true rfl) rfl rfl ?_
  refine w_aload_n (Ev.cm _) rfl rfl ?_
  refine w_getR (q := 266) (Ev.cm _) rfl (Nat.le_of_ble_eq_true rfl) rfl rfl ?_
  obtain ⟨I5, e5, q⟩ := obs q
  try dsimp only at q
  refine w_cnest (as := [.ref 130, .ref 266]) (st := []) (Ev.cm _) rfl rfl rfl (Nat.le_of_ble_eq_true rfl) (Nat.le_of_ble_eq_true rfl) (e_copyRow_e (Nat.le_of_ble_eq_true rfl) (Nat.le_of_ble_eq_true rfl) (n := 6) rfl rfl (by decide) e5 ?_)
  show Wp _ _ _ _ _ _ _ 63 [(0, .ref 137), (1, .ref 1)] [] (HS I5 L2 X)
  refine w_aload_n (Ev.cm _) rfl rfl ?_
  refine w_aload_n (Ev.cm _) rfl rfl ?_
  refine w_getI (Ev.cm _) rfl (Nat.le_of_ble_eq_true rfl) rfl ?_
  refine w_putI (Ev.cm _) rfl (Nat.le_of_ble_eq_true rfl) rfl ?_
  refine w_aload_n (Ev.cm _) rfl rfl ?_
  refine w_aload_n (Ev.cm _) rfl rfl ?_
  refine w_getI (Ev.cm _) rfl (Nat.le_of_ble_eq_true rfl) rfl ?_
  refine w_putI (Ev.cm _) rfl (Nat.le_of_ble_eq_true rfl) rfl ?_
  refine w_aload_n (Ev.cm _) rfl rfl ?_
  refine w_getR (q := 131) (Ev.cm _) rfl (Nat.le_of_ble_eq_true rfl) rfl rfl ?_
  refine w_aload_n (Ev.cm _) rfl rfl ?_
  refine w_getR (q := 267) (Ev.cm _) rfl (Nat.le_of_ble_eq_true rfl) rfl rfl ?_
  obtain ⟨I6, e6, q⟩ := obs q
  try dsimp only at q
  refine w_cnest (as := [.ref 131, .ref 267]) (st := []) (Ev.cm _) rfl rfl rfl (Nat.le_of_ble_eq_true rfl) (Nat.le_of_ble_eq_true rfl) (e_copyRow_e (Nat.le_of_ble_eq_true rfl) (Nat.le_of_ble_eq_true rfl) (n := 9) rfl rfl (by decide) e6 ?_)
  show Wp _ _ _ _ _ _ _ 90 [(0, .ref 137), (1, .ref 1)] [] (HS I6 L2 X)
  refine w_aload_n (Ev.cm _) rfl rfl ?_
  refine w_getR (q := 132) (Ev.cm _) rfl (Nat.le_of_ble_eq_true rfl) rfl rfl ?_
  refine w_aload_n (Ev.cm _) rfl rfl ?_
  refine w_getR (q := 268) (Ev.cm _) rfl (Nat.le_of_ble_eq_true rfl) rfl rfl ?_
  obtain ⟨I7, e7, q⟩ := obs q
  try dsimp only at q
  refine w_cnest (as := [.ref 132, .ref 268]) (st := []) (Ev.cm _) rfl rfl rfl (Nat.le_of_ble_eq_true rfl) (Nat.le_of_ble_eq_true rfl) (e_copyRow_e (Nat.le_of_ble_eq_true rfl) (Nat.le_of_ble_eq_true rfl) (n := 9) rfl rfl (by decide) e7 ?_)
  show Wp _ _ _ _ _ _ _ 101 [(0, .ref 137), (1, .ref 1)] [] (HS I7 L2 X)
  refine w_aload_n (Ev.cm _) rfl rfl ?_
  refine w_getR (q := 133) (Ev.cm _) rfl (Nat.le_of_ble_eq_true rfl) rfl rfl ?_
  refine w_aload_n (Ev.cm _) rfl rfl ?_
  refine w_getR (q := 269) (Ev.cm _) rfl (Nat.le_of_ble_eq_true rfl) rfl rfl ?_
  obtain ⟨I8, e8, q⟩ := obs q
  try dsimp only at q
  refine w_cnest (as := [.ref 133, .ref 269]) (st := []) (Ev.cm _) rfl rfl rfl (Nat.le_of_ble_eq_true rfl) (Nat.le_of_ble_eq_true rfl) (e_copyRow_e (Nat.le_of_ble_eq_true rfl) (Nat.le_of_ble_eq_true rfl) (n := 6) rfl rfl (by decide) e8 ?_)
  show Wp _ _ _ _ _ _ _ 112 [(0, .ref 137), (1, .ref 1)] [] (HS I8 L2 X)
  refine w_aload_n (Ev.cm _) rfl rfl ?_
  refine w_aload_n (Ev.cm _) rfl rfl ?_
  refine w_getI (Ev.cm _) rfl (Nat.le_of_ble_eq_true rfl) rfl ?_
  refine w_putI (Ev.cm _) rfl (Nat.le_of_ble_eq_true rfl) rfl ?_
  refine w_aload_n (Ev.cm _) rfl rfl ?_
  refine w_getR (q := 134) (Ev.cm _) rfl (Nat.le_of_ble_eq_true rfl) rfl rfl ?_
  refine w_aload_n (Ev.cm _) rfl rfl ?_
  refine w_getR (q := 270) (Ev.cm _) rfl (Nat.le_of_ble_eq_true rfl) rfl rfl ?_
  obtain ⟨I9, e9, q⟩ := obs q
  try dsimp only at q
  refine w_cnest (as := [.ref 134, .ref 270]) (st := []) (Ev.cm _) rfl rfl rfl (Nat.le_of_ble_eq_true rfl) (Nat.le_of_ble_eq_true rfl) (e_copyRow_e (Nat.le_of_ble_eq_true rfl) (Nat.le_of_ble_eq_true rfl) (n := 5) rfl rfl (by decide) e9 ?_)
  show Wp _ _ _ _ _ _ _ 131 [(0, .ref 137), (1, .ref 1)] [] (HS I9 L2 X)
  refine w_aload_n (Ev.cm _) rfl rfl ?_
  refine w_aload_n (Ev.cm _) rfl rfl ?_
  refine w_getI (Ev.cm _) rfl (Nat.le_of_ble_eq_true rfl) rfl ?_
  refine w_putI (Ev.cm _) rfl (Nat.le_of_ble_eq_true rfl) rfl ?_
  refine w_aload_n (Ev.cm _) rfl rfl ?_
  refine w_getR (q := 135) (Ev.cm _) rfl (Nat.le_of_ble_eq_true rfl) rfl rfl ?_
  refine w_aload_n (Ev.cm _) rfl rfl ?_
  refine w_getR (q := 271) (Ev.cm _) rfl (Nat.le_of_ble_eq_true rfl) rfl rfl ?_
  obtain ⟨I10, e10, q⟩ := obs q
  try dsimp only at q
  refine w_cnest (as := [.ref 135, .ref 271]) (st := []) (Ev.cm _) rfl rfl rfl (Nat.le_of_ble_eq_true rfl) (Nat.le_of_ble_eq_true rfl) (e_copyRow_e (Nat.le_of_ble_eq_true rfl) (Nat.le_of_ble_eq_true rfl) (n := 6) rfl rfl (by decide) e10 ?_)
  show Wp _ _ _ _ _ _ _ 150 [(0, .ref 137), (1, .ref 1)] [] (HS I10 L2 X)
  refine w_aload_n (Ev.cm _) rfl rfl ?_
  refine w_getR (q := 136) (Ev.cm _) rfl (Nat.le_of_ble_eq_true rfl) rfl rfl ?_
  refine w_aload_n (Ev.cm _) rfl rfl ?_
  refine w_getR (q := 272) (Ev.cm _) rfl (Nat.le_of_ble_eq_true rfl) rfl rfl ?_
  obtain ⟨I11, e11, q⟩ := obs q
  try dsimp only at q
  refine w_cnest (as := [.ref 136, .ref 272]) (st := []) (Ev.cm _) rfl rfl rfl (Nat.le_of_ble_eq_true rfl) (Nat.le_of_ble_eq_true rfl) (e_copyRow_e (Nat.le_of_ble_eq_true rfl) (Nat.le_of_ble_eq_true rfl) (n := 24) rfl rfl (by decide) e11 ?_)
  show Wp _ _ _ _ _ _ _ 161 [(0, .ref 137), (1, .ref 1)] [] (HS I11 L2 X)
  refine w_aload_n (Ev.cm _) rfl rfl ?_
  refine w_aload_n (Ev.cm _) rfl rfl ?_
  refine w_getI (Ev.cm _) rfl (Nat.le_of_ble_eq_true rfl) rfl ?_
  refine w_putI (Ev.cm _) rfl (Nat.le_of_ble_eq_true rfl) rfl ?_
  refine w_return (Ev.cm _) rfl rfl rf0 ?_
  cases q
  exact g
def FO_X_lodger (fu : Nat) (p0 : Int32) (p1 : Int32) (I : Nat → Nat → Int32) (L : Nat → Nat → Int64) : Option (Int32 × (Nat → Nat → Int32) × (Nat → Nat → Int64)) := if (1 : Int32) ≤ p0 ∧ p0 ≤ (9 : Int32) then (if 1 ≤ p1 ∧ p1 ≤ 12 then ((FO_X_moveIn fu p0 p1 I L).bind (fun u1 => let r1 := u1.1; let I1 := u1.2.1; let L1 := u1.2.2; some (r1, I1, L1))) else (some ((-1), I, L))) else (some ((-1), I, L))
set_option maxHeartbeats 20000000 in
set_option maxRecDepth 20000 in
theorem eo_X_lodger {d fu : Nat} {p0 : Int32} {p1 : Int32} {I : Nat → Nat → Int32} {L : Nat → Nat → Int64} {X : Nat × (Nat → Int32)} {Q : PQ} {res : Int32 × (Nat → Nat → Int32) × (Nat → Nat → Int64)}  (g : Q (some (.int res.1)) (HS res.2.1 res.2.2 X)) (q : FO_X_lodger fu p0 p1 I L = some res) : Ev (d + 3) m_X_lodger [.ref 0, .int p0, .int p1] (HS I L X) Q := by
  unfold FO_X_lodger at q
  refine ev_start (d := d + 2) rfl rfl rfl (Nat.le_of_ble_eq_true rfl) ?_
  show Wp (Ev (d + 2)) cd_X_lodger (0, 0) (some .int) _ _ Q 0 [(0, .ref 0), (1, .int p0), (2, .int p1)] [] (HS I L X)
  refine w_iload_n (Ev.cm _) rfl rfl ?_
  refine w_iconst (Ev.cm _) rfl ?_
  refine w_bipush (Ev.cm _) rfl ?_
  refine w_cstat (as := [.int p0, .int 1, .int 9]) (st := []) (Ev.cm _) rfl rfl rfl (Nat.le_of_ble_eq_true rfl) (Nat.le_of_ble_eq_true rfl) (x_within ?_)
  show Wp _ _ _ _ _ _ _ 7 [(0, .ref 0), (1, .int p0), (2, .int p1)] [.int (bI ((1 : Int32) ≤ p0 ∧ p0 ≤ (9 : Int32)))] (HS I L X)
  refine w_if_eq (Ev.cm _) rfl (fun c1 => ?_) (fun c1 => ?_)
  · have c1 : ¬ ((1 : Int32) ≤ p0 ∧ p0 ≤ (9 : Int32)) := bI_0.mp c1
    rw [if_neg c1] at q
    refine w_iconst (Ev.cm _) rfl ?_
    refine w_ireturn (Ev.cm _) rfl trivial rf0 ?_
    cases q
    exact g
  · have c1 : (1 : Int32) ≤ p0 ∧ p0 ≤ (9 : Int32) := bI_1.mp c1
    rw [if_pos c1] at q
    refine w_iload_n (Ev.cm _) rfl rfl ?_
    refine w_cstat (as := [.int p1]) (st := []) (Ev.cm _) rfl rfl rfl (Nat.le_of_ble_eq_true rfl) (Nat.le_of_ble_eq_true rfl) (x_isStair ?_)
    show Wp _ _ _ _ _ _ _ 14 [(0, .ref 0), (1, .int p0), (2, .int p1)] [.int (bI (1 ≤ p1 ∧ p1 ≤ 12))] (HS I L X)
    refine w_if_ne (Ev.cm _) rfl (fun c2 => ?_) (fun c2 => ?_)
    · have c2 : 1 ≤ p1 ∧ p1 ≤ 12 := bI_1.mp c2
      rw [if_pos c2] at q
      refine w_aload_n (Ev.cm _) rfl rfl ?_
      refine w_iload_n (Ev.cm _) rfl rfl ?_
      refine w_iload_n (Ev.cm _) rfl rfl ?_
      obtain ⟨⟨r1, I1, L1⟩, e1, q⟩ := obs q
      dsimp only at q
      refine w_cvirt (o := 0) (as := [.int p0, .int p1]) (st := []) (Ev.cm _) rfl rfl rfl (Nat.le_of_ble_eq_true rfl) (Nat.le_of_ble_eq_true rfl) rfl (Nat.le_of_ble_eq_true rfl) (eo_X_moveIn (g := ?_) e1)
      show Wp _ _ _ _ _ _ _ 25 [(0, .ref 0), (1, .int p0), (2, .int p1)] [.int r1] (HS I1 L1 X)
      refine w_ireturn (Ev.cm _) rfl trivial rf0 ?_
      cases q
      exact g
    · have c2 : ¬ (1 ≤ p1 ∧ p1 ≤ 12) := bI_0.mp c2
      rw [if_neg c2] at q
      refine w_iconst (Ev.cm _) rfl ?_
      refine w_ireturn (Ev.cm _) rfl trivial rf0 ?_
      cases q
      exact g
def FO_X_feed (fu : Nat) (p0 : Int32) (p1 : Int32) (p2 : Int32) (p3 : Int32) (p4 : Int32) (I : Nat → Nat → Int32) (L : Nat → Nat → Int64) : Option (Int32 × (Nat → Nat → Int32) × (Nat → Nat → Int64)) := if I 0 4 < 0 then (some ((-1), I, L)) else (if (I 0 4) + 20 ≤ 300 then ((FO_X_putFour fu p0 I L).bind (fun u1 => let r1 := u1.1; let I1 := u1.2.1; let L1 := u1.2.2; (FO_X_putFour fu p1 I1 L1).bind (fun u2 => let r2 := u2.1; let I2 := u2.2.1; let L2 := u2.2.2; (FO_X_putFour fu p2 I2 L2).bind (fun u3 => let r3 := u3.1; let I3 := u3.2.1; let L3 := u3.2.2; (FO_X_putFour fu p3 I3 L3).bind (fun u4 => let r4 := u4.1; let I4 := u4.2.1; let L4 := u4.2.2; (FO_X_putFour fu p4 I4 L4).bind (fun u5 => let r5 := u5.1; let I5 := u5.2.1; let L5 := u5.2.2; some (I5 0 4, I5, L5))))))) else (some ((-1), I, L)))
set_option maxHeartbeats 20000000 in
set_option maxRecDepth 20000 in
theorem eo_X_feed {d fu : Nat} {p0 : Int32} {p1 : Int32} {p2 : Int32} {p3 : Int32} {p4 : Int32} {I : Nat → Nat → Int32} {L : Nat → Nat → Int64} {X : Nat × (Nat → Int32)} {Q : PQ} {res : Int32 × (Nat → Nat → Int32) × (Nat → Nat → Int64)}  (g : Q (some (.int res.1)) (HS res.2.1 res.2.2 X)) (q : FO_X_feed fu p0 p1 p2 p3 p4 I L = some res) : Ev (d + 3) m_X_feed [.ref 0, .int p0, .int p1, .int p2, .int p3, .int p4] (HS I L X) Q := by
  unfold FO_X_feed at q
  refine ev_start (d := d + 2) rfl rfl rfl (Nat.le_of_ble_eq_true rfl) ?_
  show Wp (Ev (d + 2)) cd_X_feed (0, 0) (some .int) _ _ Q 0 [(0, .ref 0), (1, .int p0), (2, .int p1), (3, .int p2), (4, .int p3), (5, .int p4)] [] (HS I L X)
  refine w_aload_n (Ev.cm _) rfl rfl ?_
  refine w_getI (Ev.cm _) rfl (Nat.le_of_ble_eq_true rfl) rfl ?_
  refine w_if_lt (Ev.cm _) rfl (fun c1 => ?_) (fun c1 => ?_)
  · have c1 : I 0 4 < 0 := c1
    rw [if_pos c1] at q
    refine w_iconst (Ev.cm _) rfl ?_
    refine w_ireturn (Ev.cm _) rfl trivial rf0 ?_
    cases q
    exact g
  · have c1 : ¬ (I 0 4 < 0) := c1
    rw [if_neg c1] at q
    refine w_aload_n (Ev.cm _) rfl rfl ?_
    refine w_getI (Ev.cm _) rfl (Nat.le_of_ble_eq_true rfl) rfl ?_
    refine w_bipush (Ev.cm _) rfl ?_
    refine w_iadd (Ev.cm _) rfl ?_
    refine w_sipush (Ev.cm _) rfl ?_
    refine w_icmp_le (Ev.cm _) rfl (fun c2 => ?_) (fun c2 => ?_)
    · have c2 : (I 0 4) + 20 ≤ 300 := c2
      rw [if_pos c2] at q
      refine w_aload_n (Ev.cm _) rfl rfl ?_
      refine w_iload_n (Ev.cm _) rfl rfl ?_
      obtain ⟨⟨r1, I1, L1⟩, e1, q⟩ := obs q
      dsimp only at q
      refine w_cvirt (o := 0) (as := [.int p0]) (st := []) (Ev.cm _) rfl rfl rfl (Nat.le_of_ble_eq_true rfl) (Nat.le_of_ble_eq_true rfl) rfl (Nat.le_of_ble_eq_true rfl) (eo_X_putFour (g := ?_) e1)
      show Wp _ _ _ _ _ _ _ 27 [(0, .ref 0), (1, .int p0), (2, .int p1), (3, .int p2), (4, .int p3), (5, .int p4)] [] (HS I1 L1 X)
      refine w_aload_n (Ev.cm _) rfl rfl ?_
      refine w_iload_n (Ev.cm _) rfl rfl ?_
      obtain ⟨⟨r2, I2, L2⟩, e2, q⟩ := obs q
      dsimp only at q
      refine w_cvirt (o := 0) (as := [.int p1]) (st := []) (Ev.cm _) rfl rfl rfl (Nat.le_of_ble_eq_true rfl) (Nat.le_of_ble_eq_true rfl) rfl (Nat.le_of_ble_eq_true rfl) (eo_X_putFour (g := ?_) e2)
      show Wp _ _ _ _ _ _ _ 32 [(0, .ref 0), (1, .int p0), (2, .int p1), (3, .int p2), (4, .int p3), (5, .int p4)] [] (HS I2 L2 X)
      refine w_aload_n (Ev.cm _) rfl rfl ?_
      refine w_iload_n (Ev.cm _) rfl rfl ?_
      obtain ⟨⟨r3, I3, L3⟩, e3, q⟩ := obs q
      dsimp only at q
      refine w_cvirt (o := 0) (as := [.int p2]) (st := []) (Ev.cm _) rfl rfl rfl (Nat.le_of_ble_eq_true rfl) (Nat.le_of_ble_eq_true rfl) rfl (Nat.le_of_ble_eq_true rfl) (eo_X_putFour (g := ?_) e3)
      show Wp _ _ _ _ _ _ _ 37 [(0, .ref 0), (1, .int p0), (2, .int p1), (3, .int p2), (4, .int p3), (5, .int p4)] [] (HS I3 L3 X)
      refine w_aload_n (Ev.cm _) rfl rfl ?_
      refine w_iload (Ev.cm _) rfl rfl ?_
      obtain ⟨⟨r4, I4, L4⟩, e4, q⟩ := obs q
      dsimp only at q
      refine w_cvirt (o := 0) (as := [.int p3]) (st := []) (Ev.cm _) rfl rfl rfl (Nat.le_of_ble_eq_true rfl) (Nat.le_of_ble_eq_true rfl) rfl (Nat.le_of_ble_eq_true rfl) (eo_X_putFour (g := ?_) e4)
      show Wp _ _ _ _ _ _ _ 43 [(0, .ref 0), (1, .int p0), (2, .int p1), (3, .int p2), (4, .int p3), (5, .int p4)] [] (HS I4 L4 X)
      refine w_aload_n (Ev.cm _) rfl rfl ?_
      refine w_iload (Ev.cm _) rfl rfl ?_
      obtain ⟨⟨r5, I5, L5⟩, e5, q⟩ := obs q
      dsimp only at q
      refine w_cvirt (o := 0) (as := [.int p4]) (st := []) (Ev.cm _) rfl rfl rfl (Nat.le_of_ble_eq_true rfl) (Nat.le_of_ble_eq_true rfl) rfl (Nat.le_of_ble_eq_true rfl) (eo_X_putFour (g := ?_) e5)
      show Wp _ _ _ _ _ _ _ 49 [(0, .ref 0), (1, .int p0), (2, .int p1), (3, .int p2), (4, .int p3), (5, .int p4)] [] (HS I5 L5 X)
      refine w_aload_n (Ev.cm _) rfl rfl ?_
      refine w_getI (Ev.cm _) rfl (Nat.le_of_ble_eq_true rfl) rfl ?_
      refine w_ireturn (Ev.cm _) rfl trivial rf0 ?_
      cases q
      exact g
    · have c2 : ¬ ((I 0 4) + 20 ≤ 300) := c2
      rw [if_neg c2] at q
      refine w_iconst (Ev.cm _) rfl ?_
      refine w_ireturn (Ev.cm _) rfl trivial rf0 ?_
      cases q
      exact g
def FO_X_hang (fu : Nat) (p0 : Int32) (p1 : Int32) (I : Nat → Nat → Int32) (L : Nat → Nat → Int64) : Option (Int32 × (Nat → Nat → Int32) × (Nat → Nat → Int64)) := (FO_X_hangAsStep fu p0 p1 I L).bind (fun u1 => let r1 := u1.1; let I1 := u1.2.1; let L1 := u1.2.2; if r1 = 0 ∨ r1 = 1 then (some (r1, I1, L1)) else none)
set_option maxHeartbeats 20000000 in
set_option maxRecDepth 20000 in
theorem eo_X_hang {d fu : Nat} {p0 : Int32} {p1 : Int32} {I : Nat → Nat → Int32} {L : Nat → Nat → Int64} {X : Nat × (Nat → Int32)} {Q : PQ} {res : Int32 × (Nat → Nat → Int32) × (Nat → Nat → Int64)}  (g : Q (some (.int res.1)) (HS res.2.1 res.2.2 X)) (q : FO_X_hang fu p0 p1 I L = some res) : Ev (d + 6) m_X_hang [.ref 0, .int p0, .int p1] (HS I L X) Q := by
  unfold FO_X_hang at q
  refine ev_start (d := d + 5) rfl rfl rfl (Nat.le_of_ble_eq_true rfl) ?_
  show Wp (Ev (d + 5)) cd_X_hang (0, 0) (some .boolean) _ _ Q 0 [(0, .ref 0), (1, .int p0), (2, .int p1)] [] (HS I L X)
  refine w_aload_n (Ev.cm _) rfl rfl ?_
  refine w_iload_n (Ev.cm _) rfl rfl ?_
  refine w_iload_n (Ev.cm _) rfl rfl ?_
  obtain ⟨⟨r1, I1, L1⟩, e1, q⟩ := obs q
  dsimp only at q
  refine w_cvirt (o := 0) (as := [.int p0, .int p1]) (st := []) (Ev.cm _) rfl rfl rfl (Nat.le_of_ble_eq_true rfl) (Nat.le_of_ble_eq_true rfl) rfl (Nat.le_of_ble_eq_true rfl) (eo_X_hangAsStep (g := ?_) e1)
  show Wp _ _ _ _ _ _ _ 6 [(0, .ref 0), (1, .int p0), (2, .int p1)] [.int r1] (HS I1 L1 X)
  obtain ⟨b2, q⟩ := ois q
  refine w_ireturn (Ev.cm _) rfl (show rok (some .boolean) _ from b2) rf0 ?_
  cases q
  exact g
def LO_X_waysBy_50 (fu : Nat) (k_40 : Int32 → Int32 → Int32 → Int32 → (Nat → Nat → Int32) → (Nat → Nat → Int64) → Option (Int64 × (Nat → Nat → Int32) × (Nat → Nat → Int64))) : Nat → Int32 → Int32 → Int32 → Int32 → Int32 → (Nat → Nat → Int32) → (Nat → Nat → Int64) → Option (Int64 × (Nat → Nat → Int32) × (Nat → Nat → Int64))
  | 0, _, _, _, _, _, _, _ => none
  | n + 1, x1, x2, x3, x4, x5, I, L => if x5 < 0 then (k_40 x1 x2 x3 (x4 + 1) I L) else ((FO_X_countFromBelow fu x5 I L).bind (fun u1 => let r1 := u1.1; let I1 := u1.2.1; let L1 := u1.2.2; if 0 ≤ x5 ∧ x5 < 13 then (LO_X_waysBy_50 fu k_40 n x1 x2 x3 x4 (x5 + (-1)) I1 (sL L1 329 x5.toNatClampNeg r1)) else none))
set_option maxHeartbeats 20000000 in
set_option maxRecDepth 20000 in
theorem lo_X_waysBy_50 {d fu n0 s0 : Nat} {X : Nat × (Nat → Int32)} {Q : PQ} {k_40 : Int32 → Int32 → Int32 → Int32 → (Nat → Nat → Int32) → (Nat → Nat → Int64) → Option (Int64 × (Nat → Nat → Int32) × (Nat → Nat → Int64))} {res : Int64 × (Nat → Nat → Int32) × (Nat → Nat → Int64)}  (g : Q (some (.long res.1)) (HS res.2.1 res.2.2 X)) (hk_40 : ∀ (x1 : Int32) (x2 : Int32) (x3 : Int32) (x4 : Int32) (I : Nat → Nat → Int32) (L : Nat → Nat → Int64), k_40 x1 x2 x3 x4 I L = some res → Wp (Ev (d + 3)) cd_X_waysBy (0, 0) (some .long) n0 s0 Q 40 [(0, .ref 0), (1, .int x1), (2, .int x2), (3, .int x3), (4, .int x4)] [] (HS I L X)) : ∀ (n : Nat) (x1 : Int32) (x2 : Int32) (x3 : Int32) (x4 : Int32) (x5 : Int32) (I : Nat → Nat → Int32) (L : Nat → Nat → Int64), LO_X_waysBy_50 fu k_40 n x1 x2 x3 x4 x5 I L = some res → Wp (Ev (d + 3)) cd_X_waysBy (0, 0) (some .long) n0 s0 Q 50 [(0, .ref 0), (1, .int x1), (2, .int x2), (3, .int x3), (4, .int x4), (5, .int x5)] [] (HS I L X) := by
  intro n
  induction n with
  | zero => intro _ _ _ _ _ _ _ q; cases q
  | succ n ih =>
    intro x1 x2 x3 x4 x5 I L q
    unfold LO_X_waysBy_50 at q
    refine w_iload (Ev.cm _) rfl rfl ?_
    refine w_if_lt (Ev.cm _) rfl (fun c1 => ?_) (fun c1 => ?_)
    · have c1 : x5 < 0 := c1
      rw [if_pos c1] at q
      refine w_iinc (ls2 := [(0, .ref 0), (1, .int x1), (2, .int x2), (3, .int x3), (4, .int (x4 + 1)), (5, .int x5)]) (Ev.cm _) rfl rfl rfl ?_
      refine w_goto (Ev.cm _) rfl ?_
      show Wp _ _ _ _ _ _ _ 40 [(0, .ref 0), (1, .int x1), (2, .int x2), (3, .int x3), (4, .int (x4 + 1)), (5, .int x5)] [] (HS I L X)
      refine Wp.sub [0, 1, 2, 3, 4] (ls2 := [(0, .ref 0), (1, .int x1), (2, .int x2), (3, .int x3), (4, .int (x4 + 1))]) rfl ?_
      exact hk_40 _ _ _ _ _ _ q
    · have c1 : ¬ (x5 < 0) := c1
      rw [if_neg c1] at q
      refine w_aload_n (Ev.cm _) rfl rfl ?_
      refine w_getR (q := 329) (Ev.cm _) rfl (Nat.le_of_ble_eq_true rfl) rfl rfl ?_
      refine w_iload (Ev.cm _) rfl rfl ?_
      refine w_aload_n (Ev.cm _) rfl rfl ?_
      refine w_iload (Ev.cm _) rfl rfl ?_
      obtain ⟨⟨r1, I1, L1⟩, e1, q⟩ := obs q
      dsimp only at q
      refine w_cvirt (o := 0) (as := [.int x5]) (st := [.int x5, .ref 329]) (Ev.cm _) rfl rfl rfl (Nat.le_of_ble_eq_true rfl) (Nat.le_of_ble_eq_true rfl) rfl (Nat.le_of_ble_eq_true rfl) (eo_X_countFromBelow (g := ?_) e1)
      show Wp _ _ _ _ _ _ _ 67 [(0, .ref 0), (1, .int x1), (2, .int x2), (3, .int x3), (4, .int x4), (5, .int x5)] [.long r1, .int x5, .ref 329] (HS I1 L1 X)
      obtain ⟨b2, q⟩ := ois q
      refine w_last (Ev.cm _) rfl (Nat.le_of_ble_eq_true rfl) rfl (show vp_in x5 13 from vpI 13 (by decide) b2.1 b2.2) ?_
      refine w_iinc (ls2 := [(0, .ref 0), (1, .int x1), (2, .int x2), (3, .int x3), (4, .int x4), (5, .int (x5 + (-1)))]) (Ev.cm _) rfl rfl rfl ?_
      refine w_goto (Ev.cm _) rfl ?_
      show Wp _ _ _ _ _ _ _ 50 [(0, .ref 0), (1, .int x1), (2, .int x2), (3, .int x3), (4, .int x4), (5, .int (x5 + (-1)))] [] (HS I1 (sL L1 329 x5.toNatClampNeg r1) X)
      refine Wp.sub [0, 1, 2, 3, 4, 5] (ls2 := [(0, .ref 0), (1, .int x1), (2, .int x2), (3, .int x3), (4, .int x4), (5, .int (x5 + (-1)))]) rfl ?_
      exact ih _ _ _ _ _ _ _ q
def LO_X_waysBy_40 (fu : Nat) : Nat → Int32 → Int32 → Int32 → Int32 → (Nat → Nat → Int32) → (Nat → Nat → Int64) → Option (Int64 × (Nat → Nat → Int32) × (Nat → Nat → Int64))
  | 0, _, _, _, _, _, _ => none
  | n + 1, x1, x2, x3, x4, I, L => if x3 ≤ x4 then (if 0 ≤ x2 ∧ x2 < 13 then (some (L 329 x2.toNatClampNeg, I, L)) else none) else (LO_X_waysBy_50 fu (fun x1 x2 x3 x4 I L => LO_X_waysBy_40 fu n x1 x2 x3 x4 I L) fu x1 x2 x3 x4 12 I L)
set_option maxHeartbeats 20000000 in
set_option maxRecDepth 20000 in
theorem lo_X_waysBy_40 {d fu n0 s0 : Nat} {X : Nat × (Nat → Int32)} {Q : PQ} {res : Int64 × (Nat → Nat → Int32) × (Nat → Nat → Int64)}  (g : Q (some (.long res.1)) (HS res.2.1 res.2.2 X)) : ∀ (n : Nat) (x1 : Int32) (x2 : Int32) (x3 : Int32) (x4 : Int32) (I : Nat → Nat → Int32) (L : Nat → Nat → Int64), LO_X_waysBy_40 fu n x1 x2 x3 x4 I L = some res → Wp (Ev (d + 3)) cd_X_waysBy (0, 0) (some .long) n0 s0 Q 40 [(0, .ref 0), (1, .int x1), (2, .int x2), (3, .int x3), (4, .int x4)] [] (HS I L X) := by
  intro n
  induction n with
  | zero => intro _ _ _ _ _ _ q; cases q
  | succ n ih =>
    intro x1 x2 x3 x4 I L q
    unfold LO_X_waysBy_40 at q
    refine w_iload (Ev.cm _) rfl rfl ?_
    refine w_iload_n (Ev.cm _) rfl rfl ?_
    refine w_icmp_ge (Ev.cm _) rfl (fun c1 => ?_) (fun c1 => ?_)
    · have c1 : x3 ≤ x4 := c1
      rw [if_pos c1] at q
      refine w_aload_n (Ev.cm _) rfl rfl ?_
      refine w_getR (q := 329) (Ev.cm _) rfl (Nat.le_of_ble_eq_true rfl) rfl rfl ?_
      refine w_iload_n (Ev.cm _) rfl rfl ?_
      obtain ⟨b1, q⟩ := ois q
      refine w_lald (Ev.cm _) rfl (Nat.le_of_ble_eq_true rfl) rfl (show vp_in x2 13 from vpI 13 (by decide) b1.1 b1.2) ?_
      refine w_lreturn (Ev.cm _) rfl rfl rf0 ?_
      cases q
      exact g
    · have c1 : ¬ (x3 ≤ x4) := c1
      rw [if_neg c1] at q
      refine w_bipush (Ev.cm _) rfl ?_
      refine w_istore (ls2 := [(0, .ref 0), (1, .int x1), (2, .int x2), (3, .int x3), (4, .int x4), (5, .int 12)]) (Ev.cm _) rfl rfl ?_
      show Wp _ _ _ _ _ _ _ 50 [(0, .ref 0), (1, .int x1), (2, .int x2), (3, .int x3), (4, .int x4), (5, .int 12)] [] (HS I L X)
      refine Wp.sub [0, 1, 2, 3, 4, 5] (ls2 := [(0, .ref 0), (1, .int x1), (2, .int x2), (3, .int x3), (4, .int x4), (5, .int 12)]) rfl ?_
      exact lo_X_waysBy_50 g (fun x1 x2 x3 x4 I L q => ih x1 x2 x3 x4 I L q) fu _ _ _ _ _ _ _ q
def FO_X_waysBy (fu : Nat) (p0 : Int32) (p1 : Int32) (p2 : Int32) (I : Nat → Nat → Int32) (L : Nat → Nat → Int64) : Option (Int64 × (Nat → Nat → Int32) × (Nat → Nat → Int64)) := (FO_X_isWayUp fu p0 p1 I L).bind (fun u1 => let r1 := u1.1; let I1 := u1.2.1; let L1 := u1.2.2; if r1 = 0 then (some ((-1), I1, L1)) else (if (0 : Int32) ≤ p2 ∧ p2 ≤ (12 : Int32) then ((some (va_up L1 329 (fillG (L1 329) 0 13))).bind (fun L2 => if 0 ≤ p0 ∧ p0 < 13 then (LO_X_waysBy_40 fu fu p0 p1 p2 0 I1 (sL L2 329 p0.toNatClampNeg 1)) else none)) else (some ((-1), I1, L1))))
set_option maxHeartbeats 20000000 in
set_option maxRecDepth 20000 in
theorem eo_X_waysBy {d fu : Nat} {p0 : Int32} {p1 : Int32} {p2 : Int32} {I : Nat → Nat → Int32} {L : Nat → Nat → Int64} {X : Nat × (Nat → Int32)} {Q : PQ} {res : Int64 × (Nat → Nat → Int32) × (Nat → Nat → Int64)}  (g : Q (some (.long res.1)) (HS res.2.1 res.2.2 X)) (q : FO_X_waysBy fu p0 p1 p2 I L = some res) : Ev (d + 4) m_X_waysBy [.ref 0, .int p0, .int p1, .int p2] (HS I L X) Q := by
  unfold FO_X_waysBy at q
  refine ev_start (d := d + 3) rfl rfl rfl (Nat.le_of_ble_eq_true rfl) ?_
  show Wp (Ev (d + 3)) cd_X_waysBy (0, 0) (some .long) _ _ Q 0 [(0, .ref 0), (1, .int p0), (2, .int p1), (3, .int p2)] [] (HS I L X)
  refine w_iload_n (Ev.cm _) rfl rfl ?_
  refine w_iload_n (Ev.cm _) rfl rfl ?_
  obtain ⟨⟨r1, I1, L1⟩, e1, q⟩ := obs q
  dsimp only at q
  refine w_cstat (as := [.int p0, .int p1]) (st := []) (Ev.cm _) rfl rfl rfl (Nat.le_of_ble_eq_true rfl) (Nat.le_of_ble_eq_true rfl) (eo_X_isWayUp (g := ?_) e1)
  show Wp _ _ _ _ _ _ _ 5 [(0, .ref 0), (1, .int p0), (2, .int p1), (3, .int p2)] [.int r1] (HS I1 L1 X)
  refine w_if_eq (Ev.cm _) rfl (fun c1 => ?_) (fun c1 => ?_)
  · have c1 : r1 = 0 := c1
    rw [if_pos c1] at q
    refine w_ldc2_w (Ev.cm _) rfl ?_
    refine w_lreturn (Ev.cm _) rfl rfl rf0 ?_
    cases q
    exact g
  · have c1 : ¬ (r1 = 0) := c1
    rw [if_neg c1] at q
    refine w_iload_n (Ev.cm _) rfl rfl ?_
    refine w_iconst (Ev.cm _) rfl ?_
    refine w_bipush (Ev.cm _) rfl ?_
    refine w_cstat (as := [.int p2, .int 0, .int 12]) (st := []) (Ev.cm _) rfl rfl rfl (Nat.le_of_ble_eq_true rfl) (Nat.le_of_ble_eq_true rfl) (x_within ?_)
    show Wp _ _ _ _ _ _ _ 15 [(0, .ref 0), (1, .int p0), (2, .int p1), (3, .int p2)] [.int (bI ((0 : Int32) ≤ p2 ∧ p2 ≤ (12 : Int32)))] (HS I1 L1 X)
    refine w_if_ne (Ev.cm _) rfl (fun c2 => ?_) (fun c2 => ?_)
    · have c2 : (0 : Int32) ≤ p2 ∧ p2 ≤ (12 : Int32) := bI_1.mp c2
      rw [if_pos c2] at q
      refine w_aload_n (Ev.cm _) rfl rfl ?_
      refine w_getR (q := 329) (Ev.cm _) rfl (Nat.le_of_ble_eq_true rfl) rfl rfl ?_
      refine w_lconst (Ev.cm _) rfl ?_
      obtain ⟨L2, e2, q⟩ := obs q
      try dsimp only at q
      refine w_cstat (as := [.ref 329, .long 0]) (st := []) (Ev.cm _) rfl rfl rfl (Nat.le_of_ble_eq_true rfl) (Nat.le_of_ble_eq_true rfl) (e_fillL_e (Nat.le_of_ble_eq_true rfl) (n := 13) rfl (by decide) e2 ?_)
      show Wp _ _ _ _ _ _ _ 30 [(0, .ref 0), (1, .int p0), (2, .int p1), (3, .int p2)] [] (HS I1 L2 X)
      refine w_aload_n (Ev.cm _) rfl rfl ?_
      refine w_getR (q := 329) (Ev.cm _) rfl (Nat.le_of_ble_eq_true rfl) rfl rfl ?_
      refine w_iload_n (Ev.cm _) rfl rfl ?_
      refine w_lconst (Ev.cm _) rfl ?_
      obtain ⟨b3, q⟩ := ois q
      refine w_last (Ev.cm _) rfl (Nat.le_of_ble_eq_true rfl) rfl (show vp_in p0 13 from vpI 13 (by decide) b3.1 b3.2) ?_
      refine w_iconst (Ev.cm _) rfl ?_
      refine w_istore (ls2 := [(0, .ref 0), (1, .int p0), (2, .int p1), (3, .int p2), (4, .int 0)]) (Ev.cm _) rfl rfl ?_
      show Wp _ _ _ _ _ _ _ 40 [(0, .ref 0), (1, .int p0), (2, .int p1), (3, .int p2), (4, .int 0)] [] (HS I1 (sL L2 329 p0.toNatClampNeg 1) X)
      refine Wp.sub [0, 1, 2, 3, 4] (ls2 := [(0, .ref 0), (1, .int p0), (2, .int p1), (3, .int p2), (4, .int 0)]) rfl ?_
      exact lo_X_waysBy_40 g fu _ _ _ _ _ _ q
    · have c2 : ¬ ((0 : Int32) ≤ p2 ∧ p2 ≤ (12 : Int32)) := bI_0.mp c2
      rw [if_neg c2] at q
      refine w_ldc2_w (Ev.cm _) rfl ?_
      refine w_lreturn (Ev.cm _) rfl rfl rf0 ?_
      cases q
      exact g
def LO_X_cupRow_6 (fu : Nat) : Nat → Int32 → Int32 → Int32 → (Nat → Nat → Int32) → (Nat → Nat → Int64) → Option (Int32 × (Nat → Nat → Int32) × (Nat → Nat → Int64))
  | 0, _, _, _, _, _ => none
  | n + 1, x1, x2, x3, I, L => if 12 < x3 then (some (x1, I, L)) else ((FO_X_hasCup fu x3 I L).bind (fun u1 => let r1 := u1.1; let I1 := u1.2.1; let L1 := u1.2.2; if r1 = 0 then (LO_X_cupRow_6 fu n (F_J_max I1 x1 0) 0 (x3 + 1) I1 L1) else (LO_X_cupRow_6 fu n (F_J_max I1 x1 (x2 + 1)) (x2 + 1) (x3 + 1) I1 L1)))
set_option maxHeartbeats 20000000 in
set_option maxRecDepth 20000 in
theorem lo_X_cupRow_6 {d fu n0 s0 : Nat} {X : Nat × (Nat → Int32)} {Q : PQ} {res : Int32 × (Nat → Nat → Int32) × (Nat → Nat → Int64)}  (g : Q (some (.int res.1)) (HS res.2.1 res.2.2 X)) : ∀ (n : Nat) (x1 : Int32) (x2 : Int32) (x3 : Int32) (I : Nat → Nat → Int32) (L : Nat → Nat → Int64), LO_X_cupRow_6 fu n x1 x2 x3 I L = some res → Wp (Ev (d + 3)) cd_X_cupRow (0, 0) (some .int) n0 s0 Q 6 [(0, .ref 0), (1, .int x1), (2, .int x2), (3, .int x3)] [] (HS I L X) := by
  intro n
  induction n with
  | zero => intro _ _ _ _ _ q; cases q
  | succ n ih =>
    intro x1 x2 x3 I L q
    unfold LO_X_cupRow_6 at q
    refine w_iload_n (Ev.cm _) rfl rfl ?_
    refine w_bipush (Ev.cm _) rfl ?_
    refine w_icmp_gt (Ev.cm _) rfl (fun c1 => ?_) (fun c1 => ?_)
    · have c1 : 12 < x3 := c1
      rw [if_pos c1] at q
      refine w_iload_n (Ev.cm _) rfl rfl ?_
      refine w_ireturn (Ev.cm _) rfl trivial rf0 ?_
      cases q
      exact g
    · have c1 : ¬ (12 < x3) := c1
      rw [if_neg c1] at q
      refine w_aload_n (Ev.cm _) rfl rfl ?_
      refine w_iload_n (Ev.cm _) rfl rfl ?_
      obtain ⟨⟨r1, I1, L1⟩, e1, q⟩ := obs q
      dsimp only at q
      refine w_cvirt (o := 0) (as := [.int x3]) (st := []) (Ev.cm _) rfl rfl rfl (Nat.le_of_ble_eq_true rfl) (Nat.le_of_ble_eq_true rfl) rfl (Nat.le_of_ble_eq_true rfl) (eo_X_hasCup (g := ?_) e1)
      show Wp _ _ _ _ _ _ _ 17 [(0, .ref 0), (1, .int x1), (2, .int x2), (3, .int x3)] [.int r1] (HS I1 L1 X)
      refine w_if_eq (Ev.cm _) rfl (fun c2 => ?_) (fun c2 => ?_)
      · have c2 : r1 = 0 := c2
        rw [if_pos c2] at q
        refine w_iconst (Ev.cm _) rfl ?_
        refine w_istore_n (ls2 := [(0, .ref 0), (1, .int x1), (2, .int 0), (3, .int x3)]) (Ev.cm _) rfl rfl ?_
        refine w_iload_n (Ev.cm _) rfl rfl ?_
        refine w_iload_n (Ev.cm _) rfl rfl ?_
        refine w_cstat (as := [.int x1, .int 0]) (st := []) (Ev.cm _) rfl rfl rfl (Nat.le_of_ble_eq_true rfl) (Nat.le_of_ble_eq_true rfl) (e_J_max ?_)
        show Wp _ _ _ _ _ _ _ 33 [(0, .ref 0), (1, .int x1), (2, .int 0), (3, .int x3)] [.int (F_J_max I1 x1 0)] (HS I1 L1 X)
        refine w_istore_n (ls2 := [(0, .ref 0), (1, .int (F_J_max I1 x1 0)), (2, .int 0), (3, .int x3)]) (Ev.cm _) rfl rfl ?_
        refine w_iinc (ls2 := [(0, .ref 0), (1, .int (F_J_max I1 x1 0)), (2, .int 0), (3, .int (x3 + 1))]) (Ev.cm _) rfl rfl rfl ?_
        refine w_goto (Ev.cm _) rfl ?_
        show Wp _ _ _ _ _ _ _ 6 [(0, .ref 0), (1, .int (F_J_max I1 x1 0)), (2, .int 0), (3, .int (x3 + 1))] [] (HS I1 L1 X)
        refine Wp.sub [0, 1, 2, 3] (ls2 := [(0, .ref 0), (1, .int (F_J_max I1 x1 0)), (2, .int 0), (3, .int (x3 + 1))]) rfl ?_
        exact ih _ _ _ _ _ q
      · have c2 : ¬ (r1 = 0) := c2
        rw [if_neg c2] at q
        refine w_iload_n (Ev.cm _) rfl rfl ?_
        refine w_iconst (Ev.cm _) rfl ?_
        refine w_iadd (Ev.cm _) rfl ?_
        refine w_goto (Ev.cm _) rfl ?_
        refine w_istore_n (ls2 := [(0, .ref 0), (1, .int x1), (2, .int (x2 + 1)), (3, .int x3)]) (Ev.cm _) rfl rfl ?_
        refine w_iload_n (Ev.cm _) rfl rfl ?_
        refine w_iload_n (Ev.cm _) rfl rfl ?_
        refine w_cstat (as := [.int x1, .int (x2 + 1)]) (st := []) (Ev.cm _) rfl rfl rfl (Nat.le_of_ble_eq_true rfl) (Nat.le_of_ble_eq_true rfl) (e_J_max ?_)
        show Wp _ _ _ _ _ _ _ 33 [(0, .ref 0), (1, .int x1), (2, .int (x2 + 1)), (3, .int x3)] [.int (F_J_max I1 x1 (x2 + 1))] (HS I1 L1 X)
        refine w_istore_n (ls2 := [(0, .ref 0), (1, .int (F_J_max I1 x1 (x2 + 1))), (2, .int (x2 + 1)), (3, .int x3)]) (Ev.cm _) rfl rfl ?_
        refine w_iinc (ls2 := [(0, .ref 0), (1, .int (F_J_max I1 x1 (x2 + 1))), (2, .int (x2 + 1)), (3, .int (x3 + 1))]) (Ev.cm _) rfl rfl rfl ?_
        refine w_goto (Ev.cm _) rfl ?_
        show Wp _ _ _ _ _ _ _ 6 [(0, .ref 0), (1, .int (F_J_max I1 x1 (x2 + 1))), (2, .int (x2 + 1)), (3, .int (x3 + 1))] [] (HS I1 L1 X)
        refine Wp.sub [0, 1, 2, 3] (ls2 := [(0, .ref 0), (1, .int (F_J_max I1 x1 (x2 + 1))), (2, .int (x2 + 1)), (3, .int (x3 + 1))]) rfl ?_
        exact ih _ _ _ _ _ q
def FO_X_cupRow (fu : Nat) (I : Nat → Nat → Int32) (L : Nat → Nat → Int64) : Option (Int32 × (Nat → Nat → Int32) × (Nat → Nat → Int64)) := LO_X_cupRow_6 fu fu 0 0 1 I L
set_option maxHeartbeats 20000000 in
set_option maxRecDepth 20000 in
theorem eo_X_cupRow {d fu : Nat} {I : Nat → Nat → Int32} {L : Nat → Nat → Int64} {X : Nat × (Nat → Int32)} {Q : PQ} {res : Int32 × (Nat → Nat → Int32) × (Nat → Nat → Int64)}  (g : Q (some (.int res.1)) (HS res.2.1 res.2.2 X)) (q : FO_X_cupRow fu  I L = some res) : Ev (d + 4) m_X_cupRow [.ref 0] (HS I L X) Q := by
  unfold FO_X_cupRow at q
  refine ev_start (d := d + 3) rfl rfl rfl (Nat.le_of_ble_eq_true rfl) ?_
  show Wp (Ev (d + 3)) cd_X_cupRow (0, 0) (some .int) _ _ Q 0 [(0, .ref 0)] [] (HS I L X)
  refine w_iconst (Ev.cm _) rfl ?_
  refine w_istore_n (ls2 := [(0, .ref 0), (1, .int 0)]) (Ev.cm _) rfl rfl ?_
  refine w_iconst (Ev.cm _) rfl ?_
  refine w_istore_n (ls2 := [(0, .ref 0), (1, .int 0), (2, .int 0)]) (Ev.cm _) rfl rfl ?_
  refine w_iconst (Ev.cm _) rfl ?_
  refine w_istore_n (ls2 := [(0, .ref 0), (1, .int 0), (2, .int 0), (3, .int 1)]) (Ev.cm _) rfl rfl ?_
  show Wp _ _ _ _ _ _ _ 6 [(0, .ref 0), (1, .int 0), (2, .int 0), (3, .int 1)] [] (HS I L X)
  refine Wp.sub [0, 1, 2, 3] (ls2 := [(0, .ref 0), (1, .int 0), (2, .int 0), (3, .int 1)]) rfl ?_
  exact lo_X_cupRow_6 g fu _ _ _ _ _ q
def FO_X_weighed (fu : Nat) (I : Nat → Nat → Int32) (L : Nat → Nat → Int64) : Option (Int64 × (Nat → Nat → Int32) × (Nat → Nat → Int64)) := (FO_O_weighFromFront fu  I L).bind (fun u1 => let r1 := u1.1; let I1 := u1.2.1; let L1 := u1.2.2; (FO_O_all fu (I1 1 11) I1 L1).bind (fun u2 => let r2 := u2.1; let I2 := u2.2.1; let L2 := u2.2.2; some (r2, I2, L2)))
set_option maxHeartbeats 20000000 in
set_option maxRecDepth 20000 in
theorem eo_X_weighed {d fu : Nat} {I : Nat → Nat → Int32} {L : Nat → Nat → Int64} {X : Nat × (Nat → Int32)} {Q : PQ} {res : Int64 × (Nat → Nat → Int32) × (Nat → Nat → Int64)}  (g : Q (some (.long res.1)) (HS res.2.1 res.2.2 X)) (q : FO_X_weighed fu  I L = some res) : Ev (d + 5) m_X_weighed [.ref 0] (HS I L X) Q := by
  unfold FO_X_weighed at q
  refine ev_start (d := d + 4) rfl rfl rfl (Nat.le_of_ble_eq_true rfl) ?_
  show Wp (Ev (d + 4)) cd_X_weighed (0, 0) (some .long) _ _ Q 0 [(0, .ref 0)] [] (HS I L X)
  refine w_aload_n (Ev.cm _) rfl rfl ?_
  refine w_getR (q := 322) (Ev.cm _) rfl (Nat.le_of_ble_eq_true rfl) rfl rfl ?_
  refine w_aload_n (Ev.cm _) rfl rfl ?_
  refine w_getR (q := 1) (Ev.cm _) rfl (Nat.le_of_ble_eq_true rfl) rfl rfl ?_
  obtain ⟨⟨r1, I1, L1⟩, e1, q⟩ := obs q
  dsimp only at q
  refine w_cvirt (o := 322) (as := [.ref 1]) (st := []) (Ev.cm _) rfl rfl rfl (Nat.le_of_ble_eq_true rfl) (Nat.le_of_ble_eq_true rfl) rfl (Nat.le_of_ble_eq_true rfl) (eo_O_weighFromFront (g := ?_) e1)
  show Wp _ _ _ _ _ _ _ 11 [(0, .ref 0)] [] (HS I1 L1 X)
  refine w_aload_n (Ev.cm _) rfl rfl ?_
  refine w_getR (q := 322) (Ev.cm _) rfl (Nat.le_of_ble_eq_true rfl) rfl rfl ?_
  refine w_aload_n (Ev.cm _) rfl rfl ?_
  refine w_getR (q := 1) (Ev.cm _) rfl (Nat.le_of_ble_eq_true rfl) rfl rfl ?_
  refine w_getI (Ev.cm _) rfl (Nat.le_of_ble_eq_true rfl) rfl ?_
  obtain ⟨⟨r2, I2, L2⟩, e2, q⟩ := obs q
  dsimp only at q
  refine w_cvirt (o := 322) (as := [.int (I1 1 11)]) (st := []) (Ev.cm _) rfl rfl rfl (Nat.le_of_ble_eq_true rfl) (Nat.le_of_ble_eq_true rfl) rfl (Nat.le_of_ble_eq_true rfl) (eo_O_all (g := ?_) e2)
  show Wp _ _ _ _ _ _ _ 25 [(0, .ref 0)] [.long r2] (HS I2 L2 X)
  refine w_lreturn (Ev.cm _) rfl rfl rf0 ?_
  cases q
  exact g
def LO_X_next_27 (fu : Nat) : Nat → Int32 → Int32 → Int64 → Int32 → (Nat → Nat → Int32) → (Nat → Nat → Int64) → Option (Int64 × (Nat → Nat → Int32) × (Nat → Nat → Int64))
  | 0, _, _, _, _, _, _ => none
  | n + 1, x1, x2, x3, x5, I, L => if 3 ≤ x5 then ((FO_O_soundsNext fu x1 I L).bind (fun u1 => let r1 := u1.1; let I1 := u1.2.1; let L1 := u1.2.2; (FO_X_part fu r1 x3 x2 I1 L1).bind (fun u2 => let r2 := u2.1; let I2 := u2.2.1; let L2 := u2.2.2; some (r2, I2, L2)))) else ((FO_O_soundsNext fu x5 I L).bind (fun u3 => let r3 := u3.1; let I3 := u3.2.1; let L3 := u3.2.2; LO_X_next_27 fu n x1 x2 (x3 + r3) (x5 + 1) I3 L3))
set_option maxHeartbeats 20000000 in
set_option maxRecDepth 20000 in
theorem lo_X_next_27 {d fu n0 s0 : Nat} {X : Nat × (Nat → Int32)} {Q : PQ} {res : Int64 × (Nat → Nat → Int32) × (Nat → Nat → Int64)}  (g : Q (some (.long res.1)) (HS res.2.1 res.2.2 X)) : ∀ (n : Nat) (x1 : Int32) (x2 : Int32) (x3 : Int64) (x5 : Int32) (I : Nat → Nat → Int32) (L : Nat → Nat → Int64), LO_X_next_27 fu n x1 x2 x3 x5 I L = some res → Wp (Ev (d + 4)) cd_X_next (0, 0) (some .long) n0 s0 Q 27 [(0, .ref 0), (1, .int x1), (2, .int x2), (3, .long x3), (5, .int x5)] [] (HS I L X) := by
  intro n
  induction n with
  | zero => intro _ _ _ _ _ _ q; cases q
  | succ n ih =>
    intro x1 x2 x3 x5 I L q
    unfold LO_X_next_27 at q
    refine w_iload (Ev.cm _) rfl rfl ?_
    refine w_iconst (Ev.cm _) rfl ?_
    refine w_icmp_ge (Ev.cm _) rfl (fun c1 => ?_) (fun c1 => ?_)
    · have c1 : 3 ≤ x5 := c1
      rw [if_pos c1] at q
      refine w_aload_n (Ev.cm _) rfl rfl ?_
      refine w_getR (q := 322) (Ev.cm _) rfl (Nat.le_of_ble_eq_true rfl) rfl rfl ?_
      refine w_aload_n (Ev.cm _) rfl rfl ?_
      refine w_getR (q := 1) (Ev.cm _) rfl (Nat.le_of_ble_eq_true rfl) rfl rfl ?_
      refine w_iload_n (Ev.cm _) rfl rfl ?_
      obtain ⟨⟨r1, I1, L1⟩, e1, q⟩ := obs q
      dsimp only at q
      refine w_cvirt (o := 322) (as := [.ref 1, .int x1]) (st := []) (Ev.cm _) rfl rfl rfl (Nat.le_of_ble_eq_true rfl) (Nat.le_of_ble_eq_true rfl) rfl (Nat.le_of_ble_eq_true rfl) (eo_O_soundsNext (g := ?_) e1)
      show Wp _ _ _ _ _ _ _ 67 [(0, .ref 0), (1, .int x1), (2, .int x2), (3, .long x3), (5, .int x5)] [.long r1] (HS I1 L1 X)
      refine w_lload_n (Ev.cm _) rfl rfl ?_
      refine w_iload_n (Ev.cm _) rfl rfl ?_
      obtain ⟨⟨r2, I2, L2⟩, e2, q⟩ := obs q
      dsimp only at q
      refine w_cstat (as := [.long r1, .long x3, .int x2]) (st := []) (Ev.cm _) rfl rfl rfl (Nat.le_of_ble_eq_true rfl) (Nat.le_of_ble_eq_true rfl) (eo_X_part (g := ?_) e2)
      show Wp _ _ _ _ _ _ _ 72 [(0, .ref 0), (1, .int x1), (2, .int x2), (3, .long x3), (5, .int x5)] [.long r2] (HS I2 L2 X)
      refine w_lreturn (Ev.cm _) rfl rfl rf0 ?_
      cases q
      exact g
    · have c1 : ¬ (3 ≤ x5) := c1
      rw [if_neg c1] at q
      refine w_lload_n (Ev.cm _) rfl rfl ?_
      refine w_aload_n (Ev.cm _) rfl rfl ?_
      refine w_getR (q := 322) (Ev.cm _) rfl (Nat.le_of_ble_eq_true rfl) rfl rfl ?_
      refine w_aload_n (Ev.cm _) rfl rfl ?_
      refine w_getR (q := 1) (Ev.cm _) rfl (Nat.le_of_ble_eq_true rfl) rfl rfl ?_
      refine w_iload (Ev.cm _) rfl rfl ?_
      obtain ⟨⟨r3, I3, L3⟩, e3, q⟩ := obs q
      dsimp only at q
      refine w_cvirt (o := 322) (as := [.ref 1, .int x5]) (st := [.long x3]) (Ev.cm _) rfl rfl rfl (Nat.le_of_ble_eq_true rfl) (Nat.le_of_ble_eq_true rfl) rfl (Nat.le_of_ble_eq_true rfl) (eo_O_soundsNext (g := ?_) e3)
      show Wp _ _ _ _ _ _ _ 47 [(0, .ref 0), (1, .int x1), (2, .int x2), (3, .long x3), (5, .int x5)] [.long r3, .long x3] (HS I3 L3 X)
      refine w_ladd (Ev.cm _) rfl ?_
      refine w_lstore_n (ls2 := [(0, .ref 0), (1, .int x1), (2, .int x2), (3, .long (x3 + r3)), (5, .int x5)]) (Ev.cm _) rfl rfl ?_
      refine w_iinc (ls2 := [(0, .ref 0), (1, .int x1), (2, .int x2), (3, .long (x3 + r3)), (5, .int (x5 + 1))]) (Ev.cm _) rfl rfl rfl ?_
      refine w_goto (Ev.cm _) rfl ?_
      show Wp _ _ _ _ _ _ _ 27 [(0, .ref 0), (1, .int x1), (2, .int x2), (3, .long (x3 + r3)), (5, .int (x5 + 1))] [] (HS I3 L3 X)
      refine Wp.sub [0, 1, 2, 3, 4] (ls2 := [(0, .ref 0), (1, .int x1), (2, .int x2), (3, .long (x3 + r3)), (5, .int (x5 + 1))]) rfl ?_
      exact ih _ _ _ _ _ _ q
def FO_X_next (fu : Nat) (p0 : Int32) (p1 : Int32) (I : Nat → Nat → Int32) (L : Nat → Nat → Int64) : Option (Int64 × (Nat → Nat → Int32) × (Nat → Nat → Int64)) := if 0 ≤ p0 ∧ p0 ≤ 2 then ((FO_O_weighFromFront fu  I L).bind (fun u1 => let r1 := u1.1; let I1 := u1.2.1; let L1 := u1.2.2; LO_X_next_27 fu fu p0 p1 0 0 I1 L1)) else (some ((-1), I, L))
set_option maxHeartbeats 20000000 in
set_option maxRecDepth 20000 in
theorem eo_X_next {d fu : Nat} {p0 : Int32} {p1 : Int32} {I : Nat → Nat → Int32} {L : Nat → Nat → Int64} {X : Nat × (Nat → Int32)} {Q : PQ} {res : Int64 × (Nat → Nat → Int32) × (Nat → Nat → Int64)}  (g : Q (some (.long res.1)) (HS res.2.1 res.2.2 X)) (q : FO_X_next fu p0 p1 I L = some res) : Ev (d + 5) m_X_next [.ref 0, .int p0, .int p1] (HS I L X) Q := by
  unfold FO_X_next at q
  refine ev_start (d := d + 4) rfl rfl rfl (Nat.le_of_ble_eq_true rfl) ?_
  show Wp (Ev (d + 4)) cd_X_next (0, 0) (some .long) _ _ Q 0 [(0, .ref 0), (1, .int p0), (2, .int p1)] [] (HS I L X)
  refine w_iload_n (Ev.cm _) rfl rfl ?_
  refine w_cstat (as := [.int p0]) (st := []) (Ev.cm _) rfl rfl rfl (Nat.le_of_ble_eq_true rfl) (Nat.le_of_ble_eq_true rfl) (x_isMood ?_)
  show Wp _ _ _ _ _ _ _ 4 [(0, .ref 0), (1, .int p0), (2, .int p1)] [.int (bI (0 ≤ p0 ∧ p0 ≤ 2))] (HS I L X)
  refine w_if_ne (Ev.cm _) rfl (fun c1 => ?_) (fun c1 => ?_)
  · have c1 : 0 ≤ p0 ∧ p0 ≤ 2 := bI_1.mp c1
    rw [if_pos c1] at q
    refine w_aload_n (Ev.cm _) rfl rfl ?_
    refine w_getR (q := 322) (Ev.cm _) rfl (Nat.le_of_ble_eq_true rfl) rfl rfl ?_
    refine w_aload_n (Ev.cm _) rfl rfl ?_
    refine w_getR (q := 1) (Ev.cm _) rfl (Nat.le_of_ble_eq_true rfl) rfl rfl ?_
    obtain ⟨⟨r1, I1, L1⟩, e1, q⟩ := obs q
    dsimp only at q
    refine w_cvirt (o := 322) (as := [.ref 1]) (st := []) (Ev.cm _) rfl rfl rfl (Nat.le_of_ble_eq_true rfl) (Nat.le_of_ble_eq_true rfl) rfl (Nat.le_of_ble_eq_true rfl) (eo_O_weighFromFront (g := ?_) e1)
    show Wp _ _ _ _ _ _ _ 22 [(0, .ref 0), (1, .int p0), (2, .int p1)] [] (HS I1 L1 X)
    refine w_lconst (Ev.cm _) rfl ?_
    refine w_lstore_n (ls2 := [(0, .ref 0), (1, .int p0), (2, .int p1), (3, .long 0)]) (Ev.cm _) rfl rfl ?_
    refine w_iconst (Ev.cm _) rfl ?_
    refine w_istore (ls2 := [(0, .ref 0), (1, .int p0), (2, .int p1), (3, .long 0), (5, .int 0)]) (Ev.cm _) rfl rfl ?_
    show Wp _ _ _ _ _ _ _ 27 [(0, .ref 0), (1, .int p0), (2, .int p1), (3, .long 0), (5, .int 0)] [] (HS I1 L1 X)
    refine Wp.sub [0, 1, 2, 3, 4] (ls2 := [(0, .ref 0), (1, .int p0), (2, .int p1), (3, .long 0), (5, .int 0)]) rfl ?_
    exact lo_X_next_27 g fu _ _ _ _ _ _ q
  · have c1 : ¬ (0 ≤ p0 ∧ p0 ≤ 2) := bI_0.mp c1
    rw [if_neg c1] at q
    refine w_ldc2_w (Ev.cm _) rfl ?_
    refine w_lreturn (Ev.cm _) rfl rfl rf0 ?_
    cases q
    exact g
def LO_X_unread_2 (fu : Nat) : Nat → Int32 → (Nat → Nat → Int32) → (Nat → Nat → Int64) → Option (Int32 × (Nat → Nat → Int32) × (Nat → Nat → Int64))
  | 0, _, _, _ => none
  | n + 1, x1, I, L => if 512 ≤ x1 then (some ((-1), I, L)) else ((FO_C_waysToRead fu x1 I L).bind (fun u1 => let r1 := u1.1; let I1 := u1.2.1; let L1 := u1.2.2; if r1 = 0 then ((FO_C_messageOf fu x1 I1 L1).bind (fun u2 => let r2 := u2.1; let I2 := u2.2.1; let L2 := u2.2.2; some (r2, I2, L2))) else (LO_X_unread_2 fu n (x1 + 1) I1 L1)))
set_option maxHeartbeats 20000000 in
set_option maxRecDepth 20000 in
theorem lo_X_unread_2 {d fu n0 s0 : Nat} {X : Nat × (Nat → Int32)} {Q : PQ} {res : Int32 × (Nat → Nat → Int32) × (Nat → Nat → Int64)}  (g : Q (some (.int res.1)) (HS res.2.1 res.2.2 X)) : ∀ (n : Nat) (x1 : Int32) (I : Nat → Nat → Int32) (L : Nat → Nat → Int64), LO_X_unread_2 fu n x1 I L = some res → Wp (Ev (d + 2)) cd_X_unread (0, 0) (some .int) n0 s0 Q 2 [(0, .ref 0), (1, .int x1)] [] (HS I L X) := by
  intro n
  induction n with
  | zero => intro _ _ _ q; cases q
  | succ n ih =>
    intro x1 I L q
    unfold LO_X_unread_2 at q
    refine w_iload_n (Ev.cm _) rfl rfl ?_
    refine w_sipush (Ev.cm _) rfl ?_
    refine w_icmp_ge (Ev.cm _) rfl (fun c1 => ?_) (fun c1 => ?_)
    · have c1 : 512 ≤ x1 := c1
      rw [if_pos c1] at q
      refine w_iconst (Ev.cm _) rfl ?_
      refine w_ireturn (Ev.cm _) rfl trivial rf0 ?_
      cases q
      exact g
    · have c1 : ¬ (512 ≤ x1) := c1
      rw [if_neg c1] at q
      refine w_aload_n (Ev.cm _) rfl rfl ?_
      refine w_getR (q := 325) (Ev.cm _) rfl (Nat.le_of_ble_eq_true rfl) rfl rfl ?_
      refine w_aload_n (Ev.cm _) rfl rfl ?_
      refine w_getR (q := 1) (Ev.cm _) rfl (Nat.le_of_ble_eq_true rfl) rfl rfl ?_
      refine w_iload_n (Ev.cm _) rfl rfl ?_
      obtain ⟨⟨r1, I1, L1⟩, e1, q⟩ := obs q
      dsimp only at q
      refine w_cvirt (o := 325) (as := [.ref 1, .int x1]) (st := []) (Ev.cm _) rfl rfl rfl (Nat.le_of_ble_eq_true rfl) (Nat.le_of_ble_eq_true rfl) rfl (Nat.le_of_ble_eq_true rfl) (eo_C_waysToRead (g := ?_) e1)
      show Wp _ _ _ _ _ _ _ 21 [(0, .ref 0), (1, .int x1)] [.int r1] (HS I1 L1 X)
      refine w_if_ne (Ev.cm _) rfl (fun c2 => ?_) (fun c2 => ?_)
      · have c2 : ¬ (r1 = 0) := c2
        rw [if_neg c2] at q
        refine w_iinc (ls2 := [(0, .ref 0), (1, .int (x1 + 1))]) (Ev.cm _) rfl rfl rfl ?_
        refine w_goto (Ev.cm _) rfl ?_
        show Wp _ _ _ _ _ _ _ 2 [(0, .ref 0), (1, .int (x1 + 1))] [] (HS I1 L1 X)
        refine Wp.sub [0, 1] (ls2 := [(0, .ref 0), (1, .int (x1 + 1))]) rfl ?_
        exact ih _ _ _ q
      · have c2 : r1 = 0 := c2
        rw [if_pos c2] at q
        refine w_iload_n (Ev.cm _) rfl rfl ?_
        obtain ⟨⟨r2, I2, L2⟩, e2, q⟩ := obs q
        dsimp only at q
        refine w_cstat (as := [.int x1]) (st := []) (Ev.cm _) rfl rfl rfl (Nat.le_of_ble_eq_true rfl) (Nat.le_of_ble_eq_true rfl) (eo_C_messageOf (g := ?_) e2)
        show Wp _ _ _ _ _ _ _ 28 [(0, .ref 0), (1, .int x1)] [.int r2] (HS I2 L2 X)
        refine w_ireturn (Ev.cm _) rfl trivial rf0 ?_
        cases q
        exact g
def FO_X_unread (fu : Nat) (I : Nat → Nat → Int32) (L : Nat → Nat → Int64) : Option (Int32 × (Nat → Nat → Int32) × (Nat → Nat → Int64)) := LO_X_unread_2 fu fu 2 I L
set_option maxHeartbeats 20000000 in
set_option maxRecDepth 20000 in
theorem eo_X_unread {d fu : Nat} {I : Nat → Nat → Int32} {L : Nat → Nat → Int64} {X : Nat × (Nat → Int32)} {Q : PQ} {res : Int32 × (Nat → Nat → Int32) × (Nat → Nat → Int64)}  (g : Q (some (.int res.1)) (HS res.2.1 res.2.2 X)) (q : FO_X_unread fu  I L = some res) : Ev (d + 3) m_X_unread [.ref 0] (HS I L X) Q := by
  unfold FO_X_unread at q
  refine ev_start (d := d + 2) rfl rfl rfl (Nat.le_of_ble_eq_true rfl) ?_
  show Wp (Ev (d + 2)) cd_X_unread (0, 0) (some .int) _ _ Q 0 [(0, .ref 0)] [] (HS I L X)
  refine w_iconst (Ev.cm _) rfl ?_
  refine w_istore_n (ls2 := [(0, .ref 0), (1, .int 2)]) (Ev.cm _) rfl rfl ?_
  show Wp _ _ _ _ _ _ _ 2 [(0, .ref 0), (1, .int 2)] [] (HS I L X)
  refine Wp.sub [0, 1] (ls2 := [(0, .ref 0), (1, .int 2)]) rfl ?_
  exact lo_X_unread_2 g fu _ _ _ q
def LO_X_room_8 (fu : Nat) : Nat → Int32 → Int32 → Int32 → Int32 → (Nat → Nat → Int32) → (Nat → Nat → Int64) → Option (Int32 × (Nat → Nat → Int32) × (Nat → Nat → Int64))
  | 0, _, _, _, _, _, _ => none
  | n + 1, x1, x2, x3, x4, I, L => if I 1 13 ≤ x4 then ((FO_X_part fu ((x3 : Int32).toInt64) ((x2 : Int32).toInt64) x1 I L).bind (fun u1 => let r1 := u1.1; let I1 := u1.2.1; let L1 := u1.2.2; some ((r1 : Int64).toInt32, I1, L1))) else (if 5 ≤ x4 then ((FO_X_part fu ((x3 : Int32).toInt64) ((x2 : Int32).toInt64) x1 I L).bind (fun u2 => let r2 := u2.1; let I2 := u2.2.1; let L2 := u2.2.2; some ((r2 : Int64).toInt32, I2, L2))) else (if 0 ≤ x4 ∧ x4 < 5 then ((FO_C_lengthOf fu (I 134 x4.toNatClampNeg) I L).bind (fun u4 => let r4 := u4.1; let I4 := u4.2.1; let L4 := u4.2.2; LO_X_room_8 fu n x1 x2 (x3 + (x2 >>> (r4 &&& 31))) (x4 + 1) I4 L4)) else none))
set_option maxHeartbeats 20000000 in
set_option maxRecDepth 20000 in
theorem lo_X_room_8 {d fu n0 s0 : Nat} {X : Nat × (Nat → Int32)} {Q : PQ} {res : Int32 × (Nat → Nat → Int32) × (Nat → Nat → Int64)}  (g : Q (some (.int res.1)) (HS res.2.1 res.2.2 X)) : ∀ (n : Nat) (x1 : Int32) (x2 : Int32) (x3 : Int32) (x4 : Int32) (I : Nat → Nat → Int32) (L : Nat → Nat → Int64), LO_X_room_8 fu n x1 x2 x3 x4 I L = some res → Wp (Ev (d + 1)) cd_X_room (0, 0) (some .int) n0 s0 Q 8 [(0, .ref 0), (1, .int x1), (2, .int x2), (3, .int x3), (4, .int x4)] [] (HS I L X) := by
  intro n
  induction n with
  | zero => intro _ _ _ _ _ _ q; cases q
  | succ n ih =>
    intro x1 x2 x3 x4 I L q
    unfold LO_X_room_8 at q
    refine w_iload (Ev.cm _) rfl rfl ?_
    refine w_aload_n (Ev.cm _) rfl rfl ?_
    refine w_getR (q := 1) (Ev.cm _) rfl (Nat.le_of_ble_eq_true rfl) rfl rfl ?_
    refine w_getI (Ev.cm _) rfl (Nat.le_of_ble_eq_true rfl) rfl ?_
    refine w_icmp_ge (Ev.cm _) rfl (fun c1 => ?_) (fun c1 => ?_)
    · have c1 : I 1 13 ≤ x4 := c1
      rw [if_pos c1] at q
      refine w_iload_n (Ev.cm _) rfl rfl ?_
      refine w_i2l (Ev.cm _) rfl ?_
      refine w_iload_n (Ev.cm _) rfl rfl ?_
      refine w_i2l (Ev.cm _) rfl ?_
      refine w_iload_n (Ev.cm _) rfl rfl ?_
      obtain ⟨⟨r1, I1, L1⟩, e1, q⟩ := obs q
      dsimp only at q
      refine w_cstat (as := [.long ((x3 : Int32).toInt64), .long ((x2 : Int32).toInt64), .int x1]) (st := []) (Ev.cm _) rfl rfl rfl (Nat.le_of_ble_eq_true rfl) (Nat.le_of_ble_eq_true rfl) (eo_X_part (g := ?_) e1)
      show Wp _ _ _ _ _ _ _ 58 [(0, .ref 0), (1, .int x1), (2, .int x2), (3, .int x3), (4, .int x4)] [.long r1] (HS I1 L1 X)
      refine w_l2i (Ev.cm _) rfl ?_
      refine w_ireturn (Ev.cm _) rfl trivial rf0 ?_
      cases q
      exact g
    · have c1 : ¬ (I 1 13 ≤ x4) := c1
      rw [if_neg c1] at q
      refine w_iload (Ev.cm _) rfl rfl ?_
      refine w_iconst (Ev.cm _) rfl ?_
      refine w_icmp_ge (Ev.cm _) rfl (fun c2 => ?_) (fun c2 => ?_)
      · have c2 : 5 ≤ x4 := c2
        rw [if_pos c2] at q
        refine w_iload_n (Ev.cm _) rfl rfl ?_
        refine w_i2l (Ev.cm _) rfl ?_
        refine w_iload_n (Ev.cm _) rfl rfl ?_
        refine w_i2l (Ev.cm _) rfl ?_
        refine w_iload_n (Ev.cm _) rfl rfl ?_
        obtain ⟨⟨r2, I2, L2⟩, e2, q⟩ := obs q
        dsimp only at q
        refine w_cstat (as := [.long ((x3 : Int32).toInt64), .long ((x2 : Int32).toInt64), .int x1]) (st := []) (Ev.cm _) rfl rfl rfl (Nat.le_of_ble_eq_true rfl) (Nat.le_of_ble_eq_true rfl) (eo_X_part (g := ?_) e2)
        show Wp _ _ _ _ _ _ _ 58 [(0, .ref 0), (1, .int x1), (2, .int x2), (3, .int x3), (4, .int x4)] [.long r2] (HS I2 L2 X)
        refine w_l2i (Ev.cm _) rfl ?_
        refine w_ireturn (Ev.cm _) rfl trivial rf0 ?_
        cases q
        exact g
      · have c2 : ¬ (5 ≤ x4) := c2
        rw [if_neg c2] at q
        refine w_iload_n (Ev.cm _) rfl rfl ?_
        refine w_iload_n (Ev.cm _) rfl rfl ?_
        refine w_aload_n (Ev.cm _) rfl rfl ?_
        refine w_getR (q := 1) (Ev.cm _) rfl (Nat.le_of_ble_eq_true rfl) rfl rfl ?_
        refine w_getR (q := 134) (Ev.cm _) rfl (Nat.le_of_ble_eq_true rfl) rfl rfl ?_
        refine w_iload (Ev.cm _) rfl rfl ?_
        obtain ⟨b3, q⟩ := ois q
        refine w_iald (Ev.cm _) rfl (Nat.le_of_ble_eq_true rfl) rfl (show vp_in x4 5 from vpI 5 (by decide) b3.1 b3.2) ?_
        obtain ⟨⟨r4, I4, L4⟩, e4, q⟩ := obs q
        dsimp only at q
        refine w_cstat (as := [.int (I 134 x4.toNatClampNeg)]) (st := [.int x2, .int x3]) (Ev.cm _) rfl rfl rfl (Nat.le_of_ble_eq_true rfl) (Nat.le_of_ble_eq_true rfl) (eo_C_lengthOf (g := ?_) e4)
        show Wp _ _ _ _ _ _ _ 41 [(0, .ref 0), (1, .int x1), (2, .int x2), (3, .int x3), (4, .int x4)] [.int r4, .int x2, .int x3] (HS I4 L4 X)
        refine w_ishr (Ev.cm _) rfl ?_
        refine w_iadd (Ev.cm _) rfl ?_
        refine w_istore_n (ls2 := [(0, .ref 0), (1, .int x1), (2, .int x2), (3, .int (x3 + (x2 >>> (r4 &&& 31)))), (4, .int x4)]) (Ev.cm _) rfl rfl ?_
        refine w_iinc (ls2 := [(0, .ref 0), (1, .int x1), (2, .int x2), (3, .int (x3 + (x2 >>> (r4 &&& 31)))), (4, .int (x4 + 1))]) (Ev.cm _) rfl rfl rfl ?_
        refine w_goto (Ev.cm _) rfl ?_
        show Wp _ _ _ _ _ _ _ 8 [(0, .ref 0), (1, .int x1), (2, .int x2), (3, .int (x3 + (x2 >>> (r4 &&& 31)))), (4, .int (x4 + 1))] [] (HS I4 L4 X)
        refine Wp.sub [0, 1, 2, 3, 4] (ls2 := [(0, .ref 0), (1, .int x1), (2, .int x2), (3, .int (x3 + (x2 >>> (r4 &&& 31)))), (4, .int (x4 + 1))]) rfl ?_
        exact ih _ _ _ _ _ _ q
def FO_X_room (fu : Nat) (p0 : Int32) (I : Nat → Nat → Int32) (L : Nat → Nat → Int64) : Option (Int32 × (Nat → Nat → Int32) × (Nat → Nat → Int64)) := LO_X_room_8 fu fu p0 32 0 0 I L
set_option maxHeartbeats 20000000 in
set_option maxRecDepth 20000 in
theorem eo_X_room {d fu : Nat} {p0 : Int32} {I : Nat → Nat → Int32} {L : Nat → Nat → Int64} {X : Nat × (Nat → Int32)} {Q : PQ} {res : Int32 × (Nat → Nat → Int32) × (Nat → Nat → Int64)}  (g : Q (some (.int res.1)) (HS res.2.1 res.2.2 X)) (q : FO_X_room fu p0 I L = some res) : Ev (d + 2) m_X_room [.ref 0, .int p0] (HS I L X) Q := by
  unfold FO_X_room at q
  refine ev_start (d := d + 1) rfl rfl rfl (Nat.le_of_ble_eq_true rfl) ?_
  show Wp (Ev (d + 1)) cd_X_room (0, 0) (some .int) _ _ Q 0 [(0, .ref 0), (1, .int p0)] [] (HS I L X)
  refine w_bipush (Ev.cm _) rfl ?_
  refine w_istore_n (ls2 := [(0, .ref 0), (1, .int p0), (2, .int 32)]) (Ev.cm _) rfl rfl ?_
  refine w_iconst (Ev.cm _) rfl ?_
  refine w_istore_n (ls2 := [(0, .ref 0), (1, .int p0), (2, .int 32), (3, .int 0)]) (Ev.cm _) rfl rfl ?_
  refine w_iconst (Ev.cm _) rfl ?_
  refine w_istore (ls2 := [(0, .ref 0), (1, .int p0), (2, .int 32), (3, .int 0), (4, .int 0)]) (Ev.cm _) rfl rfl ?_
  show Wp _ _ _ _ _ _ _ 8 [(0, .ref 0), (1, .int p0), (2, .int 32), (3, .int 0), (4, .int 0)] [] (HS I L X)
  refine Wp.sub [0, 1, 2, 3, 4] (ls2 := [(0, .ref 0), (1, .int p0), (2, .int 32), (3, .int 0), (4, .int 0)]) rfl ?_
  exact lo_X_room_8 g fu _ _ _ _ _ _ q
def LO_X_enough_8 (fu : Nat) : Nat → Int32 → Int32 → Int32 → Int32 → (Nat → Nat → Int32) → (Nat → Nat → Int64) → Option (Int32 × (Nat → Nat → Int32) × (Nat → Nat → Int64))
  | 0, _, _, _, _, _, _ => none
  | n + 1, x1, x2, x3, x4, I, L => if 8190 < x4 then (if x1 = 0 then (some (x3, I, L)) else (if x3 = (-1) then (some (x3, I, L)) else (some (x2, I, L)))) else ((FO_J_bitCount fu x4 I L).bind (fun u1 => let r1 := u1.1; let I1 := u1.2.1; let L1 := u1.2.2; if x2 ≤ r1 then (LO_X_enough_8 fu n x1 x2 x3 (x4 + 2) I1 L1) else ((FO_X_tellsAllApart fu x4 I1 L1).bind (fun u2 => let r2 := u2.1; let I2 := u2.2.1; let L2 := u2.2.2; if r2 = 0 then (LO_X_enough_8 fu n x1 x2 x3 (x4 + 2) I2 L2) else (LO_X_enough_8 fu n x1 r1 x4 (x4 + 2) I2 L2)))))
set_option maxHeartbeats 20000000 in
set_option maxRecDepth 20000 in
theorem lo_X_enough_8 {d fu n0 s0 : Nat} {X : Nat × (Nat → Int32)} {Q : PQ} {res : Int32 × (Nat → Nat → Int32) × (Nat → Nat → Int64)}  (g : Q (some (.int res.1)) (HS res.2.1 res.2.2 X)) : ∀ (n : Nat) (x1 : Int32) (x2 : Int32) (x3 : Int32) (x4 : Int32) (I : Nat → Nat → Int32) (L : Nat → Nat → Int64), LO_X_enough_8 fu n x1 x2 x3 x4 I L = some res → Wp (Ev (d + 3)) cd_X_enough (0, 0) (some .int) n0 s0 Q 8 [(0, .ref 0), (1, .int x1), (2, .int x2), (3, .int x3), (4, .int x4)] [] (HS I L X) := by
  intro n
  induction n with
  | zero => intro _ _ _ _ _ _ q; cases q
  | succ n ih =>
    intro x1 x2 x3 x4 I L q
    unfold LO_X_enough_8 at q
    refine w_iload (Ev.cm _) rfl rfl ?_
    refine w_sipush (Ev.cm _) rfl ?_
    refine w_icmp_gt (Ev.cm _) rfl (fun c1 => ?_) (fun c1 => ?_)
    · have c1 : 8190 < x4 := c1
      rw [if_pos c1] at q
      refine w_iload_n (Ev.cm _) rfl rfl ?_
      refine w_if_eq (Ev.cm _) rfl (fun c2 => ?_) (fun c2 => ?_)
      · have c2 : x1 = 0 := c2
        rw [if_pos c2] at q
        refine w_iload_n (Ev.cm _) rfl rfl ?_
        refine w_ireturn (Ev.cm _) rfl trivial rf0 ?_
        cases q
        exact g
      · have c2 : ¬ (x1 = 0) := c2
        rw [if_neg c2] at q
        refine w_iload_n (Ev.cm _) rfl rfl ?_
        refine w_iconst (Ev.cm _) rfl ?_
        refine w_icmp_eq (Ev.cm _) rfl (fun c3 => ?_) (fun c3 => ?_)
        · have c3 : x3 = (-1) := c3
          rw [if_pos c3] at q
          refine w_iload_n (Ev.cm _) rfl rfl ?_
          refine w_ireturn (Ev.cm _) rfl trivial rf0 ?_
          cases q
          exact g
        · have c3 : ¬ (x3 = (-1)) := c3
          rw [if_neg c3] at q
          refine w_iload_n (Ev.cm _) rfl rfl ?_
          refine w_goto (Ev.cm _) rfl ?_
          refine w_ireturn (Ev.cm _) rfl trivial rf0 ?_
          cases q
          exact g
    · have c1 : ¬ (8190 < x4) := c1
      rw [if_neg c1] at q
      refine w_iload (Ev.cm _) rfl rfl ?_
      obtain ⟨⟨r1, I1, L1⟩, e1, q⟩ := obs q
      dsimp only at q
      refine w_cstat (as := [.int x4]) (st := []) (Ev.cm _) rfl rfl rfl (Nat.le_of_ble_eq_true rfl) (Nat.le_of_ble_eq_true rfl) (eo_J_bitCount (g := ?_) e1)
      show Wp _ _ _ _ _ _ _ 21 [(0, .ref 0), (1, .int x1), (2, .int x2), (3, .int x3), (4, .int x4)] [.int r1] (HS I1 L1 X)
      refine w_istore (ls2 := [(0, .ref 0), (1, .int x1), (2, .int x2), (3, .int x3), (4, .int x4), (5, .int r1)]) (Ev.cm _) rfl rfl ?_
      refine w_iload (Ev.cm _) rfl rfl ?_
      refine w_iload_n (Ev.cm _) rfl rfl ?_
      refine w_icmp_ge (Ev.cm _) rfl (fun c4 => ?_) (fun c4 => ?_)
      · have c4 : x2 ≤ r1 := c4
        rw [if_pos c4] at q
        refine w_iinc (ls2 := [(0, .ref 0), (1, .int x1), (2, .int x2), (3, .int x3), (4, .int (x4 + 2)), (5, .int r1)]) (Ev.cm _) rfl rfl rfl ?_
        refine w_goto (Ev.cm _) rfl ?_
        show Wp _ _ _ _ _ _ _ 8 [(0, .ref 0), (1, .int x1), (2, .int x2), (3, .int x3), (4, .int (x4 + 2)), (5, .int r1)] [] (HS I1 L1 X)
        refine Wp.sub [0, 1, 2, 3, 4] (ls2 := [(0, .ref 0), (1, .int x1), (2, .int x2), (3, .int x3), (4, .int (x4 + 2))]) rfl ?_
        exact ih _ _ _ _ _ _ q
      · have c4 : ¬ (x2 ≤ r1) := c4
        rw [if_neg c4] at q
        refine w_aload_n (Ev.cm _) rfl rfl ?_
        refine w_iload (Ev.cm _) rfl rfl ?_
        obtain ⟨⟨r2, I2, L2⟩, e2, q⟩ := obs q
        dsimp only at q
        refine w_cvirt (o := 0) (as := [.int x4]) (st := []) (Ev.cm _) rfl rfl rfl (Nat.le_of_ble_eq_true rfl) (Nat.le_of_ble_eq_true rfl) rfl (Nat.le_of_ble_eq_true rfl) (eo_X_tellsAllApart (g := ?_) e2)
        show Wp _ _ _ _ _ _ _ 35 [(0, .ref 0), (1, .int x1), (2, .int x2), (3, .int x3), (4, .int x4), (5, .int r1)] [.int r2] (HS I2 L2 X)
        refine w_if_eq (Ev.cm _) rfl (fun c5 => ?_) (fun c5 => ?_)
        · have c5 : r2 = 0 := c5
          rw [if_pos c5] at q
          refine w_iinc (ls2 := [(0, .ref 0), (1, .int x1), (2, .int x2), (3, .int x3), (4, .int (x4 + 2)), (5, .int r1)]) (Ev.cm _) rfl rfl rfl ?_
          refine w_goto (Ev.cm _) rfl ?_
          show Wp _ _ _ _ _ _ _ 8 [(0, .ref 0), (1, .int x1), (2, .int x2), (3, .int x3), (4, .int (x4 + 2)), (5, .int r1)] [] (HS I2 L2 X)
          refine Wp.sub [0, 1, 2, 3, 4] (ls2 := [(0, .ref 0), (1, .int x1), (2, .int x2), (3, .int x3), (4, .int (x4 + 2))]) rfl ?_
          exact ih _ _ _ _ _ _ q
        · have c5 : ¬ (r2 = 0) := c5
          rw [if_neg c5] at q
          refine w_iload (Ev.cm _) rfl rfl ?_
          refine w_istore_n (ls2 := [(0, .ref 0), (1, .int x1), (2, .int r1), (3, .int x3), (4, .int x4), (5, .int r1)]) (Ev.cm _) rfl rfl ?_
          refine w_iload (Ev.cm _) rfl rfl ?_
          refine w_istore_n (ls2 := [(0, .ref 0), (1, .int x1), (2, .int r1), (3, .int x4), (4, .int x4), (5, .int r1)]) (Ev.cm _) rfl rfl ?_
          refine w_iinc (ls2 := [(0, .ref 0), (1, .int x1), (2, .int r1), (3, .int x4), (4, .int (x4 + 2)), (5, .int r1)]) (Ev.cm _) rfl rfl rfl ?_
          refine w_goto (Ev.cm _) rfl ?_
          show Wp _ _ _ _ _ _ _ 8 [(0, .ref 0), (1, .int x1), (2, .int r1), (3, .int x4), (4, .int (x4 + 2)), (5, .int r1)] [] (HS I2 L2 X)
          refine Wp.sub [0, 1, 2, 3, 4] (ls2 := [(0, .ref 0), (1, .int x1), (2, .int r1), (3, .int x4), (4, .int (x4 + 2))]) rfl ?_
          exact ih _ _ _ _ _ _ q
def FO_X_enough (fu : Nat) (p0 : Int32) (I : Nat → Nat → Int32) (L : Nat → Nat → Int64) : Option (Int32 × (Nat → Nat → Int32) × (Nat → Nat → Int64)) := LO_X_enough_8 fu fu p0 13 (-1) 0 I L
set_option maxHeartbeats 20000000 in
set_option maxRecDepth 20000 in
theorem eo_X_enough {d fu : Nat} {p0 : Int32} {I : Nat → Nat → Int32} {L : Nat → Nat → Int64} {X : Nat × (Nat → Int32)} {Q : PQ} {res : Int32 × (Nat → Nat → Int32) × (Nat → Nat → Int64)}  (g : Q (some (.int res.1)) (HS res.2.1 res.2.2 X)) (q : FO_X_enough fu p0 I L = some res) : Ev (d + 4) m_X_enough [.ref 0, .int p0] (HS I L X) Q := by
  unfold FO_X_enough at q
  refine ev_start (d := d + 3) rfl rfl rfl (Nat.le_of_ble_eq_true rfl) ?_
  show Wp (Ev (d + 3)) cd_X_enough (0, 0) (some .int) _ _ Q 0 [(0, .ref 0), (1, .int p0)] [] (HS I L X)
  refine w_bipush (Ev.cm _) rfl ?_
  refine w_istore_n (ls2 := [(0, .ref 0), (1, .int p0), (2, .int 13)]) (Ev.cm _) rfl rfl ?_
  refine w_iconst (Ev.cm _) rfl ?_
  refine w_istore_n (ls2 := [(0, .ref 0), (1, .int p0), (2, .int 13), (3, .int (-1))]) (Ev.cm _) rfl rfl ?_
  refine w_iconst (Ev.cm _) rfl ?_
  refine w_istore (ls2 := [(0, .ref 0), (1, .int p0), (2, .int 13), (3, .int (-1)), (4, .int 0)]) (Ev.cm _) rfl rfl ?_
  show Wp _ _ _ _ _ _ _ 8 [(0, .ref 0), (1, .int p0), (2, .int 13), (3, .int (-1)), (4, .int 0)] [] (HS I L X)
  refine Wp.sub [0, 1, 2, 3, 4] (ls2 := [(0, .ref 0), (1, .int p0), (2, .int 13), (3, .int (-1)), (4, .int 0)]) rfl ?_
  exact lo_X_enough_8 g fu _ _ _ _ _ _ q
def LO_X_cheapest_33 (fu : Nat) : Nat → Int32 → Int32 → Int32 → (Nat → Nat → Int32) → (Nat → Nat → Int64) → Option (Int32 × (Nat → Nat → Int32) × (Nat → Nat → Int64))
  | 0, _, _, _, _, _ => none
  | n + 1, x1, x2, x3, I, L => if x3 ≤ 1 then (some (x2, I, L)) else ((FO_X_takeLightest fu x3 I L).bind (fun u1 => let r1 := u1.1; let I1 := u1.2.1; let L1 := u1.2.2; (FO_X_takeLightest fu (x3 - 1) I1 L1).bind (fun u2 => let r2 := u2.1; let I2 := u2.2.1; let L2 := u2.2.2; if 0 ≤ x3 - 2 ∧ x3 - 2 < 6 then (LO_X_cheapest_33 fu n x1 (x2 + (r1 + r2)) (x3 + (-1)) (sI I2 330 ((x3 - 2).toNatClampNeg) (r1 + r2)) L2) else none)))
set_option maxHeartbeats 20000000 in
set_option maxRecDepth 20000 in
theorem lo_X_cheapest_33 {d fu n0 s0 : Nat} {X : Nat × (Nat → Int32)} {Q : PQ} {res : Int32 × (Nat → Nat → Int32) × (Nat → Nat → Int64)}  (g : Q (some (.int res.1)) (HS res.2.1 res.2.2 X)) : ∀ (n : Nat) (x1 : Int32) (x2 : Int32) (x3 : Int32) (I : Nat → Nat → Int32) (L : Nat → Nat → Int64), LO_X_cheapest_33 fu n x1 x2 x3 I L = some res → Wp (Ev (d + 2)) cd_X_cheapest (0, 0) (some .int) n0 s0 Q 33 [(0, .ref 0), (1, .int x1), (2, .int x2), (3, .int x3)] [] (HS I L X) := by
  intro n
  induction n with
  | zero => intro _ _ _ _ _ q; cases q
  | succ n ih =>
    intro x1 x2 x3 I L q
    unfold LO_X_cheapest_33 at q
    refine w_iload_n (Ev.cm _) rfl rfl ?_
    refine w_iconst (Ev.cm _) rfl ?_
    refine w_icmp_le (Ev.cm _) rfl (fun c1 => ?_) (fun c1 => ?_)
    · have c1 : x3 ≤ 1 := c1
      rw [if_pos c1] at q
      refine w_iload_n (Ev.cm _) rfl rfl ?_
      refine w_ireturn (Ev.cm _) rfl trivial rf0 ?_
      cases q
      exact g
    · have c1 : ¬ (x3 ≤ 1) := c1
      rw [if_neg c1] at q
      refine w_aload_n (Ev.cm _) rfl rfl ?_
      refine w_iload_n (Ev.cm _) rfl rfl ?_
      obtain ⟨⟨r1, I1, L1⟩, e1, q⟩ := obs q
      dsimp only at q
      refine w_cvirt (o := 0) (as := [.int x3]) (st := []) (Ev.cm _) rfl rfl rfl (Nat.le_of_ble_eq_true rfl) (Nat.le_of_ble_eq_true rfl) rfl (Nat.le_of_ble_eq_true rfl) (eo_X_takeLightest (g := ?_) e1)
      show Wp _ _ _ _ _ _ _ 43 [(0, .ref 0), (1, .int x1), (2, .int x2), (3, .int x3)] [.int r1] (HS I1 L1 X)
      refine w_istore (ls2 := [(0, .ref 0), (1, .int x1), (2, .int x2), (3, .int x3), (4, .int r1)]) (Ev.cm _) rfl rfl ?_
      refine w_iload (Ev.cm _) rfl rfl ?_
      refine w_aload_n (Ev.cm _) rfl rfl ?_
      refine w_iload_n (Ev.cm _) rfl rfl ?_
      refine w_iconst (Ev.cm _) rfl ?_
      refine w_isub (Ev.cm _) rfl ?_
      obtain ⟨⟨r2, I2, L2⟩, e2, q⟩ := obs q
      dsimp only at q
      refine w_cvirt (o := 0) (as := [.int (x3 - 1)]) (st := [.int r1]) (Ev.cm _) rfl rfl rfl (Nat.le_of_ble_eq_true rfl) (Nat.le_of_ble_eq_true rfl) rfl (Nat.le_of_ble_eq_true rfl) (eo_X_takeLightest (g := ?_) e2)
      show Wp _ _ _ _ _ _ _ 54 [(0, .ref 0), (1, .int x1), (2, .int x2), (3, .int x3), (4, .int r1)] [.int r2, .int r1] (HS I2 L2 X)
      refine w_iadd (Ev.cm _) rfl ?_
      refine w_istore (ls2 := [(0, .ref 0), (1, .int x1), (2, .int x2), (3, .int x3), (4, .int r1), (5, .int (r1 + r2))]) (Ev.cm _) rfl rfl ?_
      refine w_aload_n (Ev.cm _) rfl rfl ?_
      refine w_getR (q := 330) (Ev.cm _) rfl (Nat.le_of_ble_eq_true rfl) rfl rfl ?_
      refine w_iload_n (Ev.cm _) rfl rfl ?_
      refine w_iconst (Ev.cm _) rfl ?_
      refine w_isub (Ev.cm _) rfl ?_
      refine w_iload (Ev.cm _) rfl rfl ?_
      obtain ⟨b3, q⟩ := ois q
      refine w_iast (Ev.cm _) rfl (Nat.le_of_ble_eq_true rfl) rfl (show vp_in (x3 - 2) 6 from vpI 6 (by decide) b3.1 b3.2) ?_
      refine w_iload_n (Ev.cm _) rfl rfl ?_
      refine w_iload (Ev.cm _) rfl rfl ?_
      refine w_iadd (Ev.cm _) rfl ?_
      refine w_istore_n (ls2 := [(0, .ref 0), (1, .int x1), (2, .int (x2 + (r1 + r2))), (3, .int x3), (4, .int r1), (5, .int (r1 + r2))]) (Ev.cm _) rfl rfl ?_
      refine w_iinc (ls2 := [(0, .ref 0), (1, .int x1), (2, .int (x2 + (r1 + r2))), (3, .int (x3 + (-1))), (4, .int r1), (5, .int (r1 + r2))]) (Ev.cm _) rfl rfl rfl ?_
      refine w_goto (Ev.cm _) rfl ?_
      show Wp _ _ _ _ _ _ _ 33 [(0, .ref 0), (1, .int x1), (2, .int (x2 + (r1 + r2))), (3, .int (x3 + (-1))), (4, .int r1), (5, .int (r1 + r2))] [] (HS (sI I2 330 ((x3 - 2).toNatClampNeg) (r1 + r2)) L2 X)
      refine Wp.sub [0, 1, 2, 3] (ls2 := [(0, .ref 0), (1, .int x1), (2, .int (x2 + (r1 + r2))), (3, .int (x3 + (-1)))]) rfl ?_
      exact ih _ _ _ _ _ q
def FO_X_cheapest (fu : Nat) (p0 : Int32) (I : Nat → Nat → Int32) (L : Nat → Nat → Int64) : Option (Int32 × (Nat → Nat → Int32) × (Nat → Nat → Int64)) := if (1 : Int32) ≤ p0 ∧ p0 ≤ (6 : Int32) then (if 0 ≤ (0 : Int32) ∧ 0 ≤ (0 : Int32) ∧ 0 ≤ p0 ∧ (0 : Int32).toNatClampNeg + p0.toNatClampNeg ≤ 6 ∧ (0 : Int32).toNatClampNeg + p0.toNatClampNeg ≤ 6 then (LO_X_cheapest_33 fu fu p0 0 p0 (va_up I 330 (va_cpy (I 135) (I 330) 0 0 p0.toNatClampNeg)) L) else none) else (some ((-1), I, L))
set_option maxHeartbeats 20000000 in
set_option maxRecDepth 20000 in
theorem eo_X_cheapest {d fu : Nat} {p0 : Int32} {I : Nat → Nat → Int32} {L : Nat → Nat → Int64} {X : Nat × (Nat → Int32)} {Q : PQ} {res : Int32 × (Nat → Nat → Int32) × (Nat → Nat → Int64)}  (g : Q (some (.int res.1)) (HS res.2.1 res.2.2 X)) (q : FO_X_cheapest fu p0 I L = some res) : Ev (d + 3) m_X_cheapest [.ref 0, .int p0] (HS I L X) Q := by
  unfold FO_X_cheapest at q
  refine ev_start (d := d + 2) rfl rfl rfl (Nat.le_of_ble_eq_true rfl) ?_
  show Wp (Ev (d + 2)) cd_X_cheapest (0, 0) (some .int) _ _ Q 0 [(0, .ref 0), (1, .int p0)] [] (HS I L X)
  refine w_iload_n (Ev.cm _) rfl rfl ?_
  refine w_iconst (Ev.cm _) rfl ?_
  refine w_bipush (Ev.cm _) rfl ?_
  refine w_cstat (as := [.int p0, .int 1, .int 6]) (st := []) (Ev.cm _) rfl rfl rfl (Nat.le_of_ble_eq_true rfl) (Nat.le_of_ble_eq_true rfl) (x_within ?_)
  show Wp _ _ _ _ _ _ _ 7 [(0, .ref 0), (1, .int p0)] [.int (bI ((1 : Int32) ≤ p0 ∧ p0 ≤ (6 : Int32)))] (HS I L X)
  refine w_if_ne (Ev.cm _) rfl (fun c1 => ?_) (fun c1 => ?_)
  · have c1 : (1 : Int32) ≤ p0 ∧ p0 ≤ (6 : Int32) := bI_1.mp c1
    rw [if_pos c1] at q
    refine w_aload_n (Ev.cm _) rfl rfl ?_
    refine w_getR (q := 1) (Ev.cm _) rfl (Nat.le_of_ble_eq_true rfl) rfl rfl ?_
    refine w_getR (q := 135) (Ev.cm _) rfl (Nat.le_of_ble_eq_true rfl) rfl rfl ?_
    refine w_iconst (Ev.cm _) rfl ?_
    refine w_aload_n (Ev.cm _) rfl rfl ?_
    refine w_getR (q := 330) (Ev.cm _) rfl (Nat.le_of_ble_eq_true rfl) rfl rfl ?_
    refine w_iconst (Ev.cm _) rfl ?_
    refine w_iload_n (Ev.cm _) rfl rfl ?_
    obtain ⟨b1, q⟩ := ois q
    refine w_copy (Ev.cm _) rfl (Nat.le_of_ble_eq_true rfl) (Nat.le_of_ble_eq_true rfl) rfl rfl (Int32.not_lt.mpr b1.1) (Int32.not_lt.mpr b1.2.1) (Int32.not_lt.mpr b1.2.2.1) b1.2.2.2.1 b1.2.2.2.2 (Nat.le_of_ble_eq_true rfl) ?_
    refine w_iconst (Ev.cm _) rfl ?_
    refine w_istore_n (ls2 := [(0, .ref 0), (1, .int p0), (2, .int 0)]) (Ev.cm _) rfl rfl ?_
    refine w_iload_n (Ev.cm _) rfl rfl ?_
    refine w_istore_n (ls2 := [(0, .ref 0), (1, .int p0), (2, .int 0), (3, .int p0)]) (Ev.cm _) rfl rfl ?_
    show Wp _ _ _ _ _ _ _ 33 [(0, .ref 0), (1, .int p0), (2, .int 0), (3, .int p0)] [] (HS (va_up I 330 (va_cpy (I 135) (I 330) 0 0 p0.toNatClampNeg)) L X)
    refine Wp.sub [0, 1, 2, 3] (ls2 := [(0, .ref 0), (1, .int p0), (2, .int 0), (3, .int p0)]) rfl ?_
    exact lo_X_cheapest_33 g fu _ _ _ _ _ q
  · have c1 : ¬ ((1 : Int32) ≤ p0 ∧ p0 ≤ (6 : Int32)) := bI_0.mp c1
    rw [if_neg c1] at q
    refine w_iconst (Ev.cm _) rfl ?_
    refine w_ireturn (Ev.cm _) rfl trivial rf0 ?_
    cases q
    exact g
def FO_X_highest (fu : Nat) (I : Nat → Nat → Int32) (L : Nat → Nat → Int64) : Option (Int32 × (Nat → Nat → Int32) × (Nat → Nat → Int64)) := (FO_X_mostOf_3 fu  I L).bind (fun u1 => let r1 := u1.1; let I1 := u1.2.1; let L1 := u1.2.2; some (r1, I1, L1))
set_option maxHeartbeats 20000000 in
set_option maxRecDepth 20000 in
theorem eo_X_highest {d fu : Nat} {I : Nat → Nat → Int32} {L : Nat → Nat → Int64} {X : Nat × (Nat → Int32)} {Q : PQ} {res : Int32 × (Nat → Nat → Int32) × (Nat → Nat → Int64)}  (g : Q (some (.int res.1)) (HS res.2.1 res.2.2 X)) (q : FO_X_highest fu  I L = some res) : Ev (d + 4) m_X_highest [.ref 0] (HS I L X) Q := by
  unfold FO_X_highest at q
  refine ev_start (d := d + 3) rfl rfl rfl (Nat.le_of_ble_eq_true rfl) ?_
  show Wp (Ev (d + 3)) cd_X_highest (0, 0) (some .int) _ _ Q 0 [(0, .ref 0)] [] (HS I L X)
  refine w_aload_n (Ev.cm _) rfl rfl ?_
  refine w_aload_n (Ev.cm _) rfl rfl ?_
  refine w_getR (q := 1) (Ev.cm _) rfl (Nat.le_of_ble_eq_true rfl) rfl rfl ?_
  refine w_getR (q := 2) (Ev.cm _) rfl (Nat.le_of_ble_eq_true rfl) rfl rfl ?_
  refine w_getR (q := 3) (Ev.cm _) rfl (Nat.le_of_ble_eq_true rfl) rfl rfl ?_
  obtain ⟨⟨r1, I1, L1⟩, e1, q⟩ := obs q
  dsimp only at q
  refine w_cvirt (o := 0) (as := [.ref 3]) (st := []) (Ev.cm _) rfl rfl rfl (Nat.le_of_ble_eq_true rfl) (Nat.le_of_ble_eq_true rfl) rfl (Nat.le_of_ble_eq_true rfl) (eo_X_mostOf_3 (g := ?_) e1)
  show Wp _ _ _ _ _ _ _ 14 [(0, .ref 0)] [.int r1] (HS I1 L1 X)
  refine w_ireturn (Ev.cm _) rfl trivial rf0 ?_
  cases q
  exact g
def FO_X_restless (fu : Nat) (I : Nat → Nat → Int32) (L : Nat → Nat → Int64) : Option (Int32 × (Nat → Nat → Int32) × (Nat → Nat → Int64)) := (FO_X_mostOf_4 fu  I L).bind (fun u1 => let r1 := u1.1; let I1 := u1.2.1; let L1 := u1.2.2; some (r1, I1, L1))
set_option maxHeartbeats 20000000 in
set_option maxRecDepth 20000 in
theorem eo_X_restless {d fu : Nat} {I : Nat → Nat → Int32} {L : Nat → Nat → Int64} {X : Nat × (Nat → Int32)} {Q : PQ} {res : Int32 × (Nat → Nat → Int32) × (Nat → Nat → Int64)}  (g : Q (some (.int res.1)) (HS res.2.1 res.2.2 X)) (q : FO_X_restless fu  I L = some res) : Ev (d + 4) m_X_restless [.ref 0] (HS I L X) Q := by
  unfold FO_X_restless at q
  refine ev_start (d := d + 3) rfl rfl rfl (Nat.le_of_ble_eq_true rfl) ?_
  show Wp (Ev (d + 3)) cd_X_restless (0, 0) (some .int) _ _ Q 0 [(0, .ref 0)] [] (HS I L X)
  refine w_aload_n (Ev.cm _) rfl rfl ?_
  refine w_aload_n (Ev.cm _) rfl rfl ?_
  refine w_getR (q := 1) (Ev.cm _) rfl (Nat.le_of_ble_eq_true rfl) rfl rfl ?_
  refine w_getR (q := 2) (Ev.cm _) rfl (Nat.le_of_ble_eq_true rfl) rfl rfl ?_
  refine w_getR (q := 4) (Ev.cm _) rfl (Nat.le_of_ble_eq_true rfl) rfl rfl ?_
  obtain ⟨⟨r1, I1, L1⟩, e1, q⟩ := obs q
  dsimp only at q
  refine w_cvirt (o := 0) (as := [.ref 4]) (st := []) (Ev.cm _) rfl rfl rfl (Nat.le_of_ble_eq_true rfl) (Nat.le_of_ble_eq_true rfl) rfl (Nat.le_of_ble_eq_true rfl) (eo_X_mostOf_4 (g := ?_) e1)
  show Wp _ _ _ _ _ _ _ 14 [(0, .ref 0)] [.int r1] (HS I1 L1 X)
  refine w_ireturn (Ev.cm _) rfl trivial rf0 ?_
  cases q
  exact g
def FO_X_image (fu : Nat) (I : Nat → Nat → Int32) (L : Nat → Nat → Int64) : Option (Int32 × (Nat → Nat → Int32) × (Nat → Nat → Int64)) := (FO_Q_copyState_137 fu  I L).bind (fun u1 => let r1 := u1.1; let I1 := u1.2.1; let L1 := u1.2.2; some (I1 2 0, I1, L1))
set_option maxHeartbeats 20000000 in
set_option maxRecDepth 20000 in
theorem eo_X_image {d fu : Nat} {I : Nat → Nat → Int32} {L : Nat → Nat → Int64} {X : Nat × (Nat → Int32)} {Q : PQ} {res : Int32 × (Nat → Nat → Int32) × (Nat → Nat → Int64)}  (g : Q (some (.int res.1)) (HS res.2.1 res.2.2 X)) (q : FO_X_image fu  I L = some res) : Ev (d + 6) m_X_image [.ref 0] (HS I L X) Q := by
  unfold FO_X_image at q
  refine ev_start (d := d + 5) rfl rfl rfl (Nat.le_of_ble_eq_true rfl) ?_
  show Wp (Ev (d + 5)) cd_X_image (0, 0) (some .int) _ _ Q 0 [(0, .ref 0)] [] (HS I L X)
  refine w_aload_n (Ev.cm _) rfl rfl ?_
  refine w_getR (q := 137) (Ev.cm _) rfl (Nat.le_of_ble_eq_true rfl) rfl rfl ?_
  refine w_aload_n (Ev.cm _) rfl rfl ?_
  refine w_getR (q := 1) (Ev.cm _) rfl (Nat.le_of_ble_eq_true rfl) rfl rfl ?_
  obtain ⟨⟨r1, I1, L1⟩, e1, q⟩ := obs q
  dsimp only at q
  refine w_cvirt (o := 137) (as := [.ref 1]) (st := []) (Ev.cm _) rfl rfl rfl (Nat.le_of_ble_eq_true rfl) (Nat.le_of_ble_eq_true rfl) rfl (Nat.le_of_ble_eq_true rfl) (eo_Q_copyState_137 (g := ?_) e1)
  show Wp _ _ _ _ _ _ _ 11 [(0, .ref 0)] [] (HS I1 L1 X)
  refine w_aload_n (Ev.cm _) rfl rfl ?_
  refine w_getR (q := 1) (Ev.cm _) rfl (Nat.le_of_ble_eq_true rfl) rfl rfl ?_
  refine w_getR (q := 2) (Ev.cm _) rfl (Nat.le_of_ble_eq_true rfl) rfl rfl ?_
  refine w_getI (Ev.cm _) rfl (Nat.le_of_ble_eq_true rfl) rfl ?_
  refine w_ireturn (Ev.cm _) rfl trivial rf0 ?_
  cases q
  exact g
def FO_X_back (fu : Nat) (I : Nat → Nat → Int32) (L : Nat → Nat → Int64) : Option (Int32 × (Nat → Nat → Int32) × (Nat → Nat → Int64)) := (FO_Q_copyState_1 fu  I L).bind (fun u1 => let r1 := u1.1; let I1 := u1.2.1; let L1 := u1.2.2; some (I1 2 0, I1, L1))
set_option maxHeartbeats 20000000 in
set_option maxRecDepth 20000 in
theorem eo_X_back {d fu : Nat} {I : Nat → Nat → Int32} {L : Nat → Nat → Int64} {X : Nat × (Nat → Int32)} {Q : PQ} {res : Int32 × (Nat → Nat → Int32) × (Nat → Nat → Int64)}  (g : Q (some (.int res.1)) (HS res.2.1 res.2.2 X)) (q : FO_X_back fu  I L = some res) : Ev (d + 6) m_X_back [.ref 0] (HS I L X) Q := by
  unfold FO_X_back at q
  refine ev_start (d := d + 5) rfl rfl rfl (Nat.le_of_ble_eq_true rfl) ?_
  show Wp (Ev (d + 5)) cd_X_back (0, 0) (some .int) _ _ Q 0 [(0, .ref 0)] [] (HS I L X)
  refine w_aload_n (Ev.cm _) rfl rfl ?_
  refine w_getR (q := 1) (Ev.cm _) rfl (Nat.le_of_ble_eq_true rfl) rfl rfl ?_
  refine w_aload_n (Ev.cm _) rfl rfl ?_
  refine w_getR (q := 137) (Ev.cm _) rfl (Nat.le_of_ble_eq_true rfl) rfl rfl ?_
  obtain ⟨⟨r1, I1, L1⟩, e1, q⟩ := obs q
  dsimp only at q
  refine w_cvirt (o := 1) (as := [.ref 137]) (st := []) (Ev.cm _) rfl rfl rfl (Nat.le_of_ble_eq_true rfl) (Nat.le_of_ble_eq_true rfl) rfl (Nat.le_of_ble_eq_true rfl) (eo_Q_copyState_1 (g := ?_) e1)
  show Wp _ _ _ _ _ _ _ 11 [(0, .ref 0)] [] (HS I1 L1 X)
  refine w_aload_n (Ev.cm _) rfl rfl ?_
  refine w_getR (q := 1) (Ev.cm _) rfl (Nat.le_of_ble_eq_true rfl) rfl rfl ?_
  refine w_getR (q := 2) (Ev.cm _) rfl (Nat.le_of_ble_eq_true rfl) rfl rfl ?_
  refine w_getI (Ev.cm _) rfl (Nat.le_of_ble_eq_true rfl) rfl ?_
  refine w_ireturn (Ev.cm _) rfl trivial rf0 ?_
  cases q
  exact g
def FO_X_ticksBy_n (fu : Nat) (p1 : Int32) (p2 : Int32) (p3 : Int32) (I : Nat → Nat → Int32) (L : Nat → Nat → Int64) : Option (Int32 × (Nat → Nat → Int32) × (Nat → Nat → Int64)) := if 0 ≤ p1 ∧ p1 < 6 then (some ((I 128 p1.toNatClampNeg) + (I 2 2), I, L)) else none
set_option maxHeartbeats 20000000 in
set_option maxRecDepth 20000 in
theorem eo_X_ticksBy_n {d fu : Nat} {p1 : Int32} {p2 : Int32} {p3 : Int32} {I : Nat → Nat → Int32} {L : Nat → Nat → Int64} {X : Nat × (Nat → Int32)} {Q : PQ} {res : Int32 × (Nat → Nat → Int32) × (Nat → Nat → Int64)}  (g : Q (some (.int res.1)) (HS res.2.1 res.2.2 X)) (q : FO_X_ticksBy_n fu p1 p2 p3 I L = some res) : Ev (d + 4) m_X_ticksBy [.ref 0, .null, .int p1, .int p2, .int p3] (HS I L X) Q := by
  unfold FO_X_ticksBy_n at q
  refine ev_start (d := d + 3) rfl rfl rfl (Nat.le_of_ble_eq_true rfl) ?_
  show Wp (Ev (d + 3)) cd_X_ticksBy (0, 0) (some .int) _ _ Q 0 [(0, .ref 0), (1, .null), (2, .int p1), (3, .int p2), (4, .int p3)] [] (HS I L X)
  refine w_aload_n (Ev.cm _) rfl rfl ?_
  refine w_getR (q := 1) (Ev.cm _) rfl (Nat.le_of_ble_eq_true rfl) rfl rfl ?_
  refine w_getR (q := 2) (Ev.cm _) rfl (Nat.le_of_ble_eq_true rfl) rfl rfl ?_
  refine w_astore (ls2 := [(0, .ref 0), (1, .null), (2, .int p1), (3, .int p2), (4, .int p3), (5, .ref 2)]) (Ev.cm _) rfl trivial rfl ?_
  refine w_aload_nN (Ev.cm _) rfl rfl ?_
  refine w_ifnullN (Ev.cm _) rfl ?_
  refine w_aload_n (Ev.cm _) rfl rfl ?_
  refine w_getR (q := 1) (Ev.cm _) rfl (Nat.le_of_ble_eq_true rfl) rfl rfl ?_
  refine w_getR (q := 128) (Ev.cm _) rfl (Nat.le_of_ble_eq_true rfl) rfl rfl ?_
  refine w_iload_n (Ev.cm _) rfl rfl ?_
  obtain ⟨b1, q⟩ := ois q
  refine w_iald (Ev.cm _) rfl (Nat.le_of_ble_eq_true rfl) rfl (show vp_in p1 6 from vpI 6 (by decide) b1.1 b1.2) ?_
  refine w_aload (Ev.cm _) rfl rfl ?_
  refine w_getI (Ev.cm _) rfl (Nat.le_of_ble_eq_true rfl) rfl ?_
  refine w_iadd (Ev.cm _) rfl ?_
  refine w_ireturn (Ev.cm _) rfl trivial rf0 ?_
  cases q
  exact g
def FO_X_ticksBy_o (fu : Nat) (o : Nat) (p1 : Int32) (p2 : Int32) (p3 : Int32) (I : Nat → Nat → Int32) (L : Nat → Nat → Int64) : Option (Int32 × (Nat → Nat → Int32) × (Nat → Nat → Int64)) := (FO_T_rules_o fu o 38 I L).bind (fun u1 => let r1 := u1.1; let I1 := u1.2.1; let L1 := u1.2.2; if r1 = 0 then (if 0 ≤ p1 ∧ p1 < 6 then (some ((I1 128 p1.toNatClampNeg) + (I1 2 2), I1, L1)) else none) else ((FO_W_tell fu p2 I1 L1).bind (fun u2 => let r2 := u2.1; let I2 := u2.2.1; let L2 := u2.2.2; if 0 ≤ p1 ∧ p1 < 6 then (if 0 ≤ p1 ∧ p1 < 6 then (if 0 ≤ p1 ∧ p1 < 6 then (if p3 = 0 then ((FO_W_tellLodger fu (I2 128 p1.toNatClampNeg) (I2 129 p1.toNatClampNeg) p1 (I2 4 p1.toNatClampNeg) 0 I2 L2).bind (fun u6 => let r6 := u6.1; let I6 := u6.2.1; let L6 := u6.2.2; (FO_W_says fu o 38 I6 L6).bind (fun u7 => let r7 := u7.1; let I7 := u7.2.1; let L7 := u7.2.2; some (r7, I7, L7)))) else ((FO_W_tellLodger fu (I2 128 p1.toNatClampNeg) (I2 129 p1.toNatClampNeg) p1 (I2 4 p1.toNatClampNeg) 1 I2 L2).bind (fun u8 => let r8 := u8.1; let I8 := u8.2.1; let L8 := u8.2.2; (FO_W_says fu o 38 I8 L8).bind (fun u9 => let r9 := u9.1; let I9 := u9.2.1; let L9 := u9.2.2; some (r9, I9, L9))))) else none) else none) else none)))
set_option maxHeartbeats 20000000 in
set_option maxRecDepth 20000 in
theorem eo_X_ticksBy_o {d fu : Nat} {o : Nat} {p1 : Int32} {p2 : Int32} {p3 : Int32} {I : Nat → Nat → Int32} {L : Nat → Nat → Int64} {X : Nat × (Nat → Int32)} {Q : PQ} {res : Int32 × (Nat → Nat → Int32) × (Nat → Nat → Int64)}  (ho : isT o) (g : Q (some (.int res.1)) (HS res.2.1 res.2.2 X)) (q : FO_X_ticksBy_o fu o p1 p2 p3 I L = some res) : Ev (d + 4) m_X_ticksBy [.ref 0, .ref o, .int p1, .int p2, .int p3] (HS I L X) Q := by
  unfold FO_X_ticksBy_o at q
  refine ev_start (d := d + 3) rfl rfl rfl (Nat.le_of_ble_eq_true rfl) ?_
  show Wp (Ev (d + 3)) cd_X_ticksBy (0, 0) (some .int) _ _ Q 0 [(0, .ref 0), (1, .ref o), (2, .int p1), (3, .int p2), (4, .int p3)] [] (HS I L X)
  refine w_aload_n (Ev.cm _) rfl rfl ?_
  refine w_getR (q := 1) (Ev.cm _) rfl (Nat.le_of_ble_eq_true rfl) rfl rfl ?_
  refine w_getR (q := 2) (Ev.cm _) rfl (Nat.le_of_ble_eq_true rfl) rfl rfl ?_
  refine w_astore (ls2 := [(0, .ref 0), (1, .ref o), (2, .int p1), (3, .int p2), (4, .int p3), (5, .ref 2)]) (Ev.cm _) rfl trivial rfl ?_
  refine w_aload_n (Ev.cm _) rfl rfl ?_
  refine w_ifnull (Ev.cm _) rfl ?_
  refine w_aload_n (Ev.cm _) rfl rfl ?_
  refine w_bipush (Ev.cm _) rfl ?_
  obtain ⟨⟨r1, I1, L1⟩, e1, q⟩ := obs q
  dsimp only at q
  refine w_cvirt (o := o) (as := [.int 38]) (st := []) (Ev.cm _) rfl rfl rfl (Nat.le_of_ble_eq_true rfl) (isT_lt0 ho) (congrArg Prod.fst (isT_k0 ho)) (Nat.le_of_ble_eq_true rfl) (eo_T_rules_o ho (g := ?_) e1)
  show Wp _ _ _ _ _ _ _ 19 [(0, .ref 0), (1, .ref o), (2, .int p1), (3, .int p2), (4, .int p3), (5, .ref 2)] [.int r1] (HS I1 L1 X)
  refine w_if_ne (Ev.cm _) rfl (fun c1 => ?_) (fun c1 => ?_)
  · have c1 : ¬ (r1 = 0) := c1
    rw [if_neg c1] at q
    refine w_aload_n (Ev.cm _) rfl rfl ?_
    refine w_getR (q := 319) (Ev.cm _) rfl (Nat.le_of_ble_eq_true rfl) rfl rfl ?_
    refine w_aload (Ev.cm _) rfl rfl ?_
    refine w_iload_n (Ev.cm _) rfl rfl ?_
    obtain ⟨⟨r2, I2, L2⟩, e2, q⟩ := obs q
    dsimp only at q
    refine w_cvirt (o := 319) (as := [.ref 2, .int p2]) (st := []) (Ev.cm _) rfl rfl rfl (Nat.le_of_ble_eq_true rfl) (Nat.le_of_ble_eq_true rfl) rfl (Nat.le_of_ble_eq_true rfl) (eo_W_tell (g := ?_) e2)
    show Wp _ _ _ _ _ _ _ 48 [(0, .ref 0), (1, .ref o), (2, .int p1), (3, .int p2), (4, .int p3), (5, .ref 2)] [] (HS I2 L2 X)
    refine w_aload_n (Ev.cm _) rfl rfl ?_
    refine w_getR (q := 319) (Ev.cm _) rfl (Nat.le_of_ble_eq_true rfl) rfl rfl ?_
    refine w_aload_n (Ev.cm _) rfl rfl ?_
    refine w_getR (q := 1) (Ev.cm _) rfl (Nat.le_of_ble_eq_true rfl) rfl rfl ?_
    refine w_getR (q := 128) (Ev.cm _) rfl (Nat.le_of_ble_eq_true rfl) rfl rfl ?_
    refine w_iload_n (Ev.cm _) rfl rfl ?_
    obtain ⟨b3, q⟩ := ois q
    refine w_iald (Ev.cm _) rfl (Nat.le_of_ble_eq_true rfl) rfl (show vp_in p1 6 from vpI 6 (by decide) b3.1 b3.2) ?_
    refine w_aload_n (Ev.cm _) rfl rfl ?_
    refine w_getR (q := 1) (Ev.cm _) rfl (Nat.le_of_ble_eq_true rfl) rfl rfl ?_
    refine w_getR (q := 129) (Ev.cm _) rfl (Nat.le_of_ble_eq_true rfl) rfl rfl ?_
    refine w_iload_n (Ev.cm _) rfl rfl ?_
    obtain ⟨b4, q⟩ := ois q
    refine w_iald (Ev.cm _) rfl (Nat.le_of_ble_eq_true rfl) rfl (show vp_in p1 6 from vpI 6 (by decide) b4.1 b4.2) ?_
    refine w_iload_n (Ev.cm _) rfl rfl ?_
    refine w_aload (Ev.cm _) rfl rfl ?_
    refine w_getR (q := 4) (Ev.cm _) rfl (Nat.le_of_ble_eq_true rfl) rfl rfl ?_
    refine w_iload_n (Ev.cm _) rfl rfl ?_
    obtain ⟨b5, q⟩ := ois q
    refine w_iald (Ev.cm _) rfl (Nat.le_of_ble_eq_true rfl) rfl (show vp_in p1 6 from vpI 6 (by decide) b5.1 b5.2) ?_
    refine w_iload (Ev.cm _) rfl rfl ?_
    refine w_if_eq (Ev.cm _) rfl (fun c2 => ?_) (fun c2 => ?_)
    · have c2 : p3 = 0 := c2
      rw [if_pos c2] at q
      refine w_iconst (Ev.cm _) rfl ?_
      obtain ⟨⟨r6, I6, L6⟩, e6, q⟩ := obs q
      dsimp only at q
      refine w_cvirt (o := 319) (as := [.int (I2 128 p1.toNatClampNeg), .int (I2 129 p1.toNatClampNeg), .int p1, .int (I2 4 p1.toNatClampNeg), .int 0]) (st := []) (Ev.cm _) rfl rfl rfl (Nat.le_of_ble_eq_true rfl) (Nat.le_of_ble_eq_true rfl) rfl (Nat.le_of_ble_eq_true rfl) (eo_W_tellLodger (g := ?_) e6)
      show Wp _ _ _ _ _ _ _ 91 [(0, .ref 0), (1, .ref o), (2, .int p1), (3, .int p2), (4, .int p3), (5, .ref 2)] [] (HS I6 L6 X)
      refine w_aload_n (Ev.cm _) rfl rfl ?_
      refine w_getR (q := 319) (Ev.cm _) rfl (Nat.le_of_ble_eq_true rfl) rfl rfl ?_
      refine w_aload_n (Ev.cm _) rfl rfl ?_
      refine w_bipush (Ev.cm _) rfl ?_
      obtain ⟨⟨r7, I7, L7⟩, e7, q⟩ := obs q
      dsimp only at q
      refine w_cvirt (o := 319) (as := [.ref o, .int 38]) (st := []) (Ev.cm _) rfl rfl rfl (Nat.le_of_ble_eq_true rfl) (Nat.le_of_ble_eq_true rfl) rfl (Nat.le_of_ble_eq_true rfl) (eo_W_says ho (g := ?_) e7)
      show Wp _ _ _ _ _ _ _ 101 [(0, .ref 0), (1, .ref o), (2, .int p1), (3, .int p2), (4, .int p3), (5, .ref 2)] [.int r7] (HS I7 L7 X)
      refine w_ireturn (Ev.cm _) rfl trivial rf0 ?_
      cases q
      exact g
    · have c2 : ¬ (p3 = 0) := c2
      rw [if_neg c2] at q
      refine w_iconst (Ev.cm _) rfl ?_
      refine w_goto (Ev.cm _) rfl ?_
      obtain ⟨⟨r8, I8, L8⟩, e8, q⟩ := obs q
      dsimp only at q
      refine w_cvirt (o := 319) (as := [.int (I2 128 p1.toNatClampNeg), .int (I2 129 p1.toNatClampNeg), .int p1, .int (I2 4 p1.toNatClampNeg), .int 1]) (st := []) (Ev.cm _) rfl rfl rfl (Nat.le_of_ble_eq_true rfl) (Nat.le_of_ble_eq_true rfl) rfl (Nat.le_of_ble_eq_true rfl) (eo_W_tellLodger (g := ?_) e8)
      show Wp _ _ _ _ _ _ _ 91 [(0, .ref 0), (1, .ref o), (2, .int p1), (3, .int p2), (4, .int p3), (5, .ref 2)] [] (HS I8 L8 X)
      refine w_aload_n (Ev.cm _) rfl rfl ?_
      refine w_getR (q := 319) (Ev.cm _) rfl (Nat.le_of_ble_eq_true rfl) rfl rfl ?_
      refine w_aload_n (Ev.cm _) rfl rfl ?_
      refine w_bipush (Ev.cm _) rfl ?_
      obtain ⟨⟨r9, I9, L9⟩, e9, q⟩ := obs q
      dsimp only at q
      refine w_cvirt (o := 319) (as := [.ref o, .int 38]) (st := []) (Ev.cm _) rfl rfl rfl (Nat.le_of_ble_eq_true rfl) (Nat.le_of_ble_eq_true rfl) rfl (Nat.le_of_ble_eq_true rfl) (eo_W_says ho (g := ?_) e9)
      show Wp _ _ _ _ _ _ _ 101 [(0, .ref 0), (1, .ref o), (2, .int p1), (3, .int p2), (4, .int p3), (5, .ref 2)] [.int r9] (HS I9 L9 X)
      refine w_ireturn (Ev.cm _) rfl trivial rf0 ?_
      cases q
      exact g
  · have c1 : r1 = 0 := c1
    rw [if_pos c1] at q
    refine w_aload_n (Ev.cm _) rfl rfl ?_
    refine w_getR (q := 1) (Ev.cm _) rfl (Nat.le_of_ble_eq_true rfl) rfl rfl ?_
    refine w_getR (q := 128) (Ev.cm _) rfl (Nat.le_of_ble_eq_true rfl) rfl rfl ?_
    refine w_iload_n (Ev.cm _) rfl rfl ?_
    obtain ⟨b10, q⟩ := ois q
    refine w_iald (Ev.cm _) rfl (Nat.le_of_ble_eq_true rfl) rfl (show vp_in p1 6 from vpI 6 (by decide) b10.1 b10.2) ?_
    refine w_aload (Ev.cm _) rfl rfl ?_
    refine w_getI (Ev.cm _) rfl (Nat.le_of_ble_eq_true rfl) rfl ?_
    refine w_iadd (Ev.cm _) rfl ?_
    refine w_ireturn (Ev.cm _) rfl trivial rf0 ?_
    cases q
    exact g
def FO_X_leastHeard (fu : Nat) (p0 : Int32) (I : Nat → Nat → Int32) (L : Nat → Nat → Int64) : Option (Int32 × (Nat → Nat → Int32) × (Nat → Nat → Int64)) := if isLib I (I 1 7) then ((FO_T_rules_o fu (274 + 8 * (I 1 7).toNatClampNeg) 39 I L).bind (fun u1 => let r1 := u1.1; let I1 := u1.2.1; let L1 := u1.2.2; if r1 = 0 then (some (8, I1, L1)) else ((FO_W_tell fu p0 I1 L1).bind (fun u2 => let r2 := u2.1; let I2 := u2.2.1; let L2 := u2.2.2; (FO_W_says fu (274 + 8 * (I 1 7).toNatClampNeg) 39 I2 L2).bind (fun u3 => let r3 := u3.1; let I3 := u3.2.1; let L3 := u3.2.2; some (r3, I3, L3)))))) else (some (8, I, L))
set_option maxHeartbeats 20000000 in
set_option maxRecDepth 20000 in
theorem eo_X_leastHeard {d fu : Nat} {p0 : Int32} {I : Nat → Nat → Int32} {L : Nat → Nat → Int64} {X : Nat × (Nat → Int32)} {Q : PQ} {res : Int32 × (Nat → Nat → Int32) × (Nat → Nat → Int64)}  (g : Q (some (.int res.1)) (HS res.2.1 res.2.2 X)) (q : FO_X_leastHeard fu p0 I L = some res) : Ev (d + 4) m_X_leastHeard [.ref 0, .int p0] (HS I L X) Q := by
  unfold FO_X_leastHeard at q
  refine ev_start (d := d + 3) rfl rfl rfl (Nat.le_of_ble_eq_true rfl) ?_
  show Wp (Ev (d + 3)) cd_X_leastHeard (0, 0) (some .int) _ _ Q 0 [(0, .ref 0), (1, .int p0)] [] (HS I L X)
  refine w_aload_n (Ev.cm _) rfl rfl ?_
  refine w_aload_n (Ev.cm _) rfl rfl ?_
  refine w_getR (q := 1) (Ev.cm _) rfl (Nat.le_of_ble_eq_true rfl) rfl rfl ?_
  refine w_getI (Ev.cm _) rfl (Nat.le_of_ble_eq_true rfl) rfl ?_
  rcases Decidable.em (isLib I (I 1 7)) with c1 | c1
  · rw [if_pos c1] at q
    refine w_cvirt (o := 0) (as := [.int (I 1 7)]) (st := []) (Ev.cm _) rfl rfl rfl (Nat.le_of_ble_eq_true rfl) (Nat.le_of_ble_eq_true rfl) rfl (Nat.le_of_ble_eq_true rfl) (x_textOf_t c1 ?_)
    show Wp _ _ _ _ _ _ _ 11 [(0, .ref 0), (1, .int p0)] [.ref (274 + 8 * (I 1 7).toNatClampNeg)] (HS I L X)
    refine w_astore_n (ls2 := [(0, .ref 0), (1, .int p0), (2, .ref (274 + 8 * (I 1 7).toNatClampNeg))]) (Ev.cm _) rfl trivial rfl ?_
    refine w_aload_n (Ev.cm _) rfl rfl ?_
    refine w_ifnull (Ev.cm _) rfl ?_
    refine w_aload_n (Ev.cm _) rfl rfl ?_
    refine w_bipush (Ev.cm _) rfl ?_
    obtain ⟨⟨r1, I1, L1⟩, e1, q⟩ := obs q
    dsimp only at q
    refine w_cvirt (o := 274 + 8 * (I 1 7).toNatClampNeg) (as := [.int 39]) (st := []) (Ev.cm _) rfl rfl rfl (Nat.le_of_ble_eq_true rfl) (isT_lt0 (isT_lib c1)) (congrArg Prod.fst (isT_k0 (isT_lib c1))) (Nat.le_of_ble_eq_true rfl) (eo_T_rules_o (isT_lib c1) (g := ?_) e1)
    show Wp _ _ _ _ _ _ _ 22 [(0, .ref 0), (1, .int p0), (2, .ref (274 + 8 * (I 1 7).toNatClampNeg))] [.int r1] (HS I1 L1 X)
    refine w_if_ne (Ev.cm _) rfl (fun c2 => ?_) (fun c2 => ?_)
    · have c2 : ¬ (r1 = 0) := c2
      rw [if_neg c2] at q
      refine w_aload_n (Ev.cm _) rfl rfl ?_
      refine w_getR (q := 319) (Ev.cm _) rfl (Nat.le_of_ble_eq_true rfl) rfl rfl ?_
      refine w_aload_n (Ev.cm _) rfl rfl ?_
      refine w_getR (q := 1) (Ev.cm _) rfl (Nat.le_of_ble_eq_true rfl) rfl rfl ?_
      refine w_getR (q := 2) (Ev.cm _) rfl (Nat.le_of_ble_eq_true rfl) rfl rfl ?_
      refine w_iload_n (Ev.cm _) rfl rfl ?_
      obtain ⟨⟨r2, I2, L2⟩, e2, q⟩ := obs q
      dsimp only at q
      refine w_cvirt (o := 319) (as := [.ref 2, .int p0]) (st := []) (Ev.cm _) rfl rfl rfl (Nat.le_of_ble_eq_true rfl) (Nat.le_of_ble_eq_true rfl) rfl (Nat.le_of_ble_eq_true rfl) (eo_W_tell (g := ?_) e2)
      show Wp _ _ _ _ _ _ _ 43 [(0, .ref 0), (1, .int p0), (2, .ref (274 + 8 * (I 1 7).toNatClampNeg))] [] (HS I2 L2 X)
      refine w_aload_n (Ev.cm _) rfl rfl ?_
      refine w_getR (q := 319) (Ev.cm _) rfl (Nat.le_of_ble_eq_true rfl) rfl rfl ?_
      refine w_aload_n (Ev.cm _) rfl rfl ?_
      refine w_bipush (Ev.cm _) rfl ?_
      obtain ⟨⟨r3, I3, L3⟩, e3, q⟩ := obs q
      dsimp only at q
      refine w_cvirt (o := 319) (as := [.ref (274 + 8 * (I 1 7).toNatClampNeg), .int 39]) (st := []) (Ev.cm _) rfl rfl rfl (Nat.le_of_ble_eq_true rfl) (Nat.le_of_ble_eq_true rfl) rfl (Nat.le_of_ble_eq_true rfl) (eo_W_says (isT_lib c1) (g := ?_) e3)
      show Wp _ _ _ _ _ _ _ 53 [(0, .ref 0), (1, .int p0), (2, .ref (274 + 8 * (I 1 7).toNatClampNeg))] [.int r3] (HS I3 L3 X)
      refine w_ireturn (Ev.cm _) rfl trivial rf0 ?_
      cases q
      exact g
    · have c2 : r1 = 0 := c2
      rw [if_pos c2] at q
      refine w_bipush (Ev.cm _) rfl ?_
      refine w_ireturn (Ev.cm _) rfl trivial rf0 ?_
      cases q
      exact g
  · rw [if_neg c1] at q
    refine w_cvirt (o := 0) (as := [.int (I 1 7)]) (st := []) (Ev.cm _) rfl rfl rfl (Nat.le_of_ble_eq_true rfl) (Nat.le_of_ble_eq_true rfl) rfl (Nat.le_of_ble_eq_true rfl) (x_textOf_n c1 ?_)
    show Wp _ _ _ _ _ _ _ 11 [(0, .ref 0), (1, .int p0)] [.null] (HS I L X)
    refine w_astore_n (ls2 := [(0, .ref 0), (1, .int p0), (2, .null)]) (Ev.cm _) rfl trivial rfl ?_
    refine w_aload_nN (Ev.cm _) rfl rfl ?_
    refine w_ifnullN (Ev.cm _) rfl ?_
    refine w_bipush (Ev.cm _) rfl ?_
    refine w_ireturn (Ev.cm _) rfl trivial rf0 ?_
    cases q
    exact g
def FO_X_loudness (fu : Nat) (p0 : Int32) (p1 : Int32) (p2 : Int32) (I : Nat → Nat → Int32) (L : Nat → Nat → Int64) : Option (Int32 × (Nat → Nat → Int32) × (Nat → Nat → Int64)) := (FO_X_hasCup fu p1 I L).bind (fun u1 => let r1 := u1.1; let I1 := u1.2.1; let L1 := u1.2.2; if r1 = 0 then (some (0, I1, L1)) else (if isLib I1 (I1 1 7) then ((FO_X_ticksBy_o fu (274 + 8 * (I1 1 7).toNatClampNeg) p0 p1 p2 I1 L1).bind (fun u2 => let r2 := u2.1; let I2 := u2.2.1; let L2 := u2.2.2; if r2 ≤ 0 then (some (0, I2, L2)) else ((FO_X_leastHeard fu p1 I2 L2).bind (fun u3 => let r3 := u3.1; let I3 := u3.2.1; let L3 := u3.2.2; if r2 < r3 then (some (0, I3, L3)) else (some (r2, I3, L3)))))) else ((FO_X_ticksBy_n fu p0 p1 p2 I1 L1).bind (fun u4 => let r4 := u4.1; let I4 := u4.2.1; let L4 := u4.2.2; if r4 ≤ 0 then (some (0, I4, L4)) else ((FO_X_leastHeard fu p1 I4 L4).bind (fun u5 => let r5 := u5.1; let I5 := u5.2.1; let L5 := u5.2.2; if r4 < r5 then (some (0, I5, L5)) else (some (r4, I5, L5))))))))
set_option maxHeartbeats 20000000 in
set_option maxRecDepth 20000 in
theorem eo_X_loudness {d fu : Nat} {p0 : Int32} {p1 : Int32} {p2 : Int32} {I : Nat → Nat → Int32} {L : Nat → Nat → Int64} {X : Nat × (Nat → Int32)} {Q : PQ} {res : Int32 × (Nat → Nat → Int32) × (Nat → Nat → Int64)}  (g : Q (some (.int res.1)) (HS res.2.1 res.2.2 X)) (q : FO_X_loudness fu p0 p1 p2 I L = some res) : Ev (d + 5) m_X_loudness [.ref 0, .int p0, .int p1, .int p2] (HS I L X) Q := by
  unfold FO_X_loudness at q
  refine ev_start (d := d + 4) rfl rfl rfl (Nat.le_of_ble_eq_true rfl) ?_
  show Wp (Ev (d + 4)) cd_X_loudness (0, 0) (some .int) _ _ Q 0 [(0, .ref 0), (1, .int p0), (2, .int p1), (3, .int p2)] [] (HS I L X)
  refine w_aload_n (Ev.cm _) rfl rfl ?_
  refine w_iload_n (Ev.cm _) rfl rfl ?_
  obtain ⟨⟨r1, I1, L1⟩, e1, q⟩ := obs q
  dsimp only at q
  refine w_cvirt (o := 0) (as := [.int p1]) (st := []) (Ev.cm _) rfl rfl rfl (Nat.le_of_ble_eq_true rfl) (Nat.le_of_ble_eq_true rfl) rfl (Nat.le_of_ble_eq_true rfl) (eo_X_hasCup (g := ?_) e1)
  show Wp _ _ _ _ _ _ _ 5 [(0, .ref 0), (1, .int p0), (2, .int p1), (3, .int p2)] [.int r1] (HS I1 L1 X)
  refine w_if_ne (Ev.cm _) rfl (fun c1 => ?_) (fun c1 => ?_)
  · have c1 : ¬ (r1 = 0) := c1
    rw [if_neg c1] at q
    refine w_aload_n (Ev.cm _) rfl rfl ?_
    refine w_aload_n (Ev.cm _) rfl rfl ?_
    refine w_aload_n (Ev.cm _) rfl rfl ?_
    refine w_getR (q := 1) (Ev.cm _) rfl (Nat.le_of_ble_eq_true rfl) rfl rfl ?_
    refine w_getI (Ev.cm _) rfl (Nat.le_of_ble_eq_true rfl) rfl ?_
    rcases Decidable.em (isLib I1 (I1 1 7)) with c2 | c2
    · rw [if_pos c2] at q
      refine w_cvirt (o := 0) (as := [.int (I1 1 7)]) (st := [.ref 0]) (Ev.cm _) rfl rfl rfl (Nat.le_of_ble_eq_true rfl) (Nat.le_of_ble_eq_true rfl) rfl (Nat.le_of_ble_eq_true rfl) (x_textOf_t c2 ?_)
      show Wp _ _ _ _ _ _ _ 22 [(0, .ref 0), (1, .int p0), (2, .int p1), (3, .int p2)] [.ref (274 + 8 * (I1 1 7).toNatClampNeg), .ref 0] (HS I1 L1 X)
      refine w_iload_n (Ev.cm _) rfl rfl ?_
      refine w_iload_n (Ev.cm _) rfl rfl ?_
      refine w_iload_n (Ev.cm _) rfl rfl ?_
      obtain ⟨⟨r2, I2, L2⟩, e2, q⟩ := obs q
      dsimp only at q
      refine w_cvirt (o := 0) (as := [.ref (274 + 8 * (I1 1 7).toNatClampNeg), .int p0, .int p1, .int p2]) (st := []) (Ev.cm _) rfl rfl rfl (Nat.le_of_ble_eq_true rfl) (Nat.le_of_ble_eq_true rfl) rfl (Nat.le_of_ble_eq_true rfl) (eo_X_ticksBy_o (isT_lib c2) (g := ?_) e2)
      show Wp _ _ _ _ _ _ _ 28 [(0, .ref 0), (1, .int p0), (2, .int p1), (3, .int p2)] [.int r2] (HS I2 L2 X)
      refine w_istore (ls2 := [(0, .ref 0), (1, .int p0), (2, .int p1), (3, .int p2), (4, .int r2)]) (Ev.cm _) rfl rfl ?_
      refine w_iload (Ev.cm _) rfl rfl ?_
      refine w_if_le (Ev.cm _) rfl (fun c3 => ?_) (fun c3 => ?_)
      · have c3 : r2 ≤ 0 := c3
        rw [if_pos c3] at q
        refine w_iconst (Ev.cm _) rfl ?_
        refine w_ireturn (Ev.cm _) rfl trivial rf0 ?_
        cases q
        exact g
      · have c3 : ¬ (r2 ≤ 0) := c3
        rw [if_neg c3] at q
        refine w_iload (Ev.cm _) rfl rfl ?_
        refine w_aload_n (Ev.cm _) rfl rfl ?_
        refine w_iload_n (Ev.cm _) rfl rfl ?_
        obtain ⟨⟨r3, I3, L3⟩, e3, q⟩ := obs q
        dsimp only at q
        refine w_cvirt (o := 0) (as := [.int p1]) (st := [.int r2]) (Ev.cm _) rfl rfl rfl (Nat.le_of_ble_eq_true rfl) (Nat.le_of_ble_eq_true rfl) rfl (Nat.le_of_ble_eq_true rfl) (eo_X_leastHeard (g := ?_) e3)
        show Wp _ _ _ _ _ _ _ 42 [(0, .ref 0), (1, .int p0), (2, .int p1), (3, .int p2), (4, .int r2)] [.int r3, .int r2] (HS I3 L3 X)
        refine w_icmp_lt (Ev.cm _) rfl (fun c4 => ?_) (fun c4 => ?_)
        · have c4 : r2 < r3 := c4
          rw [if_pos c4] at q
          refine w_iconst (Ev.cm _) rfl ?_
          refine w_ireturn (Ev.cm _) rfl trivial rf0 ?_
          cases q
          exact g
        · have c4 : ¬ (r2 < r3) := c4
          rw [if_neg c4] at q
          refine w_iload (Ev.cm _) rfl rfl ?_
          refine w_goto (Ev.cm _) rfl ?_
          refine w_ireturn (Ev.cm _) rfl trivial rf0 ?_
          cases q
          exact g
    · rw [if_neg c2] at q
      refine w_cvirt (o := 0) (as := [.int (I1 1 7)]) (st := [.ref 0]) (Ev.cm _) rfl rfl rfl (Nat.le_of_ble_eq_true rfl) (Nat.le_of_ble_eq_true rfl) rfl (Nat.le_of_ble_eq_true rfl) (x_textOf_n c2 ?_)
      show Wp _ _ _ _ _ _ _ 22 [(0, .ref 0), (1, .int p0), (2, .int p1), (3, .int p2)] [.null, .ref 0] (HS I1 L1 X)
      refine w_iload_n (Ev.cm _) rfl rfl ?_
      refine w_iload_n (Ev.cm _) rfl rfl ?_
      refine w_iload_n (Ev.cm _) rfl rfl ?_
      obtain ⟨⟨r4, I4, L4⟩, e4, q⟩ := obs q
      dsimp only at q
      refine w_cvirt (o := 0) (as := [.null, .int p0, .int p1, .int p2]) (st := []) (Ev.cm _) rfl rfl rfl (Nat.le_of_ble_eq_true rfl) (Nat.le_of_ble_eq_true rfl) rfl (Nat.le_of_ble_eq_true rfl) (eo_X_ticksBy_n (g := ?_) e4)
      show Wp _ _ _ _ _ _ _ 28 [(0, .ref 0), (1, .int p0), (2, .int p1), (3, .int p2)] [.int r4] (HS I4 L4 X)
      refine w_istore (ls2 := [(0, .ref 0), (1, .int p0), (2, .int p1), (3, .int p2), (4, .int r4)]) (Ev.cm _) rfl rfl ?_
      refine w_iload (Ev.cm _) rfl rfl ?_
      refine w_if_le (Ev.cm _) rfl (fun c5 => ?_) (fun c5 => ?_)
      · have c5 : r4 ≤ 0 := c5
        rw [if_pos c5] at q
        refine w_iconst (Ev.cm _) rfl ?_
        refine w_ireturn (Ev.cm _) rfl trivial rf0 ?_
        cases q
        exact g
      · have c5 : ¬ (r4 ≤ 0) := c5
        rw [if_neg c5] at q
        refine w_iload (Ev.cm _) rfl rfl ?_
        refine w_aload_n (Ev.cm _) rfl rfl ?_
        refine w_iload_n (Ev.cm _) rfl rfl ?_
        obtain ⟨⟨r5, I5, L5⟩, e5, q⟩ := obs q
        dsimp only at q
        refine w_cvirt (o := 0) (as := [.int p1]) (st := [.int r4]) (Ev.cm _) rfl rfl rfl (Nat.le_of_ble_eq_true rfl) (Nat.le_of_ble_eq_true rfl) rfl (Nat.le_of_ble_eq_true rfl) (eo_X_leastHeard (g := ?_) e5)
        show Wp _ _ _ _ _ _ _ 42 [(0, .ref 0), (1, .int p0), (2, .int p1), (3, .int p2), (4, .int r4)] [.int r5, .int r4] (HS I5 L5 X)
        refine w_icmp_lt (Ev.cm _) rfl (fun c6 => ?_) (fun c6 => ?_)
        · have c6 : r4 < r5 := c6
          rw [if_pos c6] at q
          refine w_iconst (Ev.cm _) rfl ?_
          refine w_ireturn (Ev.cm _) rfl trivial rf0 ?_
          cases q
          exact g
        · have c6 : ¬ (r4 < r5) := c6
          rw [if_neg c6] at q
          refine w_iload (Ev.cm _) rfl rfl ?_
          refine w_goto (Ev.cm _) rfl ?_
          refine w_ireturn (Ev.cm _) rfl trivial rf0 ?_
          cases q
          exact g
  · have c1 : r1 = 0 := c1
    rw [if_pos c1] at q
    refine w_iconst (Ev.cm _) rfl ?_
    refine w_ireturn (Ev.cm _) rfl trivial rf0 ?_
    cases q
    exact g
def LO_X_heardStairs_5 (fu : Nat) : Nat → Int32 → Int32 → Int32 → Int32 → (Nat → Nat → Int32) → (Nat → Nat → Int64) → Option (Int32 × (Nat → Nat → Int32) × (Nat → Nat → Int64))
  | 0, _, _, _, _, _, _ => none
  | n + 1, x1, x2, x3, x4, I, L => if 12 < x4 then (some (x3, I, L)) else ((FO_X_loudness fu x1 x4 x2 I L).bind (fun u1 => let r1 := u1.1; let I1 := u1.2.1; let L1 := u1.2.2; if r1 ≤ 0 then (LO_X_heardStairs_5 fu n x1 x2 x3 (x4 + 1) I1 L1) else (LO_X_heardStairs_5 fu n x1 x2 (x3 ||| ((1 : Int32) <<< (x4 &&& 31))) (x4 + 1) I1 L1)))
set_option maxHeartbeats 20000000 in
set_option maxRecDepth 20000 in
theorem lo_X_heardStairs_5 {d fu n0 s0 : Nat} {X : Nat × (Nat → Int32)} {Q : PQ} {res : Int32 × (Nat → Nat → Int32) × (Nat → Nat → Int64)}  (g : Q (some (.int res.1)) (HS res.2.1 res.2.2 X)) : ∀ (n : Nat) (x1 : Int32) (x2 : Int32) (x3 : Int32) (x4 : Int32) (I : Nat → Nat → Int32) (L : Nat → Nat → Int64), LO_X_heardStairs_5 fu n x1 x2 x3 x4 I L = some res → Wp (Ev (d + 5)) cd_X_heardStairs (0, 0) (some .int) n0 s0 Q 5 [(0, .ref 0), (1, .int x1), (2, .int x2), (3, .int x3), (4, .int x4)] [] (HS I L X) := by
  intro n
  induction n with
  | zero => intro _ _ _ _ _ _ q; cases q
  | succ n ih =>
    intro x1 x2 x3 x4 I L q
    unfold LO_X_heardStairs_5 at q
    refine w_iload (Ev.cm _) rfl rfl ?_
    refine w_bipush (Ev.cm _) rfl ?_
    refine w_icmp_gt (Ev.cm _) rfl (fun c1 => ?_) (fun c1 => ?_)
    · have c1 : 12 < x4 := c1
      rw [if_pos c1] at q
      refine w_iload_n (Ev.cm _) rfl rfl ?_
      refine w_ireturn (Ev.cm _) rfl trivial rf0 ?_
      cases q
      exact g
    · have c1 : ¬ (12 < x4) := c1
      rw [if_neg c1] at q
      refine w_aload_n (Ev.cm _) rfl rfl ?_
      refine w_iload_n (Ev.cm _) rfl rfl ?_
      refine w_iload (Ev.cm _) rfl rfl ?_
      refine w_iload_n (Ev.cm _) rfl rfl ?_
      obtain ⟨⟨r1, I1, L1⟩, e1, q⟩ := obs q
      dsimp only at q
      refine w_cvirt (o := 0) (as := [.int x1, .int x4, .int x2]) (st := []) (Ev.cm _) rfl rfl rfl (Nat.le_of_ble_eq_true rfl) (Nat.le_of_ble_eq_true rfl) rfl (Nat.le_of_ble_eq_true rfl) (eo_X_loudness (g := ?_) e1)
      show Wp _ _ _ _ _ _ _ 20 [(0, .ref 0), (1, .int x1), (2, .int x2), (3, .int x3), (4, .int x4)] [.int r1] (HS I1 L1 X)
      refine w_if_le (Ev.cm _) rfl (fun c2 => ?_) (fun c2 => ?_)
      · have c2 : r1 ≤ 0 := c2
        rw [if_pos c2] at q
        refine w_iinc (ls2 := [(0, .ref 0), (1, .int x1), (2, .int x2), (3, .int x3), (4, .int (x4 + 1))]) (Ev.cm _) rfl rfl rfl ?_
        refine w_goto (Ev.cm _) rfl ?_
        show Wp _ _ _ _ _ _ _ 5 [(0, .ref 0), (1, .int x1), (2, .int x2), (3, .int x3), (4, .int (x4 + 1))] [] (HS I1 L1 X)
        refine Wp.sub [0, 1, 2, 3, 4] (ls2 := [(0, .ref 0), (1, .int x1), (2, .int x2), (3, .int x3), (4, .int (x4 + 1))]) rfl ?_
        exact ih _ _ _ _ _ _ q
      · have c2 : ¬ (r1 ≤ 0) := c2
        rw [if_neg c2] at q
        refine w_iload_n (Ev.cm _) rfl rfl ?_
        refine w_iconst (Ev.cm _) rfl ?_
        refine w_iload (Ev.cm _) rfl rfl ?_
        refine w_ishl (Ev.cm _) rfl ?_
        refine w_ior (Ev.cm _) rfl ?_
        refine w_istore_n (ls2 := [(0, .ref 0), (1, .int x1), (2, .int x2), (3, .int (x3 ||| ((1 : Int32) <<< (x4 &&& 31)))), (4, .int x4)]) (Ev.cm _) rfl rfl ?_
        refine w_iinc (ls2 := [(0, .ref 0), (1, .int x1), (2, .int x2), (3, .int (x3 ||| ((1 : Int32) <<< (x4 &&& 31)))), (4, .int (x4 + 1))]) (Ev.cm _) rfl rfl rfl ?_
        refine w_goto (Ev.cm _) rfl ?_
        show Wp _ _ _ _ _ _ _ 5 [(0, .ref 0), (1, .int x1), (2, .int x2), (3, .int (x3 ||| ((1 : Int32) <<< (x4 &&& 31)))), (4, .int (x4 + 1))] [] (HS I1 L1 X)
        refine Wp.sub [0, 1, 2, 3, 4] (ls2 := [(0, .ref 0), (1, .int x1), (2, .int x2), (3, .int (x3 ||| ((1 : Int32) <<< (x4 &&& 31)))), (4, .int (x4 + 1))]) rfl ?_
        exact ih _ _ _ _ _ _ q
def FO_X_heardStairs (fu : Nat) (p0 : Int32) (p1 : Int32) (I : Nat → Nat → Int32) (L : Nat → Nat → Int64) : Option (Int32 × (Nat → Nat → Int32) × (Nat → Nat → Int64)) := LO_X_heardStairs_5 fu fu p0 p1 0 1 I L
set_option maxHeartbeats 20000000 in
set_option maxRecDepth 20000 in
theorem eo_X_heardStairs {d fu : Nat} {p0 : Int32} {p1 : Int32} {I : Nat → Nat → Int32} {L : Nat → Nat → Int64} {X : Nat × (Nat → Int32)} {Q : PQ} {res : Int32 × (Nat → Nat → Int32) × (Nat → Nat → Int64)}  (g : Q (some (.int res.1)) (HS res.2.1 res.2.2 X)) (q : FO_X_heardStairs fu p0 p1 I L = some res) : Ev (d + 6) m_X_heardStairs [.ref 0, .int p0, .int p1] (HS I L X) Q := by
  unfold FO_X_heardStairs at q
  refine ev_start (d := d + 5) rfl rfl rfl (Nat.le_of_ble_eq_true rfl) ?_
  show Wp (Ev (d + 5)) cd_X_heardStairs (0, 0) (some .int) _ _ Q 0 [(0, .ref 0), (1, .int p0), (2, .int p1)] [] (HS I L X)
  refine w_iconst (Ev.cm _) rfl ?_
  refine w_istore_n (ls2 := [(0, .ref 0), (1, .int p0), (2, .int p1), (3, .int 0)]) (Ev.cm _) rfl rfl ?_
  refine w_iconst (Ev.cm _) rfl ?_
  refine w_istore (ls2 := [(0, .ref 0), (1, .int p0), (2, .int p1), (3, .int 0), (4, .int 1)]) (Ev.cm _) rfl rfl ?_
  show Wp _ _ _ _ _ _ _ 5 [(0, .ref 0), (1, .int p0), (2, .int p1), (3, .int 0), (4, .int 1)] [] (HS I L X)
  refine Wp.sub [0, 1, 2, 3, 4] (ls2 := [(0, .ref 0), (1, .int p0), (2, .int p1), (3, .int 0), (4, .int 1)]) rfl ?_
  exact lo_X_heardStairs_5 g fu _ _ _ _ _ _ q
def LO_X_agreesWithSaid_n_2 (fu : Nat) : Nat → Int32 → (Nat → Nat → Int32) → (Nat → Nat → Int64) → Option (Int32 × (Nat → Nat → Int32) × (Nat → Nat → Int64))
  | 0, _, _, _ => none
  | n + 1, x2, I, L => if I 1 16 ≤ x2 then (some (1, I, L)) else (if 8 ≤ x2 then (some (1, I, L)) else (if 0 ≤ x2 * 3 ∧ x2 * 3 < 24 then (if F_X_isLodger I (I 136 ((x2 * 3).toNatClampNeg)) = 0 then (some (0, I, L)) else (if 0 ≤ (x2 * 3) + 1 ∧ (x2 * 3) + 1 < 24 then ((FO_X_ticksBy_n fu (I 136 ((x2 * 3).toNatClampNeg)) (I 136 (((x2 * 3) + 1).toNatClampNeg)) 1 I L).bind (fun u3 => let r3 := u3.1; let I3 := u3.2.1; let L3 := u3.2.2; if 0 ≤ (x2 * 3) + 2 ∧ (x2 * 3) + 2 < 24 then (if r3 = I3 136 (((x2 * 3) + 2).toNatClampNeg) then (LO_X_agreesWithSaid_n_2 fu n (x2 + 1) I3 L3) else (some (0, I3, L3))) else none)) else none)) else none))
set_option maxHeartbeats 20000000 in
set_option maxRecDepth 20000 in
theorem lo_X_agreesWithSaid_n_2 {d fu n0 s0 : Nat} {X : Nat × (Nat → Int32)} {Q : PQ} {res : Int32 × (Nat → Nat → Int32) × (Nat → Nat → Int64)}  (g : Q (some (.int res.1)) (HS res.2.1 res.2.2 X)) : ∀ (n : Nat) (x2 : Int32) (I : Nat → Nat → Int32) (L : Nat → Nat → Int64), LO_X_agreesWithSaid_n_2 fu n x2 I L = some res → Wp (Ev (d + 4)) cd_X_agreesWithSaid (0, 0) (some .boolean) n0 s0 Q 2 [(0, .ref 0), (1, .null), (2, .int x2)] [] (HS I L X) := by
  intro n
  induction n with
  | zero => intro _ _ _ q; cases q
  | succ n ih =>
    intro x2 I L q
    unfold LO_X_agreesWithSaid_n_2 at q
    refine w_iload_n (Ev.cm _) rfl rfl ?_
    refine w_aload_n (Ev.cm _) rfl rfl ?_
    refine w_getR (q := 1) (Ev.cm _) rfl (Nat.le_of_ble_eq_true rfl) rfl rfl ?_
    refine w_getI (Ev.cm _) rfl (Nat.le_of_ble_eq_true rfl) rfl ?_
    refine w_icmp_ge (Ev.cm _) rfl (fun c1 => ?_) (fun c1 => ?_)
    · have c1 : I 1 16 ≤ x2 := c1
      rw [if_pos c1] at q
      refine w_iconst (Ev.cm _) rfl ?_
      refine w_ireturn (Ev.cm _) rfl (by first | exact rok_0 | exact rok_1 | exact rok_b) rf0 ?_
      cases q
      exact g
    · have c1 : ¬ (I 1 16 ≤ x2) := c1
      rw [if_neg c1] at q
      refine w_iload_n (Ev.cm _) rfl rfl ?_
      refine w_bipush (Ev.cm _) rfl ?_
      refine w_icmp_ge (Ev.cm _) rfl (fun c2 => ?_) (fun c2 => ?_)
      · have c2 : 8 ≤ x2 := c2
        rw [if_pos c2] at q
        refine w_iconst (Ev.cm _) rfl ?_
        refine w_ireturn (Ev.cm _) rfl (by first | exact rok_0 | exact rok_1 | exact rok_b) rf0 ?_
        cases q
        exact g
      · have c2 : ¬ (8 ≤ x2) := c2
        rw [if_neg c2] at q
        refine w_iload_n (Ev.cm _) rfl rfl ?_
        refine w_iconst (Ev.cm _) rfl ?_
        refine w_imul (Ev.cm _) rfl ?_
        refine w_istore_n (ls2 := [(0, .ref 0), (1, .null), (2, .int x2), (3, .int (x2 * 3))]) (Ev.cm _) rfl rfl ?_
        refine w_aload_n (Ev.cm _) rfl rfl ?_
        refine w_getR (q := 1) (Ev.cm _) rfl (Nat.le_of_ble_eq_true rfl) rfl rfl ?_
        refine w_getR (q := 136) (Ev.cm _) rfl (Nat.le_of_ble_eq_true rfl) rfl rfl ?_
        refine w_iload_n (Ev.cm _) rfl rfl ?_
        obtain ⟨b1, q⟩ := ois q
        refine w_iald (Ev.cm _) rfl (Nat.le_of_ble_eq_true rfl) rfl (show vp_in (x2 * 3) 24 from vpI 24 (by decide) b1.1 b1.2) ?_
        refine w_istore (ls2 := [(0, .ref 0), (1, .null), (2, .int x2), (3, .int (x2 * 3)), (4, .int (I 136 ((x2 * 3).toNatClampNeg)))]) (Ev.cm _) rfl rfl ?_
        refine w_aload_n (Ev.cm _) rfl rfl ?_
        refine w_iload (Ev.cm _) rfl rfl ?_
        refine w_cvirt (o := 0) (as := [.int (I 136 ((x2 * 3).toNatClampNeg))]) (st := []) (Ev.cm _) rfl rfl rfl (Nat.le_of_ble_eq_true rfl) (Nat.le_of_ble_eq_true rfl) rfl (Nat.le_of_ble_eq_true rfl) (e_X_isLodger ?_)
        show Wp _ _ _ _ _ _ _ 40 [(0, .ref 0), (1, .null), (2, .int x2), (3, .int (x2 * 3)), (4, .int (I 136 ((x2 * 3).toNatClampNeg)))] [.int (F_X_isLodger I (I 136 ((x2 * 3).toNatClampNeg)))] (HS I L X)
        refine w_if_eq (Ev.cm _) rfl (fun c3 => ?_) (fun c3 => ?_)
        · have c3 : F_X_isLodger I (I 136 ((x2 * 3).toNatClampNeg)) = 0 := c3
          rw [if_pos c3] at q
          refine w_iconst (Ev.cm _) rfl ?_
          refine w_ireturn (Ev.cm _) rfl (by first | exact rok_0 | exact rok_1 | exact rok_b) rf0 ?_
          cases q
          exact g
        · have c3 : ¬ (F_X_isLodger I (I 136 ((x2 * 3).toNatClampNeg)) = 0) := c3
          rw [if_neg c3] at q
          refine w_aload_n (Ev.cm _) rfl rfl ?_
          refine w_aload_nN (Ev.cm _) rfl rfl ?_
          refine w_iload (Ev.cm _) rfl rfl ?_
          refine w_aload_n (Ev.cm _) rfl rfl ?_
          refine w_getR (q := 1) (Ev.cm _) rfl (Nat.le_of_ble_eq_true rfl) rfl rfl ?_
          refine w_getR (q := 136) (Ev.cm _) rfl (Nat.le_of_ble_eq_true rfl) rfl rfl ?_
          refine w_iload_n (Ev.cm _) rfl rfl ?_
          refine w_iconst (Ev.cm _) rfl ?_
          refine w_iadd (Ev.cm _) rfl ?_
          obtain ⟨b2, q⟩ := ois q
          refine w_iald (Ev.cm _) rfl (Nat.le_of_ble_eq_true rfl) rfl (show vp_in ((x2 * 3) + 1) 24 from vpI 24 (by decide) b2.1 b2.2) ?_
          refine w_iconst (Ev.cm _) rfl ?_
          obtain ⟨⟨r3, I3, L3⟩, e3, q⟩ := obs q
          dsimp only at q
          refine w_cvirt (o := 0) (as := [.null, .int (I 136 ((x2 * 3).toNatClampNeg)), .int (I 136 (((x2 * 3) + 1).toNatClampNeg)), .int 1]) (st := []) (Ev.cm _) rfl rfl rfl (Nat.le_of_ble_eq_true rfl) (Nat.le_of_ble_eq_true rfl) rfl (Nat.le_of_ble_eq_true rfl) (eo_X_ticksBy_n (g := ?_) e3)
          show Wp _ _ _ _ _ _ _ 62 [(0, .ref 0), (1, .null), (2, .int x2), (3, .int (x2 * 3)), (4, .int (I 136 ((x2 * 3).toNatClampNeg)))] [.int r3] (HS I3 L3 X)
          refine w_aload_n (Ev.cm _) rfl rfl ?_
          refine w_getR (q := 1) (Ev.cm _) rfl (Nat.le_of_ble_eq_true rfl) rfl rfl ?_
          refine w_getR (q := 136) (Ev.cm _) rfl (Nat.le_of_ble_eq_true rfl) rfl rfl ?_
          refine w_iload_n (Ev.cm _) rfl rfl ?_
          refine w_iconst (Ev.cm _) rfl ?_
          refine w_iadd (Ev.cm _) rfl ?_
          obtain ⟨b4, q⟩ := ois q
          refine w_iald (Ev.cm _) rfl (Nat.le_of_ble_eq_true rfl) rfl (show vp_in ((x2 * 3) + 2) 24 from vpI 24 (by decide) b4.1 b4.2) ?_
          refine w_icmp_eq (Ev.cm _) rfl (fun c4 => ?_) (fun c4 => ?_)
          · have c4 : r3 = I3 136 (((x2 * 3) + 2).toNatClampNeg) := c4
            rw [if_pos c4] at q
            refine w_iinc (ls2 := [(0, .ref 0), (1, .null), (2, .int (x2 + 1)), (3, .int (x2 * 3)), (4, .int (I 136 ((x2 * 3).toNatClampNeg)))]) (Ev.cm _) rfl rfl rfl ?_
            refine w_goto (Ev.cm _) rfl ?_
            show Wp _ _ _ _ _ _ _ 2 [(0, .ref 0), (1, .null), (2, .int (x2 + 1)), (3, .int (x2 * 3)), (4, .int (I 136 ((x2 * 3).toNatClampNeg)))] [] (HS I3 L3 X)
            refine Wp.sub [0, 1, 2] (ls2 := [(0, .ref 0), (1, .null), (2, .int (x2 + 1))]) rfl ?_
            exact ih _ _ _ q
          · have c4 : ¬ (r3 = I3 136 (((x2 * 3) + 2).toNatClampNeg)) := c4
            rw [if_neg c4] at q
            refine w_iconst (Ev.cm _) rfl ?_
            refine w_ireturn (Ev.cm _) rfl (by first | exact rok_0 | exact rok_1 | exact rok_b) rf0 ?_
            cases q
            exact g
def FO_X_agreesWithSaid_n (fu : Nat) (I : Nat → Nat → Int32) (L : Nat → Nat → Int64) : Option (Int32 × (Nat → Nat → Int32) × (Nat → Nat → Int64)) := LO_X_agreesWithSaid_n_2 fu fu 0 I L
set_option maxHeartbeats 20000000 in
set_option maxRecDepth 20000 in
theorem eo_X_agreesWithSaid_n {d fu : Nat} {I : Nat → Nat → Int32} {L : Nat → Nat → Int64} {X : Nat × (Nat → Int32)} {Q : PQ} {res : Int32 × (Nat → Nat → Int32) × (Nat → Nat → Int64)}  (g : Q (some (.int res.1)) (HS res.2.1 res.2.2 X)) (q : FO_X_agreesWithSaid_n fu  I L = some res) : Ev (d + 5) m_X_agreesWithSaid [.ref 0, .null] (HS I L X) Q := by
  unfold FO_X_agreesWithSaid_n at q
  refine ev_start (d := d + 4) rfl rfl rfl (Nat.le_of_ble_eq_true rfl) ?_
  show Wp (Ev (d + 4)) cd_X_agreesWithSaid (0, 0) (some .boolean) _ _ Q 0 [(0, .ref 0), (1, .null)] [] (HS I L X)
  refine w_iconst (Ev.cm _) rfl ?_
  refine w_istore_n (ls2 := [(0, .ref 0), (1, .null), (2, .int 0)]) (Ev.cm _) rfl rfl ?_
  show Wp _ _ _ _ _ _ _ 2 [(0, .ref 0), (1, .null), (2, .int 0)] [] (HS I L X)
  refine Wp.sub [0, 1, 2] (ls2 := [(0, .ref 0), (1, .null), (2, .int 0)]) rfl ?_
  exact lo_X_agreesWithSaid_n_2 g fu _ _ _ q
def LO_X_agreesWithSaid_o_2 (fu : Nat) (o : Nat) : Nat → Int32 → (Nat → Nat → Int32) → (Nat → Nat → Int64) → Option (Int32 × (Nat → Nat → Int32) × (Nat → Nat → Int64))
  | 0, _, _, _ => none
  | n + 1, x2, I, L => if I 1 16 ≤ x2 then (some (1, I, L)) else (if 8 ≤ x2 then (some (1, I, L)) else (if 0 ≤ x2 * 3 ∧ x2 * 3 < 24 then (if F_X_isLodger I (I 136 ((x2 * 3).toNatClampNeg)) = 0 then (some (0, I, L)) else (if 0 ≤ (x2 * 3) + 1 ∧ (x2 * 3) + 1 < 24 then ((FO_X_ticksBy_o fu o (I 136 ((x2 * 3).toNatClampNeg)) (I 136 (((x2 * 3) + 1).toNatClampNeg)) 1 I L).bind (fun u3 => let r3 := u3.1; let I3 := u3.2.1; let L3 := u3.2.2; if 0 ≤ (x2 * 3) + 2 ∧ (x2 * 3) + 2 < 24 then (if r3 = I3 136 (((x2 * 3) + 2).toNatClampNeg) then (LO_X_agreesWithSaid_o_2 fu o n (x2 + 1) I3 L3) else (some (0, I3, L3))) else none)) else none)) else none))
set_option maxHeartbeats 20000000 in
set_option maxRecDepth 20000 in
theorem lo_X_agreesWithSaid_o_2 {d fu n0 s0 : Nat} {o : Nat} {X : Nat × (Nat → Int32)} {Q : PQ} {res : Int32 × (Nat → Nat → Int32) × (Nat → Nat → Int64)}  (ho : isT o) (g : Q (some (.int res.1)) (HS res.2.1 res.2.2 X)) : ∀ (n : Nat) (x2 : Int32) (I : Nat → Nat → Int32) (L : Nat → Nat → Int64), LO_X_agreesWithSaid_o_2 fu o n x2 I L = some res → Wp (Ev (d + 4)) cd_X_agreesWithSaid (0, 0) (some .boolean) n0 s0 Q 2 [(0, .ref 0), (1, .ref o), (2, .int x2)] [] (HS I L X) := by
  intro n
  induction n with
  | zero => intro _ _ _ q; cases q
  | succ n ih =>
    intro x2 I L q
    unfold LO_X_agreesWithSaid_o_2 at q
    refine w_iload_n (Ev.cm _) rfl rfl ?_
    refine w_aload_n (Ev.cm _) rfl rfl ?_
    refine w_getR (q := 1) (Ev.cm _) rfl (Nat.le_of_ble_eq_true rfl) rfl rfl ?_
    refine w_getI (Ev.cm _) rfl (Nat.le_of_ble_eq_true rfl) rfl ?_
    refine w_icmp_ge (Ev.cm _) rfl (fun c1 => ?_) (fun c1 => ?_)
    · have c1 : I 1 16 ≤ x2 := c1
      rw [if_pos c1] at q
      refine w_iconst (Ev.cm _) rfl ?_
      refine w_ireturn (Ev.cm _) rfl (by first | exact rok_0 | exact rok_1 | exact rok_b) rf0 ?_
      cases q
      exact g
    · have c1 : ¬ (I 1 16 ≤ x2) := c1
      rw [if_neg c1] at q
      refine w_iload_n (Ev.cm _) rfl rfl ?_
      refine w_bipush (Ev.cm _) rfl ?_
      refine w_icmp_ge (Ev.cm _) rfl (fun c2 => ?_) (fun c2 => ?_)
      · have c2 : 8 ≤ x2 := c2
        rw [if_pos c2] at q
        refine w_iconst (Ev.cm _) rfl ?_
        refine w_ireturn (Ev.cm _) rfl (by first | exact rok_0 | exact rok_1 | exact rok_b) rf0 ?_
        cases q
        exact g
      · have c2 : ¬ (8 ≤ x2) := c2
        rw [if_neg c2] at q
        refine w_iload_n (Ev.cm _) rfl rfl ?_
        refine w_iconst (Ev.cm _) rfl ?_
        refine w_imul (Ev.cm _) rfl ?_
        refine w_istore_n (ls2 := [(0, .ref 0), (1, .ref o), (2, .int x2), (3, .int (x2 * 3))]) (Ev.cm _) rfl rfl ?_
        refine w_aload_n (Ev.cm _) rfl rfl ?_
        refine w_getR (q := 1) (Ev.cm _) rfl (Nat.le_of_ble_eq_true rfl) rfl rfl ?_
        refine w_getR (q := 136) (Ev.cm _) rfl (Nat.le_of_ble_eq_true rfl) rfl rfl ?_
        refine w_iload_n (Ev.cm _) rfl rfl ?_
        obtain ⟨b1, q⟩ := ois q
        refine w_iald (Ev.cm _) rfl (Nat.le_of_ble_eq_true rfl) rfl (show vp_in (x2 * 3) 24 from vpI 24 (by decide) b1.1 b1.2) ?_
        refine w_istore (ls2 := [(0, .ref 0), (1, .ref o), (2, .int x2), (3, .int (x2 * 3)), (4, .int (I 136 ((x2 * 3).toNatClampNeg)))]) (Ev.cm _) rfl rfl ?_
        refine w_aload_n (Ev.cm _) rfl rfl ?_
        refine w_iload (Ev.cm _) rfl rfl ?_
        refine w_cvirt (o := 0) (as := [.int (I 136 ((x2 * 3).toNatClampNeg))]) (st := []) (Ev.cm _) rfl rfl rfl (Nat.le_of_ble_eq_true rfl) (Nat.le_of_ble_eq_true rfl) rfl (Nat.le_of_ble_eq_true rfl) (e_X_isLodger ?_)
        show Wp _ _ _ _ _ _ _ 40 [(0, .ref 0), (1, .ref o), (2, .int x2), (3, .int (x2 * 3)), (4, .int (I 136 ((x2 * 3).toNatClampNeg)))] [.int (F_X_isLodger I (I 136 ((x2 * 3).toNatClampNeg)))] (HS I L X)
        refine w_if_eq (Ev.cm _) rfl (fun c3 => ?_) (fun c3 => ?_)
        · have c3 : F_X_isLodger I (I 136 ((x2 * 3).toNatClampNeg)) = 0 := c3
          rw [if_pos c3] at q
          refine w_iconst (Ev.cm _) rfl ?_
          refine w_ireturn (Ev.cm _) rfl (by first | exact rok_0 | exact rok_1 | exact rok_b) rf0 ?_
          cases q
          exact g
        · have c3 : ¬ (F_X_isLodger I (I 136 ((x2 * 3).toNatClampNeg)) = 0) := c3
          rw [if_neg c3] at q
          refine w_aload_n (Ev.cm _) rfl rfl ?_
          refine w_aload_n (Ev.cm _) rfl rfl ?_
          refine w_iload (Ev.cm _) rfl rfl ?_
          refine w_aload_n (Ev.cm _) rfl rfl ?_
          refine w_getR (q := 1) (Ev.cm _) rfl (Nat.le_of_ble_eq_true rfl) rfl rfl ?_
          refine w_getR (q := 136) (Ev.cm _) rfl (Nat.le_of_ble_eq_true rfl) rfl rfl ?_
          refine w_iload_n (Ev.cm _) rfl rfl ?_
          refine w_iconst (Ev.cm _) rfl ?_
          refine w_iadd (Ev.cm _) rfl ?_
          obtain ⟨b2, q⟩ := ois q
          refine w_iald (Ev.cm _) rfl (Nat.le_of_ble_eq_true rfl) rfl (show vp_in ((x2 * 3) + 1) 24 from vpI 24 (by decide) b2.1 b2.2) ?_
          refine w_iconst (Ev.cm _) rfl ?_
          obtain ⟨⟨r3, I3, L3⟩, e3, q⟩ := obs q
          dsimp only at q
          refine w_cvirt (o := 0) (as := [.ref o, .int (I 136 ((x2 * 3).toNatClampNeg)), .int (I 136 (((x2 * 3) + 1).toNatClampNeg)), .int 1]) (st := []) (Ev.cm _) rfl rfl rfl (Nat.le_of_ble_eq_true rfl) (Nat.le_of_ble_eq_true rfl) rfl (Nat.le_of_ble_eq_true rfl) (eo_X_ticksBy_o ho (g := ?_) e3)
          show Wp _ _ _ _ _ _ _ 62 [(0, .ref 0), (1, .ref o), (2, .int x2), (3, .int (x2 * 3)), (4, .int (I 136 ((x2 * 3).toNatClampNeg)))] [.int r3] (HS I3 L3 X)
          refine w_aload_n (Ev.cm _) rfl rfl ?_
          refine w_getR (q := 1) (Ev.cm _) rfl (Nat.le_of_ble_eq_true rfl) rfl rfl ?_
          refine w_getR (q := 136) (Ev.cm _) rfl (Nat.le_of_ble_eq_true rfl) rfl rfl ?_
          refine w_iload_n (Ev.cm _) rfl rfl ?_
          refine w_iconst (Ev.cm _) rfl ?_
          refine w_iadd (Ev.cm _) rfl ?_
          obtain ⟨b4, q⟩ := ois q
          refine w_iald (Ev.cm _) rfl (Nat.le_of_ble_eq_true rfl) rfl (show vp_in ((x2 * 3) + 2) 24 from vpI 24 (by decide) b4.1 b4.2) ?_
          refine w_icmp_eq (Ev.cm _) rfl (fun c4 => ?_) (fun c4 => ?_)
          · have c4 : r3 = I3 136 (((x2 * 3) + 2).toNatClampNeg) := c4
            rw [if_pos c4] at q
            refine w_iinc (ls2 := [(0, .ref 0), (1, .ref o), (2, .int (x2 + 1)), (3, .int (x2 * 3)), (4, .int (I 136 ((x2 * 3).toNatClampNeg)))]) (Ev.cm _) rfl rfl rfl ?_
            refine w_goto (Ev.cm _) rfl ?_
            show Wp _ _ _ _ _ _ _ 2 [(0, .ref 0), (1, .ref o), (2, .int (x2 + 1)), (3, .int (x2 * 3)), (4, .int (I 136 ((x2 * 3).toNatClampNeg)))] [] (HS I3 L3 X)
            refine Wp.sub [0, 1, 2] (ls2 := [(0, .ref 0), (1, .ref o), (2, .int (x2 + 1))]) rfl ?_
            exact ih _ _ _ q
          · have c4 : ¬ (r3 = I3 136 (((x2 * 3) + 2).toNatClampNeg)) := c4
            rw [if_neg c4] at q
            refine w_iconst (Ev.cm _) rfl ?_
            refine w_ireturn (Ev.cm _) rfl (by first | exact rok_0 | exact rok_1 | exact rok_b) rf0 ?_
            cases q
            exact g
def FO_X_agreesWithSaid_o (fu : Nat) (o : Nat) (I : Nat → Nat → Int32) (L : Nat → Nat → Int64) : Option (Int32 × (Nat → Nat → Int32) × (Nat → Nat → Int64)) := LO_X_agreesWithSaid_o_2 fu o fu 0 I L
set_option maxHeartbeats 20000000 in
set_option maxRecDepth 20000 in
theorem eo_X_agreesWithSaid_o {d fu : Nat} {o : Nat} {I : Nat → Nat → Int32} {L : Nat → Nat → Int64} {X : Nat × (Nat → Int32)} {Q : PQ} {res : Int32 × (Nat → Nat → Int32) × (Nat → Nat → Int64)}  (ho : isT o) (g : Q (some (.int res.1)) (HS res.2.1 res.2.2 X)) (q : FO_X_agreesWithSaid_o fu o  I L = some res) : Ev (d + 5) m_X_agreesWithSaid [.ref 0, .ref o] (HS I L X) Q := by
  unfold FO_X_agreesWithSaid_o at q
  refine ev_start (d := d + 4) rfl rfl rfl (Nat.le_of_ble_eq_true rfl) ?_
  show Wp (Ev (d + 4)) cd_X_agreesWithSaid (0, 0) (some .boolean) _ _ Q 0 [(0, .ref 0), (1, .ref o)] [] (HS I L X)
  refine w_iconst (Ev.cm _) rfl ?_
  refine w_istore_n (ls2 := [(0, .ref 0), (1, .ref o), (2, .int 0)]) (Ev.cm _) rfl rfl ?_
  show Wp _ _ _ _ _ _ _ 2 [(0, .ref 0), (1, .ref o), (2, .int 0)] [] (HS I L X)
  refine Wp.sub [0, 1, 2] (ls2 := [(0, .ref 0), (1, .ref o), (2, .int 0)]) rfl ?_
  exact lo_X_agreesWithSaid_o_2 ho g fu _ _ _ q
def LO_X_countTreadsTo_28 (fu : Nat) (k_18 : Int32 → Int32 → Int32 → Int32 → (Nat → Nat → Int32) → (Nat → Nat → Int64) → Option (Unit × (Nat → Nat → Int32) × (Nat → Nat → Int64))) : Nat → Int32 → Int32 → Int32 → Int32 → Int32 → (Nat → Nat → Int32) → (Nat → Nat → Int64) → Option (Unit × (Nat → Nat → Int32) × (Nat → Nat → Int64))
  | 0, _, _, _, _, _, _, _ => none
  | n + 1, x1, x2, x3, x4, x5, I, L => if 12 < x5 then (k_18 x1 x2 x3 (x4 + 1) I L) else (if 0 ≤ x5 ∧ x5 < 13 then (if I 328 x5.toNatClampNeg = (-1) then ((FO_X_reaches fu x5 x4 x2 x3 I L).bind (fun u2 => let r2 := u2.1; let I2 := u2.2.1; let L2 := u2.2.2; if r2 = (-1) then (LO_X_countTreadsTo_28 fu k_18 n x1 x2 x3 x4 (x5 + 1) I2 L2) else (if 0 ≤ x5 ∧ x5 < 13 then (LO_X_countTreadsTo_28 fu k_18 n x1 x2 x3 x4 (x5 + 1) (sI I2 328 x5.toNatClampNeg (x4 + 1)) L2) else none))) else (LO_X_countTreadsTo_28 fu k_18 n x1 x2 x3 x4 (x5 + 1) I L)) else none)
set_option maxHeartbeats 20000000 in
set_option maxRecDepth 20000 in
theorem lo_X_countTreadsTo_28 {d fu n0 s0 : Nat} {X : Nat × (Nat → Int32)} {Q : PQ} {k_18 : Int32 → Int32 → Int32 → Int32 → (Nat → Nat → Int32) → (Nat → Nat → Int64) → Option (Unit × (Nat → Nat → Int32) × (Nat → Nat → Int64))} {res : Unit × (Nat → Nat → Int32) × (Nat → Nat → Int64)}  (g : Q none (HS res.2.1 res.2.2 X)) (hk_18 : ∀ (x1 : Int32) (x2 : Int32) (x3 : Int32) (x4 : Int32) (I : Nat → Nat → Int32) (L : Nat → Nat → Int64), k_18 x1 x2 x3 x4 I L = some res → Wp (Ev (d + 2)) cd_X_countTreadsTo (0, 0) none n0 s0 Q 18 [(0, .ref 0), (1, .int x1), (2, .int x2), (3, .int x3), (4, .int x4)] [] (HS I L X)) : ∀ (n : Nat) (x1 : Int32) (x2 : Int32) (x3 : Int32) (x4 : Int32) (x5 : Int32) (I : Nat → Nat → Int32) (L : Nat → Nat → Int64), LO_X_countTreadsTo_28 fu k_18 n x1 x2 x3 x4 x5 I L = some res → Wp (Ev (d + 2)) cd_X_countTreadsTo (0, 0) none n0 s0 Q 28 [(0, .ref 0), (1, .int x1), (2, .int x2), (3, .int x3), (4, .int x4), (5, .int x5)] [] (HS I L X) := by
  intro n
  induction n with
  | zero => intro _ _ _ _ _ _ _ q; cases q
  | succ n ih =>
    intro x1 x2 x3 x4 x5 I L q
    unfold LO_X_countTreadsTo_28 at q
    refine w_iload (Ev.cm _) rfl rfl ?_
    refine w_bipush (Ev.cm _) rfl ?_
    refine w_icmp_gt (Ev.cm _) rfl (fun c1 => ?_) (fun c1 => ?_)
    · have c1 : 12 < x5 := c1
      rw [if_pos c1] at q
      refine w_iinc (ls2 := [(0, .ref 0), (1, .int x1), (2, .int x2), (3, .int x3), (4, .int (x4 + 1)), (5, .int x5)]) (Ev.cm _) rfl rfl rfl ?_
      refine w_goto (Ev.cm _) rfl ?_
      show Wp _ _ _ _ _ _ _ 18 [(0, .ref 0), (1, .int x1), (2, .int x2), (3, .int x3), (4, .int (x4 + 1)), (5, .int x5)] [] (HS I L X)
      refine Wp.sub [0, 1, 2, 3, 4] (ls2 := [(0, .ref 0), (1, .int x1), (2, .int x2), (3, .int x3), (4, .int (x4 + 1))]) rfl ?_
      exact hk_18 _ _ _ _ _ _ q
    · have c1 : ¬ (12 < x5) := c1
      rw [if_neg c1] at q
      refine w_aload_n (Ev.cm _) rfl rfl ?_
      refine w_getR (q := 328) (Ev.cm _) rfl (Nat.le_of_ble_eq_true rfl) rfl rfl ?_
      refine w_iload (Ev.cm _) rfl rfl ?_
      obtain ⟨b1, q⟩ := ois q
      refine w_iald (Ev.cm _) rfl (Nat.le_of_ble_eq_true rfl) rfl (show vp_in x5 13 from vpI 13 (by decide) b1.1 b1.2) ?_
      refine w_iconst (Ev.cm _) rfl ?_
      refine w_icmp_ne (Ev.cm _) rfl (fun c2 => ?_) (fun c2 => ?_)
      · have c2 : ¬ (I 328 x5.toNatClampNeg = (-1)) := c2
        rw [if_neg c2] at q
        refine w_iinc (ls2 := [(0, .ref 0), (1, .int x1), (2, .int x2), (3, .int x3), (4, .int x4), (5, .int (x5 + 1))]) (Ev.cm _) rfl rfl rfl ?_
        refine w_goto (Ev.cm _) rfl ?_
        show Wp _ _ _ _ _ _ _ 28 [(0, .ref 0), (1, .int x1), (2, .int x2), (3, .int x3), (4, .int x4), (5, .int (x5 + 1))] [] (HS I L X)
        refine Wp.sub [0, 1, 2, 3, 4, 5] (ls2 := [(0, .ref 0), (1, .int x1), (2, .int x2), (3, .int x3), (4, .int x4), (5, .int (x5 + 1))]) rfl ?_
        exact ih _ _ _ _ _ _ _ q
      · have c2 : I 328 x5.toNatClampNeg = (-1) := c2
        rw [if_pos c2] at q
        refine w_aload_n (Ev.cm _) rfl rfl ?_
        refine w_iload (Ev.cm _) rfl rfl ?_
        refine w_iload (Ev.cm _) rfl rfl ?_
        refine w_iload_n (Ev.cm _) rfl rfl ?_
        refine w_iload_n (Ev.cm _) rfl rfl ?_
        obtain ⟨⟨r2, I2, L2⟩, e2, q⟩ := obs q
        dsimp only at q
        refine w_cvirt (o := 0) (as := [.int x5, .int x4, .int x2, .int x3]) (st := []) (Ev.cm _) rfl rfl rfl (Nat.le_of_ble_eq_true rfl) (Nat.le_of_ble_eq_true rfl) rfl (Nat.le_of_ble_eq_true rfl) (eo_X_reaches (g := ?_) e2)
        show Wp _ _ _ _ _ _ _ 56 [(0, .ref 0), (1, .int x1), (2, .int x2), (3, .int x3), (4, .int x4), (5, .int x5)] [.int r2] (HS I2 L2 X)
        refine w_iconst (Ev.cm _) rfl ?_
        refine w_icmp_eq (Ev.cm _) rfl (fun c3 => ?_) (fun c3 => ?_)
        · have c3 : r2 = (-1) := c3
          rw [if_pos c3] at q
          refine w_iinc (ls2 := [(0, .ref 0), (1, .int x1), (2, .int x2), (3, .int x3), (4, .int x4), (5, .int (x5 + 1))]) (Ev.cm _) rfl rfl rfl ?_
          refine w_goto (Ev.cm _) rfl ?_
          show Wp _ _ _ _ _ _ _ 28 [(0, .ref 0), (1, .int x1), (2, .int x2), (3, .int x3), (4, .int x4), (5, .int (x5 + 1))] [] (HS I2 L2 X)
          refine Wp.sub [0, 1, 2, 3, 4, 5] (ls2 := [(0, .ref 0), (1, .int x1), (2, .int x2), (3, .int x3), (4, .int x4), (5, .int (x5 + 1))]) rfl ?_
          exact ih _ _ _ _ _ _ _ q
        · have c3 : ¬ (r2 = (-1)) := c3
          rw [if_neg c3] at q
          refine w_aload_n (Ev.cm _) rfl rfl ?_
          refine w_getR (q := 328) (Ev.cm _) rfl (Nat.le_of_ble_eq_true rfl) rfl rfl ?_
          refine w_iload (Ev.cm _) rfl rfl ?_
          refine w_iload (Ev.cm _) rfl rfl ?_
          refine w_iconst (Ev.cm _) rfl ?_
          refine w_iadd (Ev.cm _) rfl ?_
          obtain ⟨b3, q⟩ := ois q
          refine w_iast (Ev.cm _) rfl (Nat.le_of_ble_eq_true rfl) rfl (show vp_in x5 13 from vpI 13 (by decide) b3.1 b3.2) ?_
          refine w_iinc (ls2 := [(0, .ref 0), (1, .int x1), (2, .int x2), (3, .int x3), (4, .int x4), (5, .int (x5 + 1))]) (Ev.cm _) rfl rfl rfl ?_
          refine w_goto (Ev.cm _) rfl ?_
          show Wp _ _ _ _ _ _ _ 28 [(0, .ref 0), (1, .int x1), (2, .int x2), (3, .int x3), (4, .int x4), (5, .int (x5 + 1))] [] (HS (sI I2 328 x5.toNatClampNeg (x4 + 1)) L2 X)
          refine Wp.sub [0, 1, 2, 3, 4, 5] (ls2 := [(0, .ref 0), (1, .int x1), (2, .int x2), (3, .int x3), (4, .int x4), (5, .int (x5 + 1))]) rfl ?_
          exact ih _ _ _ _ _ _ _ q
def LO_X_countTreadsTo_18 (fu : Nat) : Nat → Int32 → Int32 → Int32 → Int32 → (Nat → Nat → Int32) → (Nat → Nat → Int64) → Option (Unit × (Nat → Nat → Int32) × (Nat → Nat → Int64))
  | 0, _, _, _, _, _, _ => none
  | n + 1, x1, x2, x3, x4, I, L => if 12 ≤ x4 then (some ((), I, L)) else (LO_X_countTreadsTo_28 fu (fun x1 x2 x3 x4 I L => LO_X_countTreadsTo_18 fu n x1 x2 x3 x4 I L) fu x1 x2 x3 x4 0 I L)
set_option maxHeartbeats 20000000 in
set_option maxRecDepth 20000 in
theorem lo_X_countTreadsTo_18 {d fu n0 s0 : Nat} {X : Nat × (Nat → Int32)} {Q : PQ} {res : Unit × (Nat → Nat → Int32) × (Nat → Nat → Int64)}  (g : Q none (HS res.2.1 res.2.2 X)) : ∀ (n : Nat) (x1 : Int32) (x2 : Int32) (x3 : Int32) (x4 : Int32) (I : Nat → Nat → Int32) (L : Nat → Nat → Int64), LO_X_countTreadsTo_18 fu n x1 x2 x3 x4 I L = some res → Wp (Ev (d + 2)) cd_X_countTreadsTo (0, 0) none n0 s0 Q 18 [(0, .ref 0), (1, .int x1), (2, .int x2), (3, .int x3), (4, .int x4)] [] (HS I L X) := by
  intro n
  induction n with
  | zero => intro _ _ _ _ _ _ q; cases q
  | succ n ih =>
    intro x1 x2 x3 x4 I L q
    unfold LO_X_countTreadsTo_18 at q
    refine w_iload (Ev.cm _) rfl rfl ?_
    refine w_bipush (Ev.cm _) rfl ?_
    refine w_icmp_ge (Ev.cm _) rfl (fun c1 => ?_) (fun c1 => ?_)
    · have c1 : 12 ≤ x4 := c1
      rw [if_pos c1] at q
      refine w_return (Ev.cm _) rfl rfl rf0 ?_
      cases q
      exact g
    · have c1 : ¬ (12 ≤ x4) := c1
      rw [if_neg c1] at q
      refine w_iconst (Ev.cm _) rfl ?_
      refine w_istore (ls2 := [(0, .ref 0), (1, .int x1), (2, .int x2), (3, .int x3), (4, .int x4), (5, .int 0)]) (Ev.cm _) rfl rfl ?_
      show Wp _ _ _ _ _ _ _ 28 [(0, .ref 0), (1, .int x1), (2, .int x2), (3, .int x3), (4, .int x4), (5, .int 0)] [] (HS I L X)
      refine Wp.sub [0, 1, 2, 3, 4, 5] (ls2 := [(0, .ref 0), (1, .int x1), (2, .int x2), (3, .int x3), (4, .int x4), (5, .int 0)]) rfl ?_
      exact lo_X_countTreadsTo_28 g (fun x1 x2 x3 x4 I L q => ih x1 x2 x3 x4 I L q) fu _ _ _ _ _ _ _ q
def FO_X_countTreadsTo (fu : Nat) (p0 : Int32) (p1 : Int32) (p2 : Int32) (I : Nat → Nat → Int32) (L : Nat → Nat → Int64) : Option (Unit × (Nat → Nat → Int32) × (Nat → Nat → Int64)) := (some (va_up I 328 (fillF (I 328) (-1) 13))).bind (fun I1 => if 0 ≤ p0 ∧ p0 < 13 then (LO_X_countTreadsTo_18 fu fu p0 p1 p2 0 (sI I1 328 p0.toNatClampNeg 0) L) else none)
set_option maxHeartbeats 20000000 in
set_option maxRecDepth 20000 in
theorem eo_X_countTreadsTo {d fu : Nat} {p0 : Int32} {p1 : Int32} {p2 : Int32} {I : Nat → Nat → Int32} {L : Nat → Nat → Int64} {X : Nat × (Nat → Int32)} {Q : PQ} {res : Unit × (Nat → Nat → Int32) × (Nat → Nat → Int64)}  (g : Q none (HS res.2.1 res.2.2 X)) (q : FO_X_countTreadsTo fu p0 p1 p2 I L = some res) : Ev (d + 3) m_X_countTreadsTo [.ref 0, .int p0, .int p1, .int p2] (HS I L X) Q := by
  unfold FO_X_countTreadsTo at q
  refine ev_start (d := d + 2) rfl rfl rfl (Nat.le_of_ble_eq_true rfl) ?_
  show Wp (Ev (d + 2)) cd_X_countTreadsTo (0, 0) none _ _ Q 0 [(0, .ref 0), (1, .int p0), (2, .int p1), (3, .int p2)] [] (HS I L X)
  refine w_aload_n (Ev.cm _) rfl rfl ?_
  refine w_getR (q := 328) (Ev.cm _) rfl (Nat.le_of_ble_eq_true rfl) rfl rfl ?_
  refine w_iconst (Ev.cm _) rfl ?_
  obtain ⟨I1, e1, q⟩ := obs q
  try dsimp only at q
  refine w_cstat (as := [.ref 328, .int (-1)]) (st := []) (Ev.cm _) rfl rfl rfl (Nat.le_of_ble_eq_true rfl) (Nat.le_of_ble_eq_true rfl) (e_fill_e (Nat.le_of_ble_eq_true rfl) (n := 13) rfl (by decide) e1 ?_)
  show Wp _ _ _ _ _ _ _ 8 [(0, .ref 0), (1, .int p0), (2, .int p1), (3, .int p2)] [] (HS I1 L X)
  refine w_aload_n (Ev.cm _) rfl rfl ?_
  refine w_getR (q := 328) (Ev.cm _) rfl (Nat.le_of_ble_eq_true rfl) rfl rfl ?_
  refine w_iload_n (Ev.cm _) rfl rfl ?_
  refine w_iconst (Ev.cm _) rfl ?_
  obtain ⟨b2, q⟩ := ois q
  refine w_iast (Ev.cm _) rfl (Nat.le_of_ble_eq_true rfl) rfl (show vp_in p0 13 from vpI 13 (by decide) b2.1 b2.2) ?_
  refine w_iconst (Ev.cm _) rfl ?_
  refine w_istore (ls2 := [(0, .ref 0), (1, .int p0), (2, .int p1), (3, .int p2), (4, .int 0)]) (Ev.cm _) rfl rfl ?_
  show Wp _ _ _ _ _ _ _ 18 [(0, .ref 0), (1, .int p0), (2, .int p1), (3, .int p2), (4, .int 0)] [] (HS (sI I1 328 p0.toNatClampNeg 0) L X)
  refine Wp.sub [0, 1, 2, 3, 4] (ls2 := [(0, .ref 0), (1, .int p0), (2, .int p1), (3, .int p2), (4, .int 0)]) rfl ?_
  exact lo_X_countTreadsTo_18 g fu _ _ _ _ _ _ q
def LO_X_countWays_20 (fu : Nat) : Nat → Int32 → Int32 → Int32 → Int32 → (Nat → Nat → Int32) → (Nat → Nat → Int64) → Option (Int64 × (Nat → Nat → Int32) × (Nat → Nat → Int64))
  | 0, _, _, _, _, _, _ => none
  | n + 1, x1, x2, x3, x4, I, L => if x2 < x4 then (if 0 ≤ x2 ∧ x2 < 13 then (some (L 329 x2.toNatClampNeg, I, L)) else none) else (if (x3 >>> (x4 &&& 31)) &&& 1 = 0 then ((FO_X_countFromBelow fu x4 I L).bind (fun u2 => let r2 := u2.1; let I2 := u2.2.1; let L2 := u2.2.2; if 0 ≤ x4 ∧ x4 < 13 then (LO_X_countWays_20 fu n x1 x2 x3 (x4 + 1) I2 (sL L2 329 x4.toNatClampNeg r2)) else none)) else (LO_X_countWays_20 fu n x1 x2 x3 (x4 + 1) I L))
set_option maxHeartbeats 20000000 in
set_option maxRecDepth 20000 in
theorem lo_X_countWays_20 {d fu n0 s0 : Nat} {X : Nat × (Nat → Int32)} {Q : PQ} {res : Int64 × (Nat → Nat → Int32) × (Nat → Nat → Int64)}  (g : Q (some (.long res.1)) (HS res.2.1 res.2.2 X)) : ∀ (n : Nat) (x1 : Int32) (x2 : Int32) (x3 : Int32) (x4 : Int32) (I : Nat → Nat → Int32) (L : Nat → Nat → Int64), LO_X_countWays_20 fu n x1 x2 x3 x4 I L = some res → Wp (Ev (d + 2)) cd_X_countWays (0, 0) (some .long) n0 s0 Q 20 [(0, .ref 0), (1, .int x1), (2, .int x2), (3, .int x3), (4, .int x4)] [] (HS I L X) := by
  intro n
  induction n with
  | zero => intro _ _ _ _ _ _ q; cases q
  | succ n ih =>
    intro x1 x2 x3 x4 I L q
    unfold LO_X_countWays_20 at q
    refine w_iload (Ev.cm _) rfl rfl ?_
    refine w_iload_n (Ev.cm _) rfl rfl ?_
    refine w_icmp_gt (Ev.cm _) rfl (fun c1 => ?_) (fun c1 => ?_)
    · have c1 : x2 < x4 := c1
      rw [if_pos c1] at q
      refine w_aload_n (Ev.cm _) rfl rfl ?_
      refine w_getR (q := 329) (Ev.cm _) rfl (Nat.le_of_ble_eq_true rfl) rfl rfl ?_
      refine w_iload_n (Ev.cm _) rfl rfl ?_
      obtain ⟨b1, q⟩ := ois q
      refine w_lald (Ev.cm _) rfl (Nat.le_of_ble_eq_true rfl) rfl (show vp_in x2 13 from vpI 13 (by decide) b1.1 b1.2) ?_
      refine w_lreturn (Ev.cm _) rfl rfl rf0 ?_
      cases q
      exact g
    · have c1 : ¬ (x2 < x4) := c1
      rw [if_neg c1] at q
      refine w_iload_n (Ev.cm _) rfl rfl ?_
      refine w_iload (Ev.cm _) rfl rfl ?_
      refine w_ishr (Ev.cm _) rfl ?_
      refine w_iconst (Ev.cm _) rfl ?_
      refine w_iand (Ev.cm _) rfl ?_
      refine w_if_ne (Ev.cm _) rfl (fun c2 => ?_) (fun c2 => ?_)
      · have c2 : ¬ ((x3 >>> (x4 &&& 31)) &&& 1 = 0) := c2
        rw [if_neg c2] at q
        refine w_iinc (ls2 := [(0, .ref 0), (1, .int x1), (2, .int x2), (3, .int x3), (4, .int (x4 + 1))]) (Ev.cm _) rfl rfl rfl ?_
        refine w_goto (Ev.cm _) rfl ?_
        show Wp _ _ _ _ _ _ _ 20 [(0, .ref 0), (1, .int x1), (2, .int x2), (3, .int x3), (4, .int (x4 + 1))] [] (HS I L X)
        refine Wp.sub [0, 1, 2, 3, 4] (ls2 := [(0, .ref 0), (1, .int x1), (2, .int x2), (3, .int x3), (4, .int (x4 + 1))]) rfl ?_
        exact ih _ _ _ _ _ _ q
      · have c2 : (x3 >>> (x4 &&& 31)) &&& 1 = 0 := c2
        rw [if_pos c2] at q
        refine w_aload_n (Ev.cm _) rfl rfl ?_
        refine w_getR (q := 329) (Ev.cm _) rfl (Nat.le_of_ble_eq_true rfl) rfl rfl ?_
        refine w_iload (Ev.cm _) rfl rfl ?_
        refine w_aload_n (Ev.cm _) rfl rfl ?_
        refine w_iload (Ev.cm _) rfl rfl ?_
        obtain ⟨⟨r2, I2, L2⟩, e2, q⟩ := obs q
        dsimp only at q
        refine w_cvirt (o := 0) (as := [.int x4]) (st := [.int x4, .ref 329]) (Ev.cm _) rfl rfl rfl (Nat.le_of_ble_eq_true rfl) (Nat.le_of_ble_eq_true rfl) rfl (Nat.le_of_ble_eq_true rfl) (eo_X_countFromBelow (g := ?_) e2)
        show Wp _ _ _ _ _ _ _ 47 [(0, .ref 0), (1, .int x1), (2, .int x2), (3, .int x3), (4, .int x4)] [.long r2, .int x4, .ref 329] (HS I2 L2 X)
        obtain ⟨b3, q⟩ := ois q
        refine w_last (Ev.cm _) rfl (Nat.le_of_ble_eq_true rfl) rfl (show vp_in x4 13 from vpI 13 (by decide) b3.1 b3.2) ?_
        refine w_iinc (ls2 := [(0, .ref 0), (1, .int x1), (2, .int x2), (3, .int x3), (4, .int (x4 + 1))]) (Ev.cm _) rfl rfl rfl ?_
        refine w_goto (Ev.cm _) rfl ?_
        show Wp _ _ _ _ _ _ _ 20 [(0, .ref 0), (1, .int x1), (2, .int x2), (3, .int x3), (4, .int (x4 + 1))] [] (HS I2 (sL L2 329 x4.toNatClampNeg r2) X)
        refine Wp.sub [0, 1, 2, 3, 4] (ls2 := [(0, .ref 0), (1, .int x1), (2, .int x2), (3, .int x3), (4, .int (x4 + 1))]) rfl ?_
        exact ih _ _ _ _ _ _ q
def FO_X_countWays (fu : Nat) (p0 : Int32) (p1 : Int32) (p2 : Int32) (I : Nat → Nat → Int32) (L : Nat → Nat → Int64) : Option (Int64 × (Nat → Nat → Int32) × (Nat → Nat → Int64)) := (some (va_up L 329 (fillG (L 329) 0 13))).bind (fun L1 => if 0 ≤ p0 ∧ p0 < 13 then (LO_X_countWays_20 fu fu p0 p1 p2 (p0 + 1) I (sL L1 329 p0.toNatClampNeg 1)) else none)
set_option maxHeartbeats 20000000 in
set_option maxRecDepth 20000 in
theorem eo_X_countWays {d fu : Nat} {p0 : Int32} {p1 : Int32} {p2 : Int32} {I : Nat → Nat → Int32} {L : Nat → Nat → Int64} {X : Nat × (Nat → Int32)} {Q : PQ} {res : Int64 × (Nat → Nat → Int32) × (Nat → Nat → Int64)}  (g : Q (some (.long res.1)) (HS res.2.1 res.2.2 X)) (q : FO_X_countWays fu p0 p1 p2 I L = some res) : Ev (d + 3) m_X_countWays [.ref 0, .int p0, .int p1, .int p2] (HS I L X) Q := by
  unfold FO_X_countWays at q
  refine ev_start (d := d + 2) rfl rfl rfl (Nat.le_of_ble_eq_true rfl) ?_
  show Wp (Ev (d + 2)) cd_X_countWays (0, 0) (some .long) _ _ Q 0 [(0, .ref 0), (1, .int p0), (2, .int p1), (3, .int p2)] [] (HS I L X)
  refine w_aload_n (Ev.cm _) rfl rfl ?_
  refine w_getR (q := 329) (Ev.cm _) rfl (Nat.le_of_ble_eq_true rfl) rfl rfl ?_
  refine w_lconst (Ev.cm _) rfl ?_
  obtain ⟨L1, e1, q⟩ := obs q
  try dsimp only at q
  refine w_cstat (as := [.ref 329, .long 0]) (st := []) (Ev.cm _) rfl rfl rfl (Nat.le_of_ble_eq_true rfl) (Nat.le_of_ble_eq_true rfl) (e_fillL_e (Nat.le_of_ble_eq_true rfl) (n := 13) rfl (by decide) e1 ?_)
  show Wp _ _ _ _ _ _ _ 8 [(0, .ref 0), (1, .int p0), (2, .int p1), (3, .int p2)] [] (HS I L1 X)
  refine w_aload_n (Ev.cm _) rfl rfl ?_
  refine w_getR (q := 329) (Ev.cm _) rfl (Nat.le_of_ble_eq_true rfl) rfl rfl ?_
  refine w_iload_n (Ev.cm _) rfl rfl ?_
  refine w_lconst (Ev.cm _) rfl ?_
  obtain ⟨b2, q⟩ := ois q
  refine w_last (Ev.cm _) rfl (Nat.le_of_ble_eq_true rfl) rfl (show vp_in p0 13 from vpI 13 (by decide) b2.1 b2.2) ?_
  refine w_iload_n (Ev.cm _) rfl rfl ?_
  refine w_iconst (Ev.cm _) rfl ?_
  refine w_iadd (Ev.cm _) rfl ?_
  refine w_istore (ls2 := [(0, .ref 0), (1, .int p0), (2, .int p1), (3, .int p2), (4, .int (p0 + 1))]) (Ev.cm _) rfl rfl ?_
  show Wp _ _ _ _ _ _ _ 20 [(0, .ref 0), (1, .int p0), (2, .int p1), (3, .int p2), (4, .int (p0 + 1))] [] (HS I (sL L1 329 p0.toNatClampNeg 1) X)
  refine Wp.sub [0, 1, 2, 3, 4] (ls2 := [(0, .ref 0), (1, .int p0), (2, .int p1), (3, .int p2), (4, .int (p0 + 1))]) rfl ?_
  exact lo_X_countWays_20 g fu _ _ _ _ _ _ q
