/-! methods without loops, read back by program -/
def F_J_max (I : Nat → Nat → Int32) (a : Int32) (b : Int32) : Int32 := if a < b then b else a
theorem e_J_max {d : Nat} {I : Nat → Nat → Int32} {L : Nat → Nat → Int64} {X : Nat × (Nat → Int32)} {a : Int32} {b : Int32} {Q : PQ} (q : Q (some (.int (F_J_max I a b))) (HS I L X)) : Ev (d + 1) m_J_max [.int a, .int b] (HS I L X) Q := by
  unfold F_J_max at q
  refine ev_start (d := d + 0) rfl rfl rfl (Nat.le_of_ble_eq_true rfl) ?_
  show Wp (Ev (d + 0)) cd_J_max (0, 0) (some .int) _ _ Q 0 [(0, .int a), (1, .int b)] [] (HS I L X)
  refine w_iload_n (Ev.cm _) rfl rfl ?_
  refine w_iload_n (Ev.cm _) rfl rfl ?_
  refine w_icmp_lt (Ev.cm _) rfl (fun c1 => ?_) (fun c1 => ?_)
  · refine w_iload_n (Ev.cm _) rfl rfl ?_
    refine w_ireturn (Ev.cm _) rfl trivial rf0 ?_
    show Q (some (.int b)) (HS I L X)
    rw [if_pos c1] at q
    exact q
  · refine w_iload_n (Ev.cm _) rfl rfl ?_
    refine w_goto (Ev.cm _) rfl ?_
    refine w_ireturn (Ev.cm _) rfl trivial rf0 ?_
    show Q (some (.int a)) (HS I L X)
    rw [if_neg c1] at q
    exact q
def F_J_min (I : Nat → Nat → Int32) (a : Int32) (b : Int32) : Int32 := if b < a then b else a
theorem e_J_min {d : Nat} {I : Nat → Nat → Int32} {L : Nat → Nat → Int64} {X : Nat × (Nat → Int32)} {a : Int32} {b : Int32} {Q : PQ} (q : Q (some (.int (F_J_min I a b))) (HS I L X)) : Ev (d + 1) m_J_min [.int a, .int b] (HS I L X) Q := by
  unfold F_J_min at q
  refine ev_start (d := d + 0) rfl rfl rfl (Nat.le_of_ble_eq_true rfl) ?_
  show Wp (Ev (d + 0)) cd_J_min (0, 0) (some .int) _ _ Q 0 [(0, .int a), (1, .int b)] [] (HS I L X)
  refine w_iload_n (Ev.cm _) rfl rfl ?_
  refine w_iload_n (Ev.cm _) rfl rfl ?_
  refine w_icmp_gt (Ev.cm _) rfl (fun c1 => ?_) (fun c1 => ?_)
  · refine w_iload_n (Ev.cm _) rfl rfl ?_
    refine w_ireturn (Ev.cm _) rfl trivial rf0 ?_
    show Q (some (.int b)) (HS I L X)
    rw [if_pos c1] at q
    exact q
  · refine w_iload_n (Ev.cm _) rfl rfl ?_
    refine w_goto (Ev.cm _) rfl ?_
    refine w_ireturn (Ev.cm _) rfl trivial rf0 ?_
    show Q (some (.int a)) (HS I L X)
    rw [if_neg c1] at q
    exact q
def F_J_abs (I : Nat → Nat → Int32) (a : Int32) : Int32 := if 0 ≤ a then a else (-a)
theorem e_J_abs {d : Nat} {I : Nat → Nat → Int32} {L : Nat → Nat → Int64} {X : Nat × (Nat → Int32)} {a : Int32} {Q : PQ} (q : Q (some (.int (F_J_abs I a))) (HS I L X)) : Ev (d + 1) m_J_abs [.int a] (HS I L X) Q := by
  unfold F_J_abs at q
  refine ev_start (d := d + 0) rfl rfl rfl (Nat.le_of_ble_eq_true rfl) ?_
  show Wp (Ev (d + 0)) cd_J_abs (0, 0) (some .int) _ _ Q 0 [(0, .int a)] [] (HS I L X)
  refine w_iload_n (Ev.cm _) rfl rfl ?_
  refine w_if_ge (Ev.cm _) rfl (fun c1 => ?_) (fun c1 => ?_)
  · refine w_iload_n (Ev.cm _) rfl rfl ?_
    refine w_ireturn (Ev.cm _) rfl trivial rf0 ?_
    show Q (some (.int a)) (HS I L X)
    rw [if_pos c1] at q
    exact q
  · refine w_iload_n (Ev.cm _) rfl rfl ?_
    refine w_ineg (Ev.cm _) rfl ?_
    refine w_goto (Ev.cm _) rfl ?_
    refine w_ireturn (Ev.cm _) rfl trivial rf0 ?_
    show Q (some (.int (-a))) (HS I L X)
    rw [if_neg c1] at q
    exact q
def F_J_maxL (I : Nat → Nat → Int32) (a : Int64) (b : Int64) : Int64 := if lg_cmp a b < 0 then b else a
theorem e_J_maxL {d : Nat} {I : Nat → Nat → Int32} {L : Nat → Nat → Int64} {X : Nat × (Nat → Int32)} {a : Int64} {b : Int64} {Q : PQ} (q : Q (some (.long (F_J_maxL I a b))) (HS I L X)) : Ev (d + 1) m_J_maxL [.long a, .long b] (HS I L X) Q := by
  unfold F_J_maxL at q
  refine ev_start (d := d + 0) rfl rfl rfl (Nat.le_of_ble_eq_true rfl) ?_
  show Wp (Ev (d + 0)) cd_J_maxL (0, 0) (some .long) _ _ Q 0 [(0, .long a), (2, .long b)] [] (HS I L X)
  refine w_lload_n (Ev.cm _) rfl rfl ?_
  refine w_lload_n (Ev.cm _) rfl rfl ?_
  refine w_lcmp (Ev.cm _) rfl ?_
  refine w_if_lt (Ev.cm _) rfl (fun c1 => ?_) (fun c1 => ?_)
  · refine w_lload_n (Ev.cm _) rfl rfl ?_
    refine w_lreturn (Ev.cm _) rfl rfl rf0 ?_
    show Q (some (.long b)) (HS I L X)
    rw [if_pos c1] at q
    exact q
  · refine w_lload_n (Ev.cm _) rfl rfl ?_
    refine w_goto (Ev.cm _) rfl ?_
    refine w_lreturn (Ev.cm _) rfl rfl rf0 ?_
    show Q (some (.long a)) (HS I L X)
    rw [if_neg c1] at q
    exact q
def F_J_minL (I : Nat → Nat → Int32) (a : Int64) (b : Int64) : Int64 := if 0 < lg_cmp a b then b else a
theorem e_J_minL {d : Nat} {I : Nat → Nat → Int32} {L : Nat → Nat → Int64} {X : Nat × (Nat → Int32)} {a : Int64} {b : Int64} {Q : PQ} (q : Q (some (.long (F_J_minL I a b))) (HS I L X)) : Ev (d + 1) m_J_minL [.long a, .long b] (HS I L X) Q := by
  unfold F_J_minL at q
  refine ev_start (d := d + 0) rfl rfl rfl (Nat.le_of_ble_eq_true rfl) ?_
  show Wp (Ev (d + 0)) cd_J_minL (0, 0) (some .long) _ _ Q 0 [(0, .long a), (2, .long b)] [] (HS I L X)
  refine w_lload_n (Ev.cm _) rfl rfl ?_
  refine w_lload_n (Ev.cm _) rfl rfl ?_
  refine w_lcmp (Ev.cm _) rfl ?_
  refine w_if_gt (Ev.cm _) rfl (fun c1 => ?_) (fun c1 => ?_)
  · refine w_lload_n (Ev.cm _) rfl rfl ?_
    refine w_lreturn (Ev.cm _) rfl rfl rf0 ?_
    show Q (some (.long b)) (HS I L X)
    rw [if_pos c1] at q
    exact q
  · refine w_lload_n (Ev.cm _) rfl rfl ?_
    refine w_goto (Ev.cm _) rfl ?_
    refine w_lreturn (Ev.cm _) rfl rfl rf0 ?_
    show Q (some (.long a)) (HS I L X)
    rw [if_neg c1] at q
    exact q
def F_X_tenants (I : Nat → Nat → Int32)  : Int32 := F_J_min I (I 1 2) 6
theorem e_X_tenants {d : Nat} {I : Nat → Nat → Int32} {L : Nat → Nat → Int64} {X : Nat × (Nat → Int32)}  {Q : PQ} (q : Q (some (.int (F_X_tenants I ))) (HS I L X)) : Ev (d + 2) m_X_tenants [.ref 0] (HS I L X) Q := by
  unfold F_X_tenants at q
  refine ev_start (d := d + 1) rfl rfl rfl (Nat.le_of_ble_eq_true rfl) ?_
  show Wp (Ev (d + 1)) cd_X_tenants (0, 0) (some .int) _ _ Q 0 [(0, .ref 0)] [] (HS I L X)
  refine w_aload_n (Ev.cm _) rfl rfl ?_
  refine w_getR (q := 1) (Ev.cm _) rfl (Nat.le_of_ble_eq_true rfl) rfl rfl ?_
  refine w_getI (Ev.cm _) rfl (Nat.le_of_ble_eq_true rfl) rfl ?_
  refine w_bipush (Ev.cm _) rfl ?_
  refine w_cstat (as := [.int (I 1 2), .int 6]) (st := []) (Ev.cm _) rfl rfl rfl (Nat.le_of_ble_eq_true rfl) (Nat.le_of_ble_eq_true rfl) (e_J_min ?_)
  show Wp _ _ _ _ _ _ _ 12 [(0, .ref 0)] [.int (F_J_min I (I 1 2) 6)] (HS I L X)
  refine w_ireturn (Ev.cm _) rfl trivial rf0 ?_
  show Q (some (.int (F_J_min I (I 1 2) 6))) (HS I L X)
  exact q
def F_X_isLodger (I : Nat → Nat → Int32) (lodger : Int32) : Int32 := if lodger < 0 then 0 else (if F_X_tenants I  ≤ lodger then 0 else 1)
theorem e_X_isLodger {d : Nat} {I : Nat → Nat → Int32} {L : Nat → Nat → Int64} {X : Nat × (Nat → Int32)} {lodger : Int32} {Q : PQ} (q : Q (some (.int (F_X_isLodger I lodger))) (HS I L X)) : Ev (d + 3) m_X_isLodger [.ref 0, .int lodger] (HS I L X) Q := by
  unfold F_X_isLodger at q
  refine ev_start (d := d + 2) rfl rfl rfl (Nat.le_of_ble_eq_true rfl) ?_
  show Wp (Ev (d + 2)) cd_X_isLodger (0, 0) (some .boolean) _ _ Q 0 [(0, .ref 0), (1, .int lodger)] [] (HS I L X)
  refine w_iload_n (Ev.cm _) rfl rfl ?_
  refine w_if_lt (Ev.cm _) rfl (fun c1 => ?_) (fun c1 => ?_)
  · refine w_iconst (Ev.cm _) rfl ?_
    refine w_ireturn (Ev.cm _) rfl (by first | exact rok_0 | exact rok_1 | exact rok_b) rf0 ?_
    show Q (some (.int 0)) (HS I L X)
    rw [if_pos c1] at q
    exact q
  · refine w_iload_n (Ev.cm _) rfl rfl ?_
    refine w_aload_n (Ev.cm _) rfl rfl ?_
    refine w_cvirt (o := 0) (as := []) (st := [.int lodger]) (Ev.cm _) rfl rfl rfl (Nat.le_of_ble_eq_true rfl) (Nat.le_of_ble_eq_true rfl) rfl (Nat.le_of_ble_eq_true rfl) (e_X_tenants ?_)
    show Wp _ _ _ _ _ _ _ 9 [(0, .ref 0), (1, .int lodger)] [.int (F_X_tenants I ), .int lodger] (HS I L X)
    refine w_icmp_ge (Ev.cm _) rfl (fun c2 => ?_) (fun c2 => ?_)
    · refine w_iconst (Ev.cm _) rfl ?_
      refine w_ireturn (Ev.cm _) rfl (by first | exact rok_0 | exact rok_1 | exact rok_b) rf0 ?_
      show Q (some (.int 0)) (HS I L X)
      rw [if_neg c1, if_pos c2] at q
      exact q
    · refine w_iconst (Ev.cm _) rfl ?_
      refine w_goto (Ev.cm _) rfl ?_
      refine w_ireturn (Ev.cm _) rfl (by first | exact rok_0 | exact rok_1 | exact rok_b) rf0 ?_
      show Q (some (.int 1)) (HS I L X)
      rw [if_neg c1, if_neg c2] at q
      exact q
def F_M_isLodger (I : Nat → Nat → Int32) (l : Int32) : Int32 := bI ((0 : Int32) ≤ l ∧ l ≤ ((I 332 0) - 1))
theorem e_M_isLodger {d : Nat} {I : Nat → Nat → Int32} {L : Nat → Nat → Int64} {X : Nat × (Nat → Int32)} {l : Int32} {Q : PQ} (q : Q (some (.int (F_M_isLodger I l))) (HS I L X)) : Ev (d + 2) m_M_isLodger [.ref 331, .int l] (HS I L X) Q := by
  unfold F_M_isLodger at q
  refine ev_start (d := d + 1) rfl rfl rfl (Nat.le_of_ble_eq_true rfl) ?_
  show Wp (Ev (d + 1)) cd_M_isLodger (0, 0) (some .boolean) _ _ Q 0 [(0, .ref 331), (1, .int l)] [] (HS I L X)
  refine w_iload_n (Ev.cm _) rfl rfl ?_
  refine w_iconst (Ev.cm _) rfl ?_
  refine w_aload_n (Ev.cm _) rfl rfl ?_
  refine w_getR (q := 332) (Ev.cm _) rfl (Nat.le_of_ble_eq_true rfl) rfl rfl ?_
  refine w_iconst (Ev.cm _) rfl ?_
  refine w_iald (Ev.cm _) rfl (Nat.le_of_ble_eq_true rfl) rfl (show vp_in 0 1541 from vpI 1541 (by decide) (by decide) (by decide)) ?_
  refine w_iconst (Ev.cm _) rfl ?_
  refine w_isub (Ev.cm _) rfl ?_
  refine w_cstat (as := [.int l, .int 0, .int ((I 332 0) - 1)]) (st := []) (Ev.cm _) rfl rfl rfl (Nat.le_of_ble_eq_true rfl) (Nat.le_of_ble_eq_true rfl) (m_isIn ?_)
  show Wp _ _ _ _ _ _ _ 13 [(0, .ref 331), (1, .int l)] [.int (bI ((0 : Int32) ≤ l ∧ l ≤ ((I 332 0) - 1)))] (HS I L X)
  refine w_ireturn (Ev.cm _) rfl (by first | exact rok_0 | exact rok_1 | exact rok_b) rf0 ?_
  show Q (some (.int (bI ((0 : Int32) ≤ l ∧ l ≤ ((I 332 0) - 1))))) (HS I L X)
  exact q
def F_X_afterX (I : Nat → Nat → Int32) (x : Int32) : Int32 := iR ((x * 557) + 431) 30763
theorem e_X_afterX {d : Nat} {I : Nat → Nat → Int32} {L : Nat → Nat → Int64} {X : Nat × (Nat → Int32)} {x : Int32} {Q : PQ} (q : Q (some (.int (F_X_afterX I x))) (HS I L X)) : Ev (d + 1) m_X_afterX [.int x] (HS I L X) Q := by
  unfold F_X_afterX at q
  refine ev_start (d := d + 0) rfl rfl rfl (Nat.le_of_ble_eq_true rfl) ?_
  show Wp (Ev (d + 0)) cd_X_afterX (0, 0) (some .int) _ _ Q 0 [(0, .int x)] [] (HS I L X)
  refine w_iload_n (Ev.cm _) rfl rfl ?_
  refine w_sipush (Ev.cm _) rfl ?_
  refine w_imul (Ev.cm _) rfl ?_
  refine w_sipush (Ev.cm _) rfl ?_
  refine w_iadd (Ev.cm _) rfl ?_
  refine w_sipush (Ev.cm _) rfl ?_
  refine w_irem (Ev.cm _) rfl (by decide) ?_
  refine w_ireturn (Ev.cm _) rfl trivial rf0 ?_
  show Q (some (.int (iR ((x * 557) + 431) 30763))) (HS I L X)
  exact q
def F_X_goesBy (I : Nat → Nat → Int32) (draw : Int32) : Int32 := if draw = 0 then 1 else (if draw = 1 then 2 else (if draw = 2 then (-1) else 0))
theorem e_X_goesBy {d : Nat} {I : Nat → Nat → Int32} {L : Nat → Nat → Int64} {X : Nat × (Nat → Int32)} {draw : Int32} {Q : PQ} (q : Q (some (.int (F_X_goesBy I draw))) (HS I L X)) : Ev (d + 1) m_X_goesBy [.int draw] (HS I L X) Q := by
  unfold F_X_goesBy at q
  refine ev_start (d := d + 0) rfl rfl rfl (Nat.le_of_ble_eq_true rfl) ?_
  show Wp (Ev (d + 0)) cd_X_goesBy (0, 0) (some .int) _ _ Q 0 [(0, .int draw)] [] (HS I L X)
  refine w_iload_n (Ev.cm _) rfl rfl ?_
  refine w_tsw (Ev.cm _) rfl (fun c1 => ?_) ⟨fun c1 => ?_, ⟨fun c1 => ?_, ⟨fun c1 => ?_, trivial⟩⟩⟩
  · have c1_0 : ¬ draw = 0 := sw_o c1 (by decide)
    have c1_1 : ¬ draw = 1 := sw_o c1 (by decide)
    have c1_2 : ¬ draw = 2 := sw_o c1 (by decide)
    show Wp _ _ _ _ _ _ _ 34 [(0, .int draw)] [] (HS I L X)
    refine w_iconst (Ev.cm _) rfl ?_
    refine w_ireturn (Ev.cm _) rfl trivial rf0 ?_
    show Q (some (.int 0)) (HS I L X)
    rw [if_neg c1_0, if_neg c1_1, if_neg c1_2] at q
    exact q
  · have c1 : draw = 0 := sw_v c1 (by decide)
    show Wp _ _ _ _ _ _ _ 28 [(0, .int draw)] [] (HS I L X)
    refine w_iconst (Ev.cm _) rfl ?_
    refine w_ireturn (Ev.cm _) rfl trivial rf0 ?_
    show Q (some (.int 1)) (HS I L X)
    rw [if_pos c1] at q
    exact q
  · have c1 : draw = 1 := sw_v c1 (by decide)
    show Wp _ _ _ _ _ _ _ 30 [(0, .int draw)] [] (HS I L X)
    refine w_iconst (Ev.cm _) rfl ?_
    refine w_ireturn (Ev.cm _) rfl trivial rf0 ?_
    show Q (some (.int 2)) (HS I L X)
    rw [if_neg (sw_x c1 (by decide : ¬ (1 : Int32) = 0)), if_pos c1] at q
    exact q
  · have c1 : draw = 2 := sw_v c1 (by decide)
    show Wp _ _ _ _ _ _ _ 32 [(0, .int draw)] [] (HS I L X)
    refine w_iconst (Ev.cm _) rfl ?_
    refine w_ireturn (Ev.cm _) rfl trivial rf0 ?_
    show Q (some (.int (-1))) (HS I L X)
    rw [if_neg (sw_x c1 (by decide : ¬ (2 : Int32) = 0)), if_neg (sw_x c1 (by decide : ¬ (2 : Int32) = 1)), if_pos c1] at q
    exact q
def F_X_is (I : Nat → Nat → Int32) (what : Int32) : Int32 := if what = 0 then (I 2 0) else (if what = 1 then (I 2 1) else (if what = 2 then (I 2 2) else (if what = 3 then (I 2 3) else (-2))))
theorem e_X_is {d : Nat} {I : Nat → Nat → Int32} {L : Nat → Nat → Int64} {X : Nat × (Nat → Int32)} {what : Int32} {Q : PQ} (q : Q (some (.int (F_X_is I what))) (HS I L X)) : Ev (d + 1) m_X_is [.ref 0, .int what] (HS I L X) Q := by
  unfold F_X_is at q
  refine ev_start (d := d + 0) rfl rfl rfl (Nat.le_of_ble_eq_true rfl) ?_
  show Wp (Ev (d + 0)) cd_X_is (0, 0) (some .int) _ _ Q 0 [(0, .ref 0), (1, .int what)] [] (HS I L X)
  refine w_iload_n (Ev.cm _) rfl rfl ?_
  refine w_tsw (Ev.cm _) rfl (fun c1 => ?_) ⟨fun c1 => ?_, ⟨fun c1 => ?_, ⟨fun c1 => ?_, ⟨fun c1 => ?_, trivial⟩⟩⟩⟩
  · have c1_0 : ¬ what = 0 := sw_o c1 (by decide)
    have c1_1 : ¬ what = 1 := sw_o c1 (by decide)
    have c1_2 : ¬ what = 2 := sw_o c1 (by decide)
    have c1_3 : ¬ what = 3 := sw_o c1 (by decide)
    show Wp _ _ _ _ _ _ _ 76 [(0, .ref 0), (1, .int what)] [] (HS I L X)
    refine w_bipush (Ev.cm _) rfl ?_
    refine w_ireturn (Ev.cm _) rfl trivial rf0 ?_
    show Q (some (.int (-2))) (HS I L X)
    rw [if_neg c1_0, if_neg c1_1, if_neg c1_2, if_neg c1_3] at q
    exact q
  · have c1 : what = 0 := sw_v c1 (by decide)
    show Wp _ _ _ _ _ _ _ 32 [(0, .ref 0), (1, .int what)] [] (HS I L X)
    refine w_aload_n (Ev.cm _) rfl rfl ?_
    refine w_getR (q := 1) (Ev.cm _) rfl (Nat.le_of_ble_eq_true rfl) rfl rfl ?_
    refine w_getR (q := 2) (Ev.cm _) rfl (Nat.le_of_ble_eq_true rfl) rfl rfl ?_
    refine w_getI (Ev.cm _) rfl (Nat.le_of_ble_eq_true rfl) rfl ?_
    refine w_ireturn (Ev.cm _) rfl trivial rf0 ?_
    show Q (some (.int (I 2 0))) (HS I L X)
    rw [if_pos c1] at q
    exact q
  · have c1 : what = 1 := sw_v c1 (by decide)
    show Wp _ _ _ _ _ _ _ 43 [(0, .ref 0), (1, .int what)] [] (HS I L X)
    refine w_aload_n (Ev.cm _) rfl rfl ?_
    refine w_getR (q := 1) (Ev.cm _) rfl (Nat.le_of_ble_eq_true rfl) rfl rfl ?_
    refine w_getR (q := 2) (Ev.cm _) rfl (Nat.le_of_ble_eq_true rfl) rfl rfl ?_
    refine w_getI (Ev.cm _) rfl (Nat.le_of_ble_eq_true rfl) rfl ?_
    refine w_ireturn (Ev.cm _) rfl trivial rf0 ?_
    show Q (some (.int (I 2 1))) (HS I L X)
    rw [if_neg (sw_x c1 (by decide : ¬ (1 : Int32) = 0)), if_pos c1] at q
    exact q
  · have c1 : what = 2 := sw_v c1 (by decide)
    show Wp _ _ _ _ _ _ _ 54 [(0, .ref 0), (1, .int what)] [] (HS I L X)
    refine w_aload_n (Ev.cm _) rfl rfl ?_
    refine w_getR (q := 1) (Ev.cm _) rfl (Nat.le_of_ble_eq_true rfl) rfl rfl ?_
    refine w_getR (q := 2) (Ev.cm _) rfl (Nat.le_of_ble_eq_true rfl) rfl rfl ?_
    refine w_getI (Ev.cm _) rfl (Nat.le_of_ble_eq_true rfl) rfl ?_
    refine w_ireturn (Ev.cm _) rfl trivial rf0 ?_
    show Q (some (.int (I 2 2))) (HS I L X)
    rw [if_neg (sw_x c1 (by decide : ¬ (2 : Int32) = 0)), if_neg (sw_x c1 (by decide : ¬ (2 : Int32) = 1)), if_pos c1] at q
    exact q
  · have c1 : what = 3 := sw_v c1 (by decide)
    show Wp _ _ _ _ _ _ _ 65 [(0, .ref 0), (1, .int what)] [] (HS I L X)
    refine w_aload_n (Ev.cm _) rfl rfl ?_
    refine w_getR (q := 1) (Ev.cm _) rfl (Nat.le_of_ble_eq_true rfl) rfl rfl ?_
    refine w_getR (q := 2) (Ev.cm _) rfl (Nat.le_of_ble_eq_true rfl) rfl rfl ?_
    refine w_getI (Ev.cm _) rfl (Nat.le_of_ble_eq_true rfl) rfl ?_
    refine w_ireturn (Ev.cm _) rfl trivial rf0 ?_
    show Q (some (.int (I 2 3))) (HS I L X)
    rw [if_neg (sw_x c1 (by decide : ¬ (3 : Int32) = 0)), if_neg (sw_x c1 (by decide : ¬ (3 : Int32) = 1)), if_neg (sw_x c1 (by decide : ¬ (3 : Int32) = 2)), if_pos c1] at q
    exact q
def F_M_is (I : Nat → Nat → Int32) (what : Int32) : Int32 := if (0 : Int32) ≤ what ∧ what ≤ (3 : Int32) then (I 332 ((7 + what).toNatClampNeg)) else (-2)
theorem e_M_is {d : Nat} {I : Nat → Nat → Int32} {L : Nat → Nat → Int64} {X : Nat × (Nat → Int32)} {what : Int32} {Q : PQ} (q : Q (some (.int (F_M_is I what))) (HS I L X)) : Ev (d + 2) m_M_is [.ref 331, .int what] (HS I L X) Q := by
  unfold F_M_is at q
  refine ev_start (d := d + 1) rfl rfl rfl (Nat.le_of_ble_eq_true rfl) ?_
  show Wp (Ev (d + 1)) cd_M_is (0, 0) (some .int) _ _ Q 0 [(0, .ref 331), (1, .int what)] [] (HS I L X)
  refine w_iload_n (Ev.cm _) rfl rfl ?_
  refine w_iconst (Ev.cm _) rfl ?_
  refine w_iconst (Ev.cm _) rfl ?_
  refine w_cstat (as := [.int what, .int 0, .int 3]) (st := []) (Ev.cm _) rfl rfl rfl (Nat.le_of_ble_eq_true rfl) (Nat.le_of_ble_eq_true rfl) (m_isIn ?_)
  show Wp _ _ _ _ _ _ _ 6 [(0, .ref 331), (1, .int what)] [.int (bI ((0 : Int32) ≤ what ∧ what ≤ (3 : Int32)))] (HS I L X)
  refine w_if_eq (Ev.cm _) rfl (fun c1 => ?_) (fun c1 => ?_)
  · have c1 := bI_0.mp c1
    refine w_bipush (Ev.cm _) rfl ?_
    refine w_ireturn (Ev.cm _) rfl trivial rf0 ?_
    show Q (some (.int (-2))) (HS I L X)
    rw [if_neg c1] at q
    exact q
  · have c1 := bI_1.mp c1
    refine w_aload_n (Ev.cm _) rfl rfl ?_
    refine w_getR (q := 332) (Ev.cm _) rfl (Nat.le_of_ble_eq_true rfl) rfl rfl ?_
    refine w_bipush (Ev.cm _) rfl ?_
    refine w_iload_n (Ev.cm _) rfl rfl ?_
    refine w_iadd (Ev.cm _) rfl ?_
    refine w_iald (Ev.cm _) rfl (Nat.le_of_ble_eq_true rfl) rfl (show vp_in (7 + what) 1541 from vpI 1541 (by decide) (by grind) (by grind)) ?_
    refine w_goto (Ev.cm _) rfl ?_
    refine w_ireturn (Ev.cm _) rfl trivial rf0 ?_
    show Q (some (.int (I 332 ((7 + what).toNatClampNeg)))) (HS I L X)
    rw [if_pos c1] at q
    exact q
def F_X_about (I : Nat → Nat → Int32) (what : Int32) : Int32 := if what = 0 then (I 1 2) else (if what = 1 then (I 1 6) else (if what = 2 then (I 1 7) else (if what = 3 then (I 6 2) else (if what = 4 then (I 1 11) else (if what = 5 then (I 1 13) else (if what = 6 then (I 1 16) else (if what = 7 then (I 0 4) else (-2))))))))
theorem e_X_about {d : Nat} {I : Nat → Nat → Int32} {L : Nat → Nat → Int64} {X : Nat × (Nat → Int32)} {what : Int32} {Q : PQ} (q : Q (some (.int (F_X_about I what))) (HS I L X)) : Ev (d + 1) m_X_about [.ref 0, .int what] (HS I L X) Q := by
  unfold F_X_about at q
  refine ev_start (d := d + 0) rfl rfl rfl (Nat.le_of_ble_eq_true rfl) ?_
  show Wp (Ev (d + 0)) cd_X_about (0, 0) (some .int) _ _ Q 0 [(0, .ref 0), (1, .int what)] [] (HS I L X)
  refine w_iload_n (Ev.cm _) rfl rfl ?_
  refine w_tsw (Ev.cm _) rfl (fun c1 => ?_) ⟨fun c1 => ?_, ⟨fun c1 => ?_, ⟨fun c1 => ?_, ⟨fun c1 => ?_, ⟨fun c1 => ?_, ⟨fun c1 => ?_, ⟨fun c1 => ?_, ⟨fun c1 => ?_, trivial⟩⟩⟩⟩⟩⟩⟩⟩
  · have c1_0 : ¬ what = 0 := sw_o c1 (by decide)
    have c1_1 : ¬ what = 1 := sw_o c1 (by decide)
    have c1_2 : ¬ what = 2 := sw_o c1 (by decide)
    have c1_3 : ¬ what = 3 := sw_o c1 (by decide)
    have c1_4 : ¬ what = 4 := sw_o c1 (by decide)
    have c1_5 : ¬ what = 5 := sw_o c1 (by decide)
    have c1_6 : ¬ what = 6 := sw_o c1 (by decide)
    have c1_7 : ¬ what = 7 := sw_o c1 (by decide)
    show Wp _ _ _ _ _ _ _ 112 [(0, .ref 0), (1, .int what)] [] (HS I L X)
    refine w_bipush (Ev.cm _) rfl ?_
    refine w_ireturn (Ev.cm _) rfl trivial rf0 ?_
    show Q (some (.int (-2))) (HS I L X)
    rw [if_neg c1_0, if_neg c1_1, if_neg c1_2, if_neg c1_3, if_neg c1_4, if_neg c1_5, if_neg c1_6, if_neg c1_7] at q
    exact q
  · have c1 : what = 0 := sw_v c1 (by decide)
    show Wp _ _ _ _ _ _ _ 48 [(0, .ref 0), (1, .int what)] [] (HS I L X)
    refine w_aload_n (Ev.cm _) rfl rfl ?_
    refine w_getR (q := 1) (Ev.cm _) rfl (Nat.le_of_ble_eq_true rfl) rfl rfl ?_
    refine w_getI (Ev.cm _) rfl (Nat.le_of_ble_eq_true rfl) rfl ?_
    refine w_ireturn (Ev.cm _) rfl trivial rf0 ?_
    show Q (some (.int (I 1 2))) (HS I L X)
    rw [if_pos c1] at q
    exact q
  · have c1 : what = 1 := sw_v c1 (by decide)
    show Wp _ _ _ _ _ _ _ 56 [(0, .ref 0), (1, .int what)] [] (HS I L X)
    refine w_aload_n (Ev.cm _) rfl rfl ?_
    refine w_getR (q := 1) (Ev.cm _) rfl (Nat.le_of_ble_eq_true rfl) rfl rfl ?_
    refine w_getI (Ev.cm _) rfl (Nat.le_of_ble_eq_true rfl) rfl ?_
    refine w_ireturn (Ev.cm _) rfl trivial rf0 ?_
    show Q (some (.int (I 1 6))) (HS I L X)
    rw [if_neg (sw_x c1 (by decide : ¬ (1 : Int32) = 0)), if_pos c1] at q
    exact q
  · have c1 : what = 2 := sw_v c1 (by decide)
    show Wp _ _ _ _ _ _ _ 64 [(0, .ref 0), (1, .int what)] [] (HS I L X)
    refine w_aload_n (Ev.cm _) rfl rfl ?_
    refine w_getR (q := 1) (Ev.cm _) rfl (Nat.le_of_ble_eq_true rfl) rfl rfl ?_
    refine w_getI (Ev.cm _) rfl (Nat.le_of_ble_eq_true rfl) rfl ?_
    refine w_ireturn (Ev.cm _) rfl trivial rf0 ?_
    show Q (some (.int (I 1 7))) (HS I L X)
    rw [if_neg (sw_x c1 (by decide : ¬ (2 : Int32) = 0)), if_neg (sw_x c1 (by decide : ¬ (2 : Int32) = 1)), if_pos c1] at q
    exact q
  · have c1 : what = 3 := sw_v c1 (by decide)
    show Wp _ _ _ _ _ _ _ 72 [(0, .ref 0), (1, .int what)] [] (HS I L X)
    refine w_aload_n (Ev.cm _) rfl rfl ?_
    refine w_getR (q := 1) (Ev.cm _) rfl (Nat.le_of_ble_eq_true rfl) rfl rfl ?_
    refine w_getR (q := 6) (Ev.cm _) rfl (Nat.le_of_ble_eq_true rfl) rfl rfl ?_
    refine w_getI (Ev.cm _) rfl (Nat.le_of_ble_eq_true rfl) rfl ?_
    refine w_ireturn (Ev.cm _) rfl trivial rf0 ?_
    show Q (some (.int (I 6 2))) (HS I L X)
    rw [if_neg (sw_x c1 (by decide : ¬ (3 : Int32) = 0)), if_neg (sw_x c1 (by decide : ¬ (3 : Int32) = 1)), if_neg (sw_x c1 (by decide : ¬ (3 : Int32) = 2)), if_pos c1] at q
    exact q
  · have c1 : what = 4 := sw_v c1 (by decide)
    show Wp _ _ _ _ _ _ _ 83 [(0, .ref 0), (1, .int what)] [] (HS I L X)
    refine w_aload_n (Ev.cm _) rfl rfl ?_
    refine w_getR (q := 1) (Ev.cm _) rfl (Nat.le_of_ble_eq_true rfl) rfl rfl ?_
    refine w_getI (Ev.cm _) rfl (Nat.le_of_ble_eq_true rfl) rfl ?_
    refine w_ireturn (Ev.cm _) rfl trivial rf0 ?_
    show Q (some (.int (I 1 11))) (HS I L X)
    rw [if_neg (sw_x c1 (by decide : ¬ (4 : Int32) = 0)), if_neg (sw_x c1 (by decide : ¬ (4 : Int32) = 1)), if_neg (sw_x c1 (by decide : ¬ (4 : Int32) = 2)), if_neg (sw_x c1 (by decide : ¬ (4 : Int32) = 3)), if_pos c1] at q
    exact q
  · have c1 : what = 5 := sw_v c1 (by decide)
    show Wp _ _ _ _ _ _ _ 91 [(0, .ref 0), (1, .int what)] [] (HS I L X)
    refine w_aload_n (Ev.cm _) rfl rfl ?_
    refine w_getR (q := 1) (Ev.cm _) rfl (Nat.le_of_ble_eq_true rfl) rfl rfl ?_
    refine w_getI (Ev.cm _) rfl (Nat.le_of_ble_eq_true rfl) rfl ?_
    refine w_ireturn (Ev.cm _) rfl trivial rf0 ?_
    show Q (some (.int (I 1 13))) (HS I L X)
    rw [if_neg (sw_x c1 (by decide : ¬ (5 : Int32) = 0)), if_neg (sw_x c1 (by decide : ¬ (5 : Int32) = 1)), if_neg (sw_x c1 (by decide : ¬ (5 : Int32) = 2)), if_neg (sw_x c1 (by decide : ¬ (5 : Int32) = 3)), if_neg (sw_x c1 (by decide : ¬ (5 : Int32) = 4)), if_pos c1] at q
    exact q
  · have c1 : what = 6 := sw_v c1 (by decide)
    show Wp _ _ _ _ _ _ _ 99 [(0, .ref 0), (1, .int what)] [] (HS I L X)
    refine w_aload_n (Ev.cm _) rfl rfl ?_
    refine w_getR (q := 1) (Ev.cm _) rfl (Nat.le_of_ble_eq_true rfl) rfl rfl ?_
    refine w_getI (Ev.cm _) rfl (Nat.le_of_ble_eq_true rfl) rfl ?_
    refine w_ireturn (Ev.cm _) rfl trivial rf0 ?_
    show Q (some (.int (I 1 16))) (HS I L X)
    rw [if_neg (sw_x c1 (by decide : ¬ (6 : Int32) = 0)), if_neg (sw_x c1 (by decide : ¬ (6 : Int32) = 1)), if_neg (sw_x c1 (by decide : ¬ (6 : Int32) = 2)), if_neg (sw_x c1 (by decide : ¬ (6 : Int32) = 3)), if_neg (sw_x c1 (by decide : ¬ (6 : Int32) = 4)), if_neg (sw_x c1 (by decide : ¬ (6 : Int32) = 5)), if_pos c1] at q
    exact q
  · have c1 : what = 7 := sw_v c1 (by decide)
    show Wp _ _ _ _ _ _ _ 107 [(0, .ref 0), (1, .int what)] [] (HS I L X)
    refine w_aload_n (Ev.cm _) rfl rfl ?_
    refine w_getI (Ev.cm _) rfl (Nat.le_of_ble_eq_true rfl) rfl ?_
    refine w_ireturn (Ev.cm _) rfl trivial rf0 ?_
    show Q (some (.int (I 0 4))) (HS I L X)
    rw [if_neg (sw_x c1 (by decide : ¬ (7 : Int32) = 0)), if_neg (sw_x c1 (by decide : ¬ (7 : Int32) = 1)), if_neg (sw_x c1 (by decide : ¬ (7 : Int32) = 2)), if_neg (sw_x c1 (by decide : ¬ (7 : Int32) = 3)), if_neg (sw_x c1 (by decide : ¬ (7 : Int32) = 4)), if_neg (sw_x c1 (by decide : ¬ (7 : Int32) = 5)), if_neg (sw_x c1 (by decide : ¬ (7 : Int32) = 6)), if_pos c1] at q
    exact q
