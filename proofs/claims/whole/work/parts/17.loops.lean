/-! methods with loops, read back by program -/
def LO_M_bits_4 (fu : Nat) : Nat → Int32 → Int32 → Int32 → (Nat → Nat → Int32) → (Nat → Nat → Int64) → Option (Int32 × (Nat → Nat → Int32) × (Nat → Nat → Int64))
  | 0, _, _, _, _, _ => none
  | n + 1, x0, x1, x2, I, L => if x2 = 0 then (some (x1, I, L)) else (LO_M_bits_4 fu n x0 (x1 + 1) (x2 &&& (x2 - 1)) I L)
theorem lo_M_bits_4 {d fu n0 s0 : Nat} {X : Nat × (Nat → Int32)} {Q : PQ} {res : Int32 × (Nat → Nat → Int32) × (Nat → Nat → Int64)} (g : Q (some (.int res.1)) (HS res.2.1 res.2.2 X)) : ∀ (n : Nat) (x0 : Int32) (x1 : Int32) (x2 : Int32) (I : Nat → Nat → Int32) (L : Nat → Nat → Int64), LO_M_bits_4 fu n x0 x1 x2 I L = some res → Wp (Ev (d + 0)) cd_M_bits (0, 0) (some .int) n0 s0 Q 4 [(0, .int x0), (1, .int x1), (2, .int x2)] [] (HS I L X) := by
  intro n
  induction n with
  | zero => intro _ _ _ _ _ q; cases q
  | succ n ih =>
    intro x0 x1 x2 I L q
    unfold LO_M_bits_4 at q
    refine w_iload_n (Ev.cm _) rfl rfl ?_
    refine w_if_eq (Ev.cm _) rfl (fun c1 => ?_) (fun c1 => ?_)
    · rw [if_pos c1] at q
      refine w_iload_n (Ev.cm _) rfl rfl ?_
      refine w_ireturn (Ev.cm _) rfl trivial rf0 ?_
      cases q
      exact g
    · rw [if_neg c1] at q
      refine w_iinc (ls2 := [(0, .int x0), (1, .int (x1 + 1)), (2, .int x2)]) (Ev.cm _) rfl rfl rfl ?_
      refine w_iload_n (Ev.cm _) rfl rfl ?_
      refine w_iload_n (Ev.cm _) rfl rfl ?_
      refine w_iconst (Ev.cm _) rfl ?_
      refine w_isub (Ev.cm _) rfl ?_
      refine w_iand (Ev.cm _) rfl ?_
      refine w_istore_n (ls2 := [(0, .int x0), (1, .int (x1 + 1)), (2, .int (x2 &&& (x2 - 1)))]) (Ev.cm _) rfl rfl ?_
      refine w_goto (Ev.cm _) rfl ?_
      show Wp _ _ _ _ _ _ _ 4 [(0, .int x0), (1, .int (x1 + 1)), (2, .int (x2 &&& (x2 - 1)))] [] (HS I L X)
      refine Wp.sub [0, 1, 2] (ls2 := [(0, .int x0), (1, .int (x1 + 1)), (2, .int (x2 &&& (x2 - 1)))]) rfl ?_
      exact ih _ _ _ _ _ q
def FO_M_bits (fu : Nat) (set : Int32) (I : Nat → Nat → Int32) (L : Nat → Nat → Int64) : Option (Int32 × (Nat → Nat → Int32) × (Nat → Nat → Int64)) := LO_M_bits_4 fu fu set 0 set I L
theorem eo_M_bits {d fu : Nat} {set : Int32} {I : Nat → Nat → Int32} {L : Nat → Nat → Int64} {X : Nat × (Nat → Int32)} {Q : PQ} {res : Int32 × (Nat → Nat → Int32) × (Nat → Nat → Int64)} (g : Q (some (.int res.1)) (HS res.2.1 res.2.2 X)) (q : FO_M_bits fu set I L = some res) : Ev (d + 1) m_M_bits [.int set] (HS I L X) Q := by
  unfold FO_M_bits at q
  refine ev_start (d := d + 0) rfl rfl rfl (Nat.le_of_ble_eq_true rfl) ?_
  show Wp (Ev (d + 0)) cd_M_bits (0, 0) (some .int) _ _ Q 0 [(0, .int set)] [] (HS I L X)
  refine w_iconst (Ev.cm _) rfl ?_
  refine w_istore_n (ls2 := [(0, .int set), (1, .int 0)]) (Ev.cm _) rfl rfl ?_
  refine w_iload_n (Ev.cm _) rfl rfl ?_
  refine w_istore_n (ls2 := [(0, .int set), (1, .int 0), (2, .int set)]) (Ev.cm _) rfl rfl ?_
  show Wp _ _ _ _ _ _ _ 4 [(0, .int set), (1, .int 0), (2, .int set)] [] (HS I L X)
  refine Wp.sub [0, 1, 2] (ls2 := [(0, .int set), (1, .int 0), (2, .int set)]) rfl ?_
  exact lo_M_bits_4 g fu _ _ _ _ _ q
def LO_C_lengthOf_4 (fu : Nat) : Nat → Int32 → Int32 → Int32 → (Nat → Nat → Int32) → (Nat → Nat → Int64) → Option (Int32 × (Nat → Nat → Int32) × (Nat → Nat → Int64))
  | 0, _, _, _, _, _ => none
  | n + 1, x0, x1, x2, I, L => if x2 ≤ 1 then (some (x1, I, L)) else (if 8 ≤ x1 then (some (x1, I, L)) else (LO_C_lengthOf_4 fu n x0 (x1 + 1) (x2 >>> (1 &&& 31)) I L))
theorem lo_C_lengthOf_4 {d fu n0 s0 : Nat} {X : Nat × (Nat → Int32)} {Q : PQ} {res : Int32 × (Nat → Nat → Int32) × (Nat → Nat → Int64)} (g : Q (some (.int res.1)) (HS res.2.1 res.2.2 X)) : ∀ (n : Nat) (x0 : Int32) (x1 : Int32) (x2 : Int32) (I : Nat → Nat → Int32) (L : Nat → Nat → Int64), LO_C_lengthOf_4 fu n x0 x1 x2 I L = some res → Wp (Ev (d + 0)) cd_C_lengthOf (0, 0) (some .int) n0 s0 Q 4 [(0, .int x0), (1, .int x1), (2, .int x2)] [] (HS I L X) := by
  intro n
  induction n with
  | zero => intro _ _ _ _ _ q; cases q
  | succ n ih =>
    intro x0 x1 x2 I L q
    unfold LO_C_lengthOf_4 at q
    refine w_iload_n (Ev.cm _) rfl rfl ?_
    refine w_iconst (Ev.cm _) rfl ?_
    refine w_icmp_le (Ev.cm _) rfl (fun c1 => ?_) (fun c1 => ?_)
    · rw [if_pos c1] at q
      refine w_iload_n (Ev.cm _) rfl rfl ?_
      refine w_ireturn (Ev.cm _) rfl trivial rf0 ?_
      cases q
      exact g
    · rw [if_neg c1] at q
      refine w_iload_n (Ev.cm _) rfl rfl ?_
      refine w_bipush (Ev.cm _) rfl ?_
      refine w_icmp_ge (Ev.cm _) rfl (fun c2 => ?_) (fun c2 => ?_)
      · rw [if_pos c2] at q
        refine w_iload_n (Ev.cm _) rfl rfl ?_
        refine w_ireturn (Ev.cm _) rfl trivial rf0 ?_
        cases q
        exact g
      · rw [if_neg c2] at q
        refine w_iinc (ls2 := [(0, .int x0), (1, .int (x1 + 1)), (2, .int x2)]) (Ev.cm _) rfl rfl rfl ?_
        refine w_iload_n (Ev.cm _) rfl rfl ?_
        refine w_iconst (Ev.cm _) rfl ?_
        refine w_ishr (Ev.cm _) rfl ?_
        refine w_istore_n (ls2 := [(0, .int x0), (1, .int (x1 + 1)), (2, .int (x2 >>> (1 &&& 31)))]) (Ev.cm _) rfl rfl ?_
        refine w_goto (Ev.cm _) rfl ?_
        show Wp _ _ _ _ _ _ _ 4 [(0, .int x0), (1, .int (x1 + 1)), (2, .int (x2 >>> (1 &&& 31)))] [] (HS I L X)
        refine Wp.sub [0, 1, 2] (ls2 := [(0, .int x0), (1, .int (x1 + 1)), (2, .int (x2 >>> (1 &&& 31)))]) rfl ?_
        exact ih _ _ _ _ _ q
def FO_C_lengthOf (fu : Nat) (key : Int32) (I : Nat → Nat → Int32) (L : Nat → Nat → Int64) : Option (Int32 × (Nat → Nat → Int32) × (Nat → Nat → Int64)) := LO_C_lengthOf_4 fu fu key 0 key I L
theorem eo_C_lengthOf {d fu : Nat} {key : Int32} {I : Nat → Nat → Int32} {L : Nat → Nat → Int64} {X : Nat × (Nat → Int32)} {Q : PQ} {res : Int32 × (Nat → Nat → Int32) × (Nat → Nat → Int64)} (g : Q (some (.int res.1)) (HS res.2.1 res.2.2 X)) (q : FO_C_lengthOf fu key I L = some res) : Ev (d + 1) m_C_lengthOf [.int key] (HS I L X) Q := by
  unfold FO_C_lengthOf at q
  refine ev_start (d := d + 0) rfl rfl rfl (Nat.le_of_ble_eq_true rfl) ?_
  show Wp (Ev (d + 0)) cd_C_lengthOf (0, 0) (some .int) _ _ Q 0 [(0, .int key)] [] (HS I L X)
  refine w_iconst (Ev.cm _) rfl ?_
  refine w_istore_n (ls2 := [(0, .int key), (1, .int 0)]) (Ev.cm _) rfl rfl ?_
  refine w_iload_n (Ev.cm _) rfl rfl ?_
  refine w_istore_n (ls2 := [(0, .int key), (1, .int 0), (2, .int key)]) (Ev.cm _) rfl rfl ?_
  show Wp _ _ _ _ _ _ _ 4 [(0, .int key), (1, .int 0), (2, .int key)] [] (HS I L X)
  refine Wp.sub [0, 1, 2] (ls2 := [(0, .int key), (1, .int 0), (2, .int key)]) rfl ?_
  exact lo_C_lengthOf_4 g fu _ _ _ _ _ q
def LO_X_doubles_14 (fu : Nat) (k_4 : Int32 → Int32 → (Nat → Nat → Int32) → (Nat → Nat → Int64) → Option (Int32 × (Nat → Nat → Int32) × (Nat → Nat → Int64))) : Nat → Int32 → Int32 → Int32 → (Nat → Nat → Int32) → (Nat → Nat → Int64) → Option (Int32 × (Nat → Nat → Int32) × (Nat → Nat → Int64))
  | 0, _, _, _, _, _ => none
  | n + 1, x1, x2, x3, I, L => if x2 ≤ x3 then (k_4 x1 (x2 + 1) I L) else (if 0 ≤ x2 ∧ x2 < 6 then (if 0 ≤ x3 ∧ x3 < 6 then (if I 3 x2.toNatClampNeg = I 3 x3.toNatClampNeg then (LO_X_doubles_14 fu k_4 n (x1 + 1) x2 (x3 + 1) I L) else (LO_X_doubles_14 fu k_4 n x1 x2 (x3 + 1) I L)) else none) else none)
theorem lo_X_doubles_14 {d fu n0 s0 : Nat} {X : Nat × (Nat → Int32)} {Q : PQ} {k_4 : Int32 → Int32 → (Nat → Nat → Int32) → (Nat → Nat → Int64) → Option (Int32 × (Nat → Nat → Int32) × (Nat → Nat → Int64))} {res : Int32 × (Nat → Nat → Int32) × (Nat → Nat → Int64)} (g : Q (some (.int res.1)) (HS res.2.1 res.2.2 X)) (hk_4 : ∀ (x1 : Int32) (x2 : Int32) (I : Nat → Nat → Int32) (L : Nat → Nat → Int64), k_4 x1 x2 I L = some res → Wp (Ev (d + 2)) cd_X_doubles (0, 0) (some .int) n0 s0 Q 4 [(0, .ref 0), (1, .int x1), (2, .int x2)] [] (HS I L X)) : ∀ (n : Nat) (x1 : Int32) (x2 : Int32) (x3 : Int32) (I : Nat → Nat → Int32) (L : Nat → Nat → Int64), LO_X_doubles_14 fu k_4 n x1 x2 x3 I L = some res → Wp (Ev (d + 2)) cd_X_doubles (0, 0) (some .int) n0 s0 Q 14 [(0, .ref 0), (1, .int x1), (2, .int x2), (3, .int x3)] [] (HS I L X) := by
  intro n
  induction n with
  | zero => intro _ _ _ _ _ q; cases q
  | succ n ih =>
    intro x1 x2 x3 I L q
    unfold LO_X_doubles_14 at q
    refine w_iload_n (Ev.cm _) rfl rfl ?_
    refine w_iload_n (Ev.cm _) rfl rfl ?_
    refine w_icmp_ge (Ev.cm _) rfl (fun c1 => ?_) (fun c1 => ?_)
    · rw [if_pos c1] at q
      refine w_iinc (ls2 := [(0, .ref 0), (1, .int x1), (2, .int (x2 + 1)), (3, .int x3)]) (Ev.cm _) rfl rfl rfl ?_
      refine w_goto (Ev.cm _) rfl ?_
      show Wp _ _ _ _ _ _ _ 4 [(0, .ref 0), (1, .int x1), (2, .int (x2 + 1)), (3, .int x3)] [] (HS I L X)
      refine Wp.sub [0, 1, 2] (ls2 := [(0, .ref 0), (1, .int x1), (2, .int (x2 + 1))]) rfl ?_
      exact hk_4 _ _ _ _ q
    · rw [if_neg c1] at q
      refine w_aload_n (Ev.cm _) rfl rfl ?_
      refine w_getR (q := 1) (Ev.cm _) rfl (Nat.le_of_ble_eq_true rfl) rfl rfl ?_
      refine w_getR (q := 2) (Ev.cm _) rfl (Nat.le_of_ble_eq_true rfl) rfl rfl ?_
      refine w_getR (q := 3) (Ev.cm _) rfl (Nat.le_of_ble_eq_true rfl) rfl rfl ?_
      refine w_iload_n (Ev.cm _) rfl rfl ?_
      obtain ⟨b1, q⟩ := ois q
      refine w_iald (Ev.cm _) rfl (Nat.le_of_ble_eq_true rfl) rfl (show vp_in x2 6 from vpI 6 (by decide) b1.1 b1.2) ?_
      refine w_aload_n (Ev.cm _) rfl rfl ?_
      refine w_getR (q := 1) (Ev.cm _) rfl (Nat.le_of_ble_eq_true rfl) rfl rfl ?_
      refine w_getR (q := 2) (Ev.cm _) rfl (Nat.le_of_ble_eq_true rfl) rfl rfl ?_
      refine w_getR (q := 3) (Ev.cm _) rfl (Nat.le_of_ble_eq_true rfl) rfl rfl ?_
      refine w_iload_n (Ev.cm _) rfl rfl ?_
      obtain ⟨b2, q⟩ := ois q
      refine w_iald (Ev.cm _) rfl (Nat.le_of_ble_eq_true rfl) rfl (show vp_in x3 6 from vpI 6 (by decide) b2.1 b2.2) ?_
      refine w_icmp_ne (Ev.cm _) rfl (fun c2 => ?_) (fun c2 => ?_)
      · rw [if_neg c2] at q
        refine w_iinc (ls2 := [(0, .ref 0), (1, .int x1), (2, .int x2), (3, .int (x3 + 1))]) (Ev.cm _) rfl rfl rfl ?_
        refine w_goto (Ev.cm _) rfl ?_
        show Wp _ _ _ _ _ _ _ 14 [(0, .ref 0), (1, .int x1), (2, .int x2), (3, .int (x3 + 1))] [] (HS I L X)
        refine Wp.sub [0, 1, 2, 3] (ls2 := [(0, .ref 0), (1, .int x1), (2, .int x2), (3, .int (x3 + 1))]) rfl ?_
        exact ih _ _ _ _ _ q
      · rw [if_pos c2] at q
        refine w_iinc (ls2 := [(0, .ref 0), (1, .int (x1 + 1)), (2, .int x2), (3, .int x3)]) (Ev.cm _) rfl rfl rfl ?_
        refine w_iinc (ls2 := [(0, .ref 0), (1, .int (x1 + 1)), (2, .int x2), (3, .int (x3 + 1))]) (Ev.cm _) rfl rfl rfl ?_
        refine w_goto (Ev.cm _) rfl ?_
        show Wp _ _ _ _ _ _ _ 14 [(0, .ref 0), (1, .int (x1 + 1)), (2, .int x2), (3, .int (x3 + 1))] [] (HS I L X)
        refine Wp.sub [0, 1, 2, 3] (ls2 := [(0, .ref 0), (1, .int (x1 + 1)), (2, .int x2), (3, .int (x3 + 1))]) rfl ?_
        exact ih _ _ _ _ _ q
def LO_X_doubles_4 (fu : Nat) : Nat → Int32 → Int32 → (Nat → Nat → Int32) → (Nat → Nat → Int64) → Option (Int32 × (Nat → Nat → Int32) × (Nat → Nat → Int64))
  | 0, _, _, _, _ => none
  | n + 1, x1, x2, I, L => if F_X_tenants I  ≤ x2 then (some (x1, I, L)) else (LO_X_doubles_14 fu (fun x1 x2 I L => LO_X_doubles_4 fu n x1 x2 I L) fu x1 x2 0 I L)
theorem lo_X_doubles_4 {d fu n0 s0 : Nat} {X : Nat × (Nat → Int32)} {Q : PQ} {res : Int32 × (Nat → Nat → Int32) × (Nat → Nat → Int64)} (g : Q (some (.int res.1)) (HS res.2.1 res.2.2 X)) : ∀ (n : Nat) (x1 : Int32) (x2 : Int32) (I : Nat → Nat → Int32) (L : Nat → Nat → Int64), LO_X_doubles_4 fu n x1 x2 I L = some res → Wp (Ev (d + 2)) cd_X_doubles (0, 0) (some .int) n0 s0 Q 4 [(0, .ref 0), (1, .int x1), (2, .int x2)] [] (HS I L X) := by
  intro n
  induction n with
  | zero => intro _ _ _ _ q; cases q
  | succ n ih =>
    intro x1 x2 I L q
    unfold LO_X_doubles_4 at q
    refine w_iload_n (Ev.cm _) rfl rfl ?_
    refine w_aload_n (Ev.cm _) rfl rfl ?_
    refine w_cvirt (o := 0) (as := []) (st := [.int x2]) (Ev.cm _) rfl rfl rfl (Nat.le_of_ble_eq_true rfl) (Nat.le_of_ble_eq_true rfl) rfl (Nat.le_of_ble_eq_true rfl) (e_X_tenants ?_)
    show Wp _ _ _ _ _ _ _ 9 [(0, .ref 0), (1, .int x1), (2, .int x2)] [.int (F_X_tenants I ), .int x2] (HS I L X)
    refine w_icmp_ge (Ev.cm _) rfl (fun c1 => ?_) (fun c1 => ?_)
    · rw [if_pos c1] at q
      refine w_iload_n (Ev.cm _) rfl rfl ?_
      refine w_ireturn (Ev.cm _) rfl trivial rf0 ?_
      cases q
      exact g
    · rw [if_neg c1] at q
      refine w_iconst (Ev.cm _) rfl ?_
      refine w_istore_n (ls2 := [(0, .ref 0), (1, .int x1), (2, .int x2), (3, .int 0)]) (Ev.cm _) rfl rfl ?_
      show Wp _ _ _ _ _ _ _ 14 [(0, .ref 0), (1, .int x1), (2, .int x2), (3, .int 0)] [] (HS I L X)
      refine Wp.sub [0, 1, 2, 3] (ls2 := [(0, .ref 0), (1, .int x1), (2, .int x2), (3, .int 0)]) rfl ?_
      exact lo_X_doubles_14 g (fun x1 x2 I L q => ih x1 x2 I L q) fu _ _ _ _ _ q
def FO_X_doubles (fu : Nat) (I : Nat → Nat → Int32) (L : Nat → Nat → Int64) : Option (Int32 × (Nat → Nat → Int32) × (Nat → Nat → Int64)) := LO_X_doubles_4 fu fu 0 0 I L
theorem eo_X_doubles {d fu : Nat} {I : Nat → Nat → Int32} {L : Nat → Nat → Int64} {X : Nat × (Nat → Int32)} {Q : PQ} {res : Int32 × (Nat → Nat → Int32) × (Nat → Nat → Int64)} (g : Q (some (.int res.1)) (HS res.2.1 res.2.2 X)) (q : FO_X_doubles fu  I L = some res) : Ev (d + 3) m_X_doubles [.ref 0] (HS I L X) Q := by
  unfold FO_X_doubles at q
  refine ev_start (d := d + 2) rfl rfl rfl (Nat.le_of_ble_eq_true rfl) ?_
  show Wp (Ev (d + 2)) cd_X_doubles (0, 0) (some .int) _ _ Q 0 [(0, .ref 0)] [] (HS I L X)
  refine w_iconst (Ev.cm _) rfl ?_
  refine w_istore_n (ls2 := [(0, .ref 0), (1, .int 0)]) (Ev.cm _) rfl rfl ?_
  refine w_iconst (Ev.cm _) rfl ?_
  refine w_istore_n (ls2 := [(0, .ref 0), (1, .int 0), (2, .int 0)]) (Ev.cm _) rfl rfl ?_
  show Wp _ _ _ _ _ _ _ 4 [(0, .ref 0), (1, .int 0), (2, .int 0)] [] (HS I L X)
  refine Wp.sub [0, 1, 2] (ls2 := [(0, .ref 0), (1, .int 0), (2, .int 0)]) rfl ?_
  exact lo_X_doubles_4 g fu _ _ _ _ q
def LO_X_home_4 (fu : Nat) : Nat → Int32 → Int32 → (Nat → Nat → Int32) → (Nat → Nat → Int64) → Option (Int32 × (Nat → Nat → Int32) × (Nat → Nat → Int64))
  | 0, _, _, _, _ => none
  | n + 1, x1, x2, I, L => if F_X_tenants I  ≤ x2 then (some (x1, I, L)) else (if 0 ≤ x2 ∧ x2 < 6 then (if 0 ≤ x2 ∧ x2 < 6 then (if I 3 x2.toNatClampNeg = I 129 x2.toNatClampNeg then (LO_X_home_4 fu n (x1 ||| (1 <<< (x2 &&& 31))) (x2 + 1) I L) else (LO_X_home_4 fu n x1 (x2 + 1) I L)) else none) else none)
theorem lo_X_home_4 {d fu n0 s0 : Nat} {X : Nat × (Nat → Int32)} {Q : PQ} {res : Int32 × (Nat → Nat → Int32) × (Nat → Nat → Int64)} (g : Q (some (.int res.1)) (HS res.2.1 res.2.2 X)) : ∀ (n : Nat) (x1 : Int32) (x2 : Int32) (I : Nat → Nat → Int32) (L : Nat → Nat → Int64), LO_X_home_4 fu n x1 x2 I L = some res → Wp (Ev (d + 2)) cd_X_home (0, 0) (some .int) n0 s0 Q 4 [(0, .ref 0), (1, .int x1), (2, .int x2)] [] (HS I L X) := by
  intro n
  induction n with
  | zero => intro _ _ _ _ q; cases q
  | succ n ih =>
    intro x1 x2 I L q
    unfold LO_X_home_4 at q
    refine w_iload_n (Ev.cm _) rfl rfl ?_
    refine w_aload_n (Ev.cm _) rfl rfl ?_
    refine w_cvirt (o := 0) (as := []) (st := [.int x2]) (Ev.cm _) rfl rfl rfl (Nat.le_of_ble_eq_true rfl) (Nat.le_of_ble_eq_true rfl) rfl (Nat.le_of_ble_eq_true rfl) (e_X_tenants ?_)
    show Wp _ _ _ _ _ _ _ 9 [(0, .ref 0), (1, .int x1), (2, .int x2)] [.int (F_X_tenants I ), .int x2] (HS I L X)
    refine w_icmp_ge (Ev.cm _) rfl (fun c1 => ?_) (fun c1 => ?_)
    · rw [if_pos c1] at q
      refine w_iload_n (Ev.cm _) rfl rfl ?_
      refine w_ireturn (Ev.cm _) rfl trivial rf0 ?_
      cases q
      exact g
    · rw [if_neg c1] at q
      refine w_aload_n (Ev.cm _) rfl rfl ?_
      refine w_getR (q := 1) (Ev.cm _) rfl (Nat.le_of_ble_eq_true rfl) rfl rfl ?_
      refine w_getR (q := 2) (Ev.cm _) rfl (Nat.le_of_ble_eq_true rfl) rfl rfl ?_
      refine w_getR (q := 3) (Ev.cm _) rfl (Nat.le_of_ble_eq_true rfl) rfl rfl ?_
      refine w_iload_n (Ev.cm _) rfl rfl ?_
      obtain ⟨b1, q⟩ := ois q
      refine w_iald (Ev.cm _) rfl (Nat.le_of_ble_eq_true rfl) rfl (show vp_in x2 6 from vpI 6 (by decide) b1.1 b1.2) ?_
      refine w_aload_n (Ev.cm _) rfl rfl ?_
      refine w_getR (q := 1) (Ev.cm _) rfl (Nat.le_of_ble_eq_true rfl) rfl rfl ?_
      refine w_getR (q := 129) (Ev.cm _) rfl (Nat.le_of_ble_eq_true rfl) rfl rfl ?_
      refine w_iload_n (Ev.cm _) rfl rfl ?_
      obtain ⟨b2, q⟩ := ois q
      refine w_iald (Ev.cm _) rfl (Nat.le_of_ble_eq_true rfl) rfl (show vp_in x2 6 from vpI 6 (by decide) b2.1 b2.2) ?_
      refine w_icmp_ne (Ev.cm _) rfl (fun c2 => ?_) (fun c2 => ?_)
      · rw [if_neg c2] at q
        refine w_iinc (ls2 := [(0, .ref 0), (1, .int x1), (2, .int (x2 + 1))]) (Ev.cm _) rfl rfl rfl ?_
        refine w_goto (Ev.cm _) rfl ?_
        show Wp _ _ _ _ _ _ _ 4 [(0, .ref 0), (1, .int x1), (2, .int (x2 + 1))] [] (HS I L X)
        refine Wp.sub [0, 1, 2] (ls2 := [(0, .ref 0), (1, .int x1), (2, .int (x2 + 1))]) rfl ?_
        exact ih _ _ _ _ q
      · rw [if_pos c2] at q
        refine w_iload_n (Ev.cm _) rfl rfl ?_
        refine w_iconst (Ev.cm _) rfl ?_
        refine w_iload_n (Ev.cm _) rfl rfl ?_
        refine w_ishl (Ev.cm _) rfl ?_
        refine w_ior (Ev.cm _) rfl ?_
        refine w_istore_n (ls2 := [(0, .ref 0), (1, .int (x1 ||| (1 <<< (x2 &&& 31)))), (2, .int x2)]) (Ev.cm _) rfl rfl ?_
        refine w_iinc (ls2 := [(0, .ref 0), (1, .int (x1 ||| (1 <<< (x2 &&& 31)))), (2, .int (x2 + 1))]) (Ev.cm _) rfl rfl rfl ?_
        refine w_goto (Ev.cm _) rfl ?_
        show Wp _ _ _ _ _ _ _ 4 [(0, .ref 0), (1, .int (x1 ||| (1 <<< (x2 &&& 31)))), (2, .int (x2 + 1))] [] (HS I L X)
        refine Wp.sub [0, 1, 2] (ls2 := [(0, .ref 0), (1, .int (x1 ||| (1 <<< (x2 &&& 31)))), (2, .int (x2 + 1))]) rfl ?_
        exact ih _ _ _ _ q
def FO_X_home (fu : Nat) (I : Nat → Nat → Int32) (L : Nat → Nat → Int64) : Option (Int32 × (Nat → Nat → Int32) × (Nat → Nat → Int64)) := LO_X_home_4 fu fu 0 0 I L
theorem eo_X_home {d fu : Nat} {I : Nat → Nat → Int32} {L : Nat → Nat → Int64} {X : Nat × (Nat → Int32)} {Q : PQ} {res : Int32 × (Nat → Nat → Int32) × (Nat → Nat → Int64)} (g : Q (some (.int res.1)) (HS res.2.1 res.2.2 X)) (q : FO_X_home fu  I L = some res) : Ev (d + 3) m_X_home [.ref 0] (HS I L X) Q := by
  unfold FO_X_home at q
  refine ev_start (d := d + 2) rfl rfl rfl (Nat.le_of_ble_eq_true rfl) ?_
  show Wp (Ev (d + 2)) cd_X_home (0, 0) (some .int) _ _ Q 0 [(0, .ref 0)] [] (HS I L X)
  refine w_iconst (Ev.cm _) rfl ?_
  refine w_istore_n (ls2 := [(0, .ref 0), (1, .int 0)]) (Ev.cm _) rfl rfl ?_
  refine w_iconst (Ev.cm _) rfl ?_
  refine w_istore_n (ls2 := [(0, .ref 0), (1, .int 0), (2, .int 0)]) (Ev.cm _) rfl rfl ?_
  show Wp _ _ _ _ _ _ _ 4 [(0, .ref 0), (1, .int 0), (2, .int 0)] [] (HS I L X)
  refine Wp.sub [0, 1, 2] (ls2 := [(0, .ref 0), (1, .int 0), (2, .int 0)]) rfl ?_
  exact lo_X_home_4 g fu _ _ _ _ q
