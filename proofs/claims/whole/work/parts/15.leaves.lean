/-! leaves: methods without loops that ask a few numbers -/
theorem x_within {d : Nat} {n : Int32} {lo : Int32} {hi : Int32} {h : PH} {Q : PQ} (q : Q (some (.int (bI (lo ≤ n ∧ n ≤ hi)))) h) : Ev (d + 1) m_X_within [.int n, .int lo, .int hi] h Q := by
  refine ev_start (d := d + 0) rfl rfl rfl (Nat.le_of_ble_eq_true rfl) ?_
  show Wp (Ev (d + 0)) cd_X_within (0, 0) (some .boolean) _ _ Q 0 [(0, .int n), (1, .int lo), (2, .int hi)] [] h
  refine w_iload_n (Ev.cm _) rfl rfl ?_
  refine w_iload_n (Ev.cm _) rfl rfl ?_
  refine w_icmp_lt (Ev.cm _) rfl (fun c1 => ?_) (fun c1 => ?_)
  · refine w_iconst (Ev.cm _) rfl ?_
    refine w_ireturn (Ev.cm _) rfl (by first | exact rok_0 | exact rok_1 | exact rok_b) rf0 ?_
    show Q (some (.int 0)) h
    refine qv q ?_
    first | refine bI_f ?_ | refine bI_t ?_
    grind
  · refine w_iload_n (Ev.cm _) rfl rfl ?_
    refine w_iload_n (Ev.cm _) rfl rfl ?_
    refine w_icmp_gt (Ev.cm _) rfl (fun c2 => ?_) (fun c2 => ?_)
    · refine w_iconst (Ev.cm _) rfl ?_
      refine w_ireturn (Ev.cm _) rfl (by first | exact rok_0 | exact rok_1 | exact rok_b) rf0 ?_
      show Q (some (.int 0)) h
      refine qv q ?_
      first | refine bI_f ?_ | refine bI_t ?_
      grind
    · refine w_iconst (Ev.cm _) rfl ?_
      refine w_goto (Ev.cm _) rfl ?_
      refine w_ireturn (Ev.cm _) rfl (by first | exact rok_0 | exact rok_1 | exact rok_b) rf0 ?_
      show Q (some (.int 1)) h
      refine qv q ?_
      first | refine bI_f ?_ | refine bI_t ?_
      grind
theorem m_isIn {d : Nat} {n : Int32} {lo : Int32} {hi : Int32} {h : PH} {Q : PQ} (q : Q (some (.int (bI (lo ≤ n ∧ n ≤ hi)))) h) : Ev (d + 1) m_M_isIn [.int n, .int lo, .int hi] h Q := by
  refine ev_start (d := d + 0) rfl rfl rfl (Nat.le_of_ble_eq_true rfl) ?_
  show Wp (Ev (d + 0)) cd_M_isIn (0, 0) (some .boolean) _ _ Q 0 [(0, .int n), (1, .int lo), (2, .int hi)] [] h
  refine w_iload_n (Ev.cm _) rfl rfl ?_
  refine w_iload_n (Ev.cm _) rfl rfl ?_
  refine w_icmp_lt (Ev.cm _) rfl (fun c1 => ?_) (fun c1 => ?_)
  · refine w_iconst (Ev.cm _) rfl ?_
    refine w_ireturn (Ev.cm _) rfl (by first | exact rok_0 | exact rok_1 | exact rok_b) rf0 ?_
    show Q (some (.int 0)) h
    refine qv q ?_
    first | refine bI_f ?_ | refine bI_t ?_
    grind
  · refine w_iload_n (Ev.cm _) rfl rfl ?_
    refine w_iload_n (Ev.cm _) rfl rfl ?_
    refine w_icmp_gt (Ev.cm _) rfl (fun c2 => ?_) (fun c2 => ?_)
    · refine w_iconst (Ev.cm _) rfl ?_
      refine w_ireturn (Ev.cm _) rfl (by first | exact rok_0 | exact rok_1 | exact rok_b) rf0 ?_
      show Q (some (.int 0)) h
      refine qv q ?_
      first | refine bI_f ?_ | refine bI_t ?_
      grind
    · refine w_iconst (Ev.cm _) rfl ?_
      refine w_goto (Ev.cm _) rfl ?_
      refine w_ireturn (Ev.cm _) rfl (by first | exact rok_0 | exact rok_1 | exact rok_b) rf0 ?_
      show Q (some (.int 1)) h
      refine qv q ?_
      first | refine bI_f ?_ | refine bI_t ?_
      grind
theorem x_isPlace {d : Nat} {n : Int32} {h : PH} {Q : PQ} (q : Q (some (.int (bI (0 ≤ n ∧ n ≤ 12)))) h) : Ev (d + 2) m_X_isPlace [.int n] h Q := by
  refine ev_start (d := d + 1) rfl rfl rfl (Nat.le_of_ble_eq_true rfl) ?_
  show Wp (Ev (d + 1)) cd_X_isPlace (0, 0) (some .boolean) _ _ Q 0 [(0, .int n)] [] h
  refine w_iload_n (Ev.cm _) rfl rfl ?_
  refine w_iconst (Ev.cm _) rfl ?_
  refine w_bipush (Ev.cm _) rfl ?_
  refine w_cstat (as := [.int n, .int 0, .int 12]) (st := []) (Ev.cm _) rfl rfl rfl (Nat.le_of_ble_eq_true rfl) (Nat.le_of_ble_eq_true rfl) (x_within ?_)
  show Wp _ _ _ _ _ _ _ 7 [(0, .int n)] [.int (bI ((0 : Int32) ≤ n ∧ n ≤ (12 : Int32)))] h
  refine w_ireturn (Ev.cm _) rfl (by first | exact rok_0 | exact rok_1 | exact rok_b) rf0 ?_
  show Q (some (.int (bI ((0 : Int32) ≤ n ∧ n ≤ (12 : Int32))))) h
  exact q
theorem m_isPlace {d : Nat} {n : Int32} {h : PH} {Q : PQ} (q : Q (some (.int (bI (0 ≤ n ∧ n ≤ 12)))) h) : Ev (d + 2) m_M_isPlace [.int n] h Q := by
  refine ev_start (d := d + 1) rfl rfl rfl (Nat.le_of_ble_eq_true rfl) ?_
  show Wp (Ev (d + 1)) cd_M_isPlace (0, 0) (some .boolean) _ _ Q 0 [(0, .int n)] [] h
  refine w_iload_n (Ev.cm _) rfl rfl ?_
  refine w_iconst (Ev.cm _) rfl ?_
  refine w_bipush (Ev.cm _) rfl ?_
  refine w_cstat (as := [.int n, .int 0, .int 12]) (st := []) (Ev.cm _) rfl rfl rfl (Nat.le_of_ble_eq_true rfl) (Nat.le_of_ble_eq_true rfl) (m_isIn ?_)
  show Wp _ _ _ _ _ _ _ 7 [(0, .int n)] [.int (bI ((0 : Int32) ≤ n ∧ n ≤ (12 : Int32)))] h
  refine w_ireturn (Ev.cm _) rfl (by first | exact rok_0 | exact rok_1 | exact rok_b) rf0 ?_
  show Q (some (.int (bI ((0 : Int32) ≤ n ∧ n ≤ (12 : Int32))))) h
  exact q
theorem x_isStair {d : Nat} {n : Int32} {h : PH} {Q : PQ} (q : Q (some (.int (bI (1 ≤ n ∧ n ≤ 12)))) h) : Ev (d + 2) m_X_isStair [.int n] h Q := by
  refine ev_start (d := d + 1) rfl rfl rfl (Nat.le_of_ble_eq_true rfl) ?_
  show Wp (Ev (d + 1)) cd_X_isStair (0, 0) (some .boolean) _ _ Q 0 [(0, .int n)] [] h
  refine w_iload_n (Ev.cm _) rfl rfl ?_
  refine w_iconst (Ev.cm _) rfl ?_
  refine w_bipush (Ev.cm _) rfl ?_
  refine w_cstat (as := [.int n, .int 1, .int 12]) (st := []) (Ev.cm _) rfl rfl rfl (Nat.le_of_ble_eq_true rfl) (Nat.le_of_ble_eq_true rfl) (x_within ?_)
  show Wp _ _ _ _ _ _ _ 7 [(0, .int n)] [.int (bI ((1 : Int32) ≤ n ∧ n ≤ (12 : Int32)))] h
  refine w_ireturn (Ev.cm _) rfl (by first | exact rok_0 | exact rok_1 | exact rok_b) rf0 ?_
  show Q (some (.int (bI ((1 : Int32) ≤ n ∧ n ≤ (12 : Int32))))) h
  exact q
theorem m_isStair {d : Nat} {n : Int32} {h : PH} {Q : PQ} (q : Q (some (.int (bI (1 ≤ n ∧ n ≤ 12)))) h) : Ev (d + 2) m_M_isStair [.int n] h Q := by
  refine ev_start (d := d + 1) rfl rfl rfl (Nat.le_of_ble_eq_true rfl) ?_
  show Wp (Ev (d + 1)) cd_M_isStair (0, 0) (some .boolean) _ _ Q 0 [(0, .int n)] [] h
  refine w_iload_n (Ev.cm _) rfl rfl ?_
  refine w_iconst (Ev.cm _) rfl ?_
  refine w_bipush (Ev.cm _) rfl ?_
  refine w_cstat (as := [.int n, .int 1, .int 12]) (st := []) (Ev.cm _) rfl rfl rfl (Nat.le_of_ble_eq_true rfl) (Nat.le_of_ble_eq_true rfl) (m_isIn ?_)
  show Wp _ _ _ _ _ _ _ 7 [(0, .int n)] [.int (bI ((1 : Int32) ≤ n ∧ n ≤ (12 : Int32)))] h
  refine w_ireturn (Ev.cm _) rfl (by first | exact rok_0 | exact rok_1 | exact rok_b) rf0 ?_
  show Q (some (.int (bI ((1 : Int32) ≤ n ∧ n ≤ (12 : Int32))))) h
  exact q
theorem x_isMood {d : Nat} {n : Int32} {h : PH} {Q : PQ} (q : Q (some (.int (bI (0 ≤ n ∧ n ≤ 2)))) h) : Ev (d + 2) m_X_isMood [.int n] h Q := by
  refine ev_start (d := d + 1) rfl rfl rfl (Nat.le_of_ble_eq_true rfl) ?_
  show Wp (Ev (d + 1)) cd_X_isMood (0, 0) (some .boolean) _ _ Q 0 [(0, .int n)] [] h
  refine w_iload_n (Ev.cm _) rfl rfl ?_
  refine w_iconst (Ev.cm _) rfl ?_
  refine w_iconst (Ev.cm _) rfl ?_
  refine w_cstat (as := [.int n, .int 0, .int 2]) (st := []) (Ev.cm _) rfl rfl rfl (Nat.le_of_ble_eq_true rfl) (Nat.le_of_ble_eq_true rfl) (x_within ?_)
  show Wp _ _ _ _ _ _ _ 6 [(0, .int n)] [.int (bI ((0 : Int32) ≤ n ∧ n ≤ (2 : Int32)))] h
  refine w_ireturn (Ev.cm _) rfl (by first | exact rok_0 | exact rok_1 | exact rok_b) rf0 ?_
  show Q (some (.int (bI ((0 : Int32) ≤ n ∧ n ≤ (2 : Int32))))) h
  exact q
theorem m_isThree {d : Nat} {n : Int32} {h : PH} {Q : PQ} (q : Q (some (.int (bI (0 ≤ n ∧ n ≤ 2)))) h) : Ev (d + 2) m_M_isThree [.int n] h Q := by
  refine ev_start (d := d + 1) rfl rfl rfl (Nat.le_of_ble_eq_true rfl) ?_
  show Wp (Ev (d + 1)) cd_M_isThree (0, 0) (some .boolean) _ _ Q 0 [(0, .int n)] [] h
  refine w_iload_n (Ev.cm _) rfl rfl ?_
  refine w_iconst (Ev.cm _) rfl ?_
  refine w_iconst (Ev.cm _) rfl ?_
  refine w_cstat (as := [.int n, .int 0, .int 2]) (st := []) (Ev.cm _) rfl rfl rfl (Nat.le_of_ble_eq_true rfl) (Nat.le_of_ble_eq_true rfl) (m_isIn ?_)
  show Wp _ _ _ _ _ _ _ 6 [(0, .int n)] [.int (bI ((0 : Int32) ≤ n ∧ n ≤ (2 : Int32)))] h
  refine w_ireturn (Ev.cm _) rfl (by first | exact rok_0 | exact rok_1 | exact rok_b) rf0 ?_
  show Q (some (.int (bI ((0 : Int32) ≤ n ∧ n ≤ (2 : Int32))))) h
  exact q
theorem x_isStairSet {d : Nat} {n : Int32} {h : PH} {Q : PQ} (q : Q (some (.int (bI (n &&& (-8191) = 0)))) h) : Ev (d + 1) m_X_isStairSet [.int n] h Q := by
  refine ev_start (d := d + 0) rfl rfl rfl (Nat.le_of_ble_eq_true rfl) ?_
  show Wp (Ev (d + 0)) cd_X_isStairSet (0, 0) (some .boolean) _ _ Q 0 [(0, .int n)] [] h
  refine w_iload_n (Ev.cm _) rfl rfl ?_
  refine w_sipush (Ev.cm _) rfl ?_
  refine w_iand (Ev.cm _) rfl ?_
  refine w_if_ne (Ev.cm _) rfl (fun c1 => ?_) (fun c1 => ?_)
  · refine w_iconst (Ev.cm _) rfl ?_
    refine w_ireturn (Ev.cm _) rfl (by first | exact rok_0 | exact rok_1 | exact rok_b) rf0 ?_
    show Q (some (.int 0)) h
    refine qv q ?_
    first | refine bI_f ?_ | refine bI_t ?_
    grind
  · refine w_iconst (Ev.cm _) rfl ?_
    refine w_goto (Ev.cm _) rfl ?_
    refine w_ireturn (Ev.cm _) rfl (by first | exact rok_0 | exact rok_1 | exact rok_b) rf0 ?_
    show Q (some (.int 1)) h
    refine qv q ?_
    first | refine bI_f ?_ | refine bI_t ?_
    grind
theorem m_areStairs {d : Nat} {n : Int32} {h : PH} {Q : PQ} (q : Q (some (.int (bI (n &&& (-8191) = 0)))) h) : Ev (d + 1) m_M_areStairs [.int n] h Q := by
  refine ev_start (d := d + 0) rfl rfl rfl (Nat.le_of_ble_eq_true rfl) ?_
  show Wp (Ev (d + 0)) cd_M_areStairs (0, 0) (some .boolean) _ _ Q 0 [(0, .int n)] [] h
  refine w_iload_n (Ev.cm _) rfl rfl ?_
  refine w_sipush (Ev.cm _) rfl ?_
  refine w_iand (Ev.cm _) rfl ?_
  refine w_if_ne (Ev.cm _) rfl (fun c1 => ?_) (fun c1 => ?_)
  · refine w_iconst (Ev.cm _) rfl ?_
    refine w_ireturn (Ev.cm _) rfl (by first | exact rok_0 | exact rok_1 | exact rok_b) rf0 ?_
    show Q (some (.int 0)) h
    refine qv q ?_
    first | refine bI_f ?_ | refine bI_t ?_
    grind
  · refine w_iconst (Ev.cm _) rfl ?_
    refine w_goto (Ev.cm _) rfl ?_
    refine w_ireturn (Ev.cm _) rfl (by first | exact rok_0 | exact rok_1 | exact rok_b) rf0 ?_
    show Q (some (.int 1)) h
    refine qv q ?_
    first | refine bI_f ?_ | refine bI_t ?_
    grind
